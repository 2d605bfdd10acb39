/-! What a season comes to, as numbers. p: what is told or tried (row 0: hooks, things; 1 takes; 2 sort; 3 heat at first; 4 mark; 5 hooks left, as bits, by evening; 6 silence by evening). G: an evening's numbers (row 0 heat; 1 settled; 2 highest; 3 minutes said; 4 what was said last, by hook; 5 minutes, holiday, nothing, settled now). -/
def mt_nh (p : bk_S) : Nat := (p 0 0).toNatClampNeg
def mt_nt (p : bk_S) : Nat := (p 0 1).toNatClampNeg
def mt_sc (p : bk_S) (se : Nat → Int32) (h : Int32) : Nat → Nat → Int32 → Bool → Int32
  | 0, _, q, o => if q = -1 then (if o = true then 9 else 8) else q
  | n + 1, t, q, o =>
    if se t = -1 then
      if (p 2 t = 0 ∧ h ≤ p 4 t) ∨ (p 2 t = 1 ∧ p 4 t ≤ h) then nI t
      else mt_sc p se h n (t + 1) (if p 2 t = 2 ∧ q = -1 then nI t else q) true
    else mt_sc p se h n (t + 1) q o
def mt_ch (p : bk_S) (se : Nat → Int32) (h : Int32) : Int32 := mt_sc p se h (mt_nt p) 0 (-1) false
def mt_by (p G : bk_S) (k : Nat) (last : Bool) : Int32 := if p 2 k = 1 ∧ 0 < G 5 3 then 2 else if p 2 k = 2 ∧ last = true then 3 else 1
def mt_sf (p G : bk_S) (k : Nat) (last : Bool) : Int32 := if G 0 k < mt_by p G k last then 0 else G 0 k - mt_by p G k last
/-- a thing is said at hook h -/
def mt_sy (p : bk_S) (e h k : Nat) (last : Bool) (G : bk_S) : bk_S :=
  if mt_sf p G k last = 0 then bk_u (bk_u (bk_u (bk_u (bk_u G 3 k (G 3 k + 1)) 2 k (if G 2 k < nI h then nI h else G 2 k)) 0 k 0) 1 k (nI e)) 5 3 (G 5 3 + 1)
  else bk_u (bk_u (bk_u G 3 k (G 3 k + 1)) 2 k (if G 2 k < nI h then nI h else G 2 k)) 0 k (mt_sf p G k last)
/-- a minute begins at hook h, r is said -/
def mt_m1 (h : Nat) (r : Int32) (G : bk_S) : bk_S := bk_u (bk_u G 5 0 (G 5 0 + 1)) 4 h r
def mt_m2 (p : bk_S) (e h : Nat) (last : Bool) (r : Int32) (G : bk_S) : bk_S :=
  if r = 8 then bk_u G 5 1 (G 5 1 + 1) else if r = 9 then bk_u G 5 2 (G 5 2 + 1) else mt_sy p e h r.toNatClampNeg last G
def mt_mn (p : bk_S) (e h : Nat) (last : Bool) (G : bk_S) : bk_S := mt_m2 p e h last (mt_ch p (G 1) (nI h)) (mt_m1 h (mt_ch p (G 1) (nI h)) G)
def mt_it (f : bk_S → bk_S) : Nat → bk_S → bk_S
  | 0, G => G
  | n + 1, G => f (mt_it f n G)
def mt_hu (n : Nat) (G : bk_S) : bk_S := bk_w G 0 (fun t => if t < n ∧ G 1 t = -1 ∧ ¬ 9 ≤ G 0 t then G 0 t + 1 else G 0 t)
def mt_l1 (p : bk_S) (L : Int32) : Nat → Int32
  | 0 => -1
  | n + 1 => if mt_b L n = false ∧ 0 < p 1 n then nI n else mt_l1 p L n
def mt_l2 (L : Int32) (x : Int32) : Nat → Int32
  | 0 => x
  | n + 1 => if mt_b L n = true then nI n else mt_l2 L x n
/-- the last hook that takes a minute -/
def mt_lh (p : bk_S) (e : Nat) : Int32 := mt_l2 (p 5 e) (mt_l1 p (p 5 e) (mt_nh p)) (mt_nh p)
def mt_tk (p : bk_S) (e h : Nat) : Nat := (p 1 h).toNatClampNeg + (if mt_b (p 5 e) h = true then 1 else 0)
def mt_hk (p : bk_S) (e : Nat) (lf : Bool) (h : Nat) (G : bk_S) : bk_S := if mt_b (p 5 e) h = lf then mt_it (mt_mn p e h (decide (nI h = mt_lh p e))) (mt_tk p e h) G else G
def mt_ds (p : bk_S) (e : Nat) (lf : Bool) : Nat → bk_S → bk_S
  | 0, G => G
  | n + 1, G => mt_hk p e lf n (mt_ds p e lf n G)
def mt_rs (G : bk_S) : bk_S := bk_w (bk_w (bk_w G 3 (fun _ => 0)) 4 (fun _ => -1)) 5 (fun _ => 0)
def mt_fr (p : bk_S) (e : Nat) (G : bk_S) : bk_S := if p 6 e &&& 2 = 0 then G else mt_hu (mt_nt p) G
def mt_dd (p : bk_S) (e : Nat) (G : bk_S) : bk_S := if p 6 e = 0 then mt_ds p e true (mt_nh p) (mt_ds p e false (mt_nh p) G) else G
def mt_en (p : bk_S) (e : Nat) (G : bk_S) : bk_S := mt_dd p e (mt_fr p e (mt_rs G))
def mt_i0 (p : bk_S) : bk_S := fun r k => match r with
  | 0 => if k < mt_nt p then p 3 k else 0
  | 1 => -1
  | 2 => -1
  | 4 => -1
  | _ => 0
/-- the start of an evening's numbers, ahead of what befalls in it -/
def mt_st (p : bk_S) : Nat → bk_S
  | 0 => mt_i0 p
  | e + 1 => mt_hu (mt_nt p) (mt_en p e (mt_st p e))
/-- behind evening e -/
def mt_ev (p : bk_S) (e : Nat) : bk_S := mt_en p e (mt_st p e)
/-- what is told is as it may be -/
def mt_ok (p : bk_S) : Prop := (∃ n, n ≤ 12 ∧ p 0 0 = nI n) ∧ (∃ n, n ≤ 8 ∧ p 0 1 = nI n) ∧ (∀ h, h < mt_nh p → ∃ n, n ≤ 2 ∧ p 1 h = nI n) ∧ (∀ t, t < mt_nt p → (p 2 t = 0 ∨ p 2 t = 1 ∨ p 2 t = 2) ∧ ∃ n, 1 ≤ n ∧ n ≤ 9 ∧ p 3 t = nI n)
/-- an evening's numbers are as they may be -/
def mt_gk (p G : bk_S) : Prop := ∀ t, t < mt_nt p → (G 1 t = -1 → ∃ n, 1 ≤ n ∧ n ≤ 9 ∧ G 0 t = nI n) ∧ (¬ G 1 t = -1 → ∃ e, e < 12 ∧ G 1 t = nI e)
def mt_cs (se : Nat → Int32) : Nat → Nat
  | 0 => 0
  | n + 1 => mt_cs se n + (if se n = -1 then 0 else 1)
theorem mt_cs_le (se : Nat → Int32) : ∀ n, mt_cs se n ≤ n
  | 0 => Nat.le_refl 0
  | n + 1 => by have := mt_cs_le se n; unfold mt_cs; split <;> omega
theorem mt_cs_all (se : Nat → Int32) : ∀ n, mt_cs se n = n ↔ ∀ t, t < n → ¬ se t = -1
  | 0 => by simp [mt_cs]
  | n + 1 => by
    have h1 := mt_cs_le se n
    have h2 := mt_cs_all se n
    unfold mt_cs
    constructor
    · intro h t ht
      by_cases hs : se n = -1
      · rw [if_pos hs] at h; omega
      · rw [if_neg hs] at h
        rcases Nat.lt_or_ge t n with h3 | h3
        · exact h2.mp (by omega) t h3
        · obtain rfl : t = n := by omega
          exact hs
    · intro h
      rw [if_neg (h n (by omega)), h2.mpr (fun t ht => h t (by omega))]
theorem mt_cs_congr {se se' : Nat → Int32} : ∀ n, (∀ t, t < n → se t = se' t) → mt_cs se n = mt_cs se' n
  | 0, _ => rfl
  | n + 1, h => by unfold mt_cs; rw [mt_cs_congr n (fun t ht => h t (by omega)), h n (by omega)]
theorem mt_cs_set {se : Nat → Int32} {k : Nat} {v : Int32} (hk : se k = -1) (hv : ¬ v = -1) : ∀ n, k < n → mt_cs (upd se k v) n = mt_cs se n + 1
  | 0, h => absurd h (Nat.not_lt_zero _)
  | n + 1, h => by
    unfold mt_cs
    rcases Nat.lt_or_ge k n with h1 | h1
    · rw [mt_cs_set hk hv n h1]
      have : upd se k v n = se n := by unfold upd; rw [if_neg (by omega)]
      rw [this]; omega
    · obtain rfl : k = n := by omega
      rw [mt_cs_congr (se := upd se k v) (se' := se) k (fun t ht => by unfold upd; rw [if_neg (by omega)])]
      have : upd se k v k = v := by unfold upd; rw [if_pos rfl]
      rw [this, if_neg hv, if_pos hk]
theorem mt_nh_of {p : bk_S} {n : Nat} (h : p 0 0 = nI n) (hn : n ≤ 12) : mt_nh p = n := by unfold mt_nh; rw [h]; exact nI_clamp (by omega)
theorem mt_nt_of {p : bk_S} {n : Nat} (h : p 0 1 = nI n) (hn : n ≤ 8) : mt_nt p = n := by unfold mt_nt; rw [h]; exact nI_clamp (by omega)
theorem mt_ok.nh {p : bk_S} (h : mt_ok p) : p 0 0 = nI (mt_nh p) ∧ mt_nh p ≤ 12 := by obtain ⟨⟨n, h1, h2⟩, -⟩ := h; rw [mt_nh_of h2 h1]; exact ⟨h2, h1⟩
theorem mt_ok.nt {p : bk_S} (h : mt_ok p) : p 0 1 = nI (mt_nt p) ∧ mt_nt p ≤ 8 := by obtain ⟨-, ⟨n, h1, h2⟩, -⟩ := h; rw [mt_nt_of h2 h1]; exact ⟨h2, h1⟩
/-- what is said is a thing that is open, or 8 when all is settled, or 9 -/
theorem mt_sc_spec (p : bk_S) (se : Nat → Int32) (h : Int32) : ∀ n t q o, (q = -1 ∨ ∃ j, j < t ∧ q = nI j ∧ se j = -1) → t + n ≤ 8 → (o = false → ∀ j, j < t → ¬ se j = -1) → (o = true → ∃ j, j < t ∧ se j = -1) →
    (∃ j, j < t + n ∧ mt_sc p se h n t q o = nI j ∧ se j = -1) ∨ (mt_sc p se h n t q o = 8 ∧ ∀ j, j < t + n → ¬ se j = -1) ∨ (mt_sc p se h n t q o = 9 ∧ ∃ j, j < t + n ∧ se j = -1)
  | 0, t, q, o, hq, _, ho, ho' => by
    unfold mt_sc
    rcases hq with rfl | ⟨j, h1, rfl, h2⟩
    · simp only [if_true]
      cases o with
      | true => exact Or.inr (Or.inr ⟨by simp, ho' rfl⟩)
      | false => exact Or.inr (Or.inl ⟨by simp, ho rfl⟩)
    · rw [if_neg (pz_ne_m1 (by omega))]
      exact Or.inl ⟨j, h1, rfl, h2⟩
  | n + 1, t, q, o, hq, ht, ho, ho' => by
    unfold mt_sc
    have hlt : t + (n + 1) = t + 1 + n := by omega
    by_cases hs : se t = -1
    · rw [if_pos hs]
      split
      · exact Or.inl ⟨t, by omega, rfl, hs⟩
      · rw [hlt]
        refine mt_sc_spec p se h n (t + 1) _ true ?_ (by omega) (fun h => by simp at h) (fun _ => ⟨t, by omega, hs⟩)
        split
        · exact Or.inr ⟨t, by omega, rfl, hs⟩
        · rcases hq with rfl | ⟨j, h1, h2, h3⟩
          · exact Or.inl rfl
          · exact Or.inr ⟨j, by omega, h2, h3⟩
    · rw [if_neg hs, hlt]
      refine mt_sc_spec p se h n (t + 1) q o ?_ (by omega) (fun h j hj => ?_) (fun h => ?_)
      · rcases hq with rfl | ⟨j, h1, h2, h3⟩
        · exact Or.inl rfl
        · exact Or.inr ⟨j, by omega, h2, h3⟩
      · rcases Nat.lt_or_ge j t with h1 | h1
        · exact ho h j h1
        · obtain rfl : j = t := by omega
          exact hs
      · obtain ⟨j, h1, h2⟩ := ho' h
        exact ⟨j, by omega, h2⟩
theorem mt_ch_spec (p : bk_S) (se : Nat → Int32) (h : Int32) (hn : mt_nt p ≤ 8) : (∃ j, j < mt_nt p ∧ mt_ch p se h = nI j ∧ se j = -1) ∨ (mt_ch p se h = 8 ∧ ∀ j, j < mt_nt p → ¬ se j = -1) ∨ (mt_ch p se h = 9 ∧ ∃ j, j < mt_nt p ∧ se j = -1) := by
  have := mt_sc_spec p se h (mt_nt p) 0 (-1) false (Or.inl rfl) (by omega) (fun _ j hj => absurd hj (Nat.not_lt_zero _)) (fun h => by simp at h)
  simpa [mt_ch] using this
