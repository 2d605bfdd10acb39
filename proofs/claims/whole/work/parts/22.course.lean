/-! The class's rows and courses. -/
theorem bk_w_self (σ : bk_S) (k : Nat) : bk_w σ k (σ k) = σ := by
  funext a; unfold bk_w; split <;> simp_all
theorem bk_w_w (σ : bk_S) (k : Nat) (g g' : Nat → Int32) : bk_w (bk_w σ k g) k g' = bk_w σ k g' := by
  funext a; unfold bk_w; split <;> rfl
theorem bk_u_w (σ : bk_S) (k j : Nat) (g : Nat → Int32) (v : Int32) : bk_u (bk_w σ k g) k j v = bk_w σ k (upd g j v) := by
  unfold bk_u; rw [bk_w_w, bk_w_s]
theorem pz_ofNat (n : Nat) : Int32.ofNat n = nI n := rfl
theorem c_fill {q n : Nat} {v : Int32} {σ : bk_S} {post : bk_S → Prop} (hn : n < 2 ^ 30) (h : post (bk_w σ q (fun j => if j < n then v else σ q j))) : w_J_fill q n v σ post := by
  unfold w_J_fill
  simp only [bk_lt, pz_ofNat]
  refine bk_loop_up n (fun i (_ : Unit) => (nI i, bk_w σ q (fun j => if j < i then v else σ q j))) (fun _ _ => True) (i0 := 0) (b0 := ()) ?_ (Nat.zero_le _) trivial ?_ ?_
  · simp [bk_w_self, pz_0]
  · intro i _ K hi _ hK
    refine ⟨fun hle => absurd ((nI_leI (by omega) (by omega)).mp hle) (by omega), fun _ => ⟨(pz_in (by omega)).mpr hi, ?_⟩⟩
    have := hK () trivial
    simp only [nI_1, nI_clamp (show i < 2 ^ 31 by omega), bk_u_w]
    have e : upd (fun j => if j < i then v else σ q j) i v = fun j => if j < i + 1 then v else σ q j := by
      funext j; unfold upd
      by_cases h1 : j = i
      · subst h1; simp
      · rw [if_neg h1]
        show (if j < i then v else σ q j) = _
        by_cases h2 : j < i
        · rw [if_pos h2, if_pos (by omega)]
        · rw [if_neg h2, if_neg (by omega)]
    rw [e]; exact this
  · intro _ K _
    exact ⟨fun _ => h, fun hn => absurd ((nI_leI (by omega) (by omega)).mpr (Nat.le_refl n)) hn⟩
def mt_sum (f : Nat → Int32) : Nat → Int32
  | 0 => 0
  | n + 1 => mt_sum f n + f n
theorem mt_sum_congr {f g : Nat → Int32} : ∀ n, (∀ j, j < n → f j = g j) → mt_sum f n = mt_sum g n
  | 0, _ => rfl
  | n + 1, h => by unfold mt_sum; rw [mt_sum_congr n (fun j hj => h j (by omega)), h n (by omega)]
theorem c_sumOf {q n : Nat} {σ : bk_S} {post : Int32 → Prop} (hn : n < 2 ^ 30) (h : post (mt_sum (σ q) n)) : w_X8_sumOf q n σ post := by
  unfold w_X8_sumOf
  simp only [bk_lt, pz_ofNat]
  refine bk_loop_up n (fun i (_ : Unit) => (mt_sum (σ q) i, nI i)) (fun _ _ => True) (i0 := 0) (b0 := ()) ?_ (Nat.zero_le _) trivial ?_ ?_
  · simp [mt_sum, pz_0]
  · intro i _ K hi _ hK
    refine ⟨fun hle => absurd ((nI_leI (by omega) (by omega)).mp hle) (by omega), fun _ => ⟨(pz_in (by omega)).mpr hi, ?_⟩⟩
    have := hK () trivial
    simpa only [nI_1, nI_clamp (show i < 2 ^ 31 by omega), mt_sum] using this
  · intro _ K _
    exact ⟨fun _ => h, fun hn => absurd ((nI_leI (by omega) (by omega)).mpr (Nat.le_refl n)) hn⟩
theorem c_heatUp {b n : Nat} {σ : bk_S} {post : bk_S → Prop} (hn : n ≤ 8) (h : post (bk_w σ (b + 1) (fun t => if t < n ∧ σ (b + 2) t = -1 ∧ ¬ 9 ≤ σ (b + 1) t then σ (b + 1) t + 1 else σ (b + 1) t))) : w_X1_heatUp b (nI n) σ post := by
  unfold w_X1_heatUp
  simp only [bk_lt]
  refine bk_loop_up n (fun i (_ : Unit) => (nI i, bk_w σ (b + 1) (fun t => if t < i ∧ σ (b + 2) t = -1 ∧ ¬ 9 ≤ σ (b + 1) t then σ (b + 1) t + 1 else σ (b + 1) t))) (fun _ _ => True) (i0 := 0) (b0 := ()) ?_ (Nat.zero_le _) trivial ?_ ?_
  · simp [bk_w_self, pz_0]
  · intro i _ K hi _ hK
    refine ⟨fun hle => absurd ((nI_leI (by omega) (by omega)).mp hle) (by omega), fun _ => ⟨(pz_in (by omega)).mpr (by omega), ?_⟩⟩
    have hK := hK () trivial
    have hv : vp_in (nI i) 8 := (pz_in (by omega)).mpr (by omega)
    have hne : b + 2 ≠ b + 1 := by omega
    simp only [nI_1, nI_clamp (show i < 2 ^ 31 by omega), bk_u_w, bk_w_s, bk_w_n σ _ hne, Nat.lt_irrefl, false_and, if_false]
    refine ⟨fun h1 => ?_, fun h1 => ⟨hv, fun h2 => ?_, fun h2 => ⟨hv, hv, ?_⟩⟩⟩
    · refine cast (congrArg (fun g => K (nI (i + 1), bk_w σ (b + 1) g)) ?_) hK
      funext t
      by_cases ht : t = i
      · subst ht; simp [h1]
      · simp [show (t < i + 1 ↔ t < i) by omega]
    · refine cast (congrArg (fun g => K (nI (i + 1), bk_w σ (b + 1) g)) ?_) hK
      funext t
      by_cases ht : t = i
      · subst ht; simp [h2]
      · simp [show (t < i + 1 ↔ t < i) by omega]
    · refine cast (congrArg (fun g => K (nI (i + 1), bk_w σ (b + 1) g)) ?_) hK
      funext t
      unfold upd
      by_cases ht : t = i
      · subst ht; simp [h1, h2]
      · simp [ht, show (t < i + 1 ↔ t < i) by omega]
  · intro _ K _
    exact ⟨fun _ => h, fun hn => absurd ((nI_leI (by omega) (by omega)).mpr (Nat.le_refl n)) hn⟩
theorem c_whatIsSaid {b s h : Nat} {σ p : bk_S} {se : Nat → Int32} {post : Int32 → Prop} (hp : mt_ok p) (h1 : σ s 1 = p 0 1) (h2 : ∀ t, t < mt_nt p → σ (s + 2) t = p 2 t) (h4 : ∀ t, t < mt_nt p → σ (s + 4) t = p 4 t) (hse : ∀ t, t < 8 → σ (b + 2) t = se t) (hc : σ b 11 = nI (mt_cs se (mt_nt p))) (hpost : post (mt_ch p se (nI h))) : w_X1_whatIsSaid b s (nI h) σ post := by
  have hnt := hp.nt
  have hcl := mt_cs_le se (mt_nt p)
  unfold w_X1_whatIsSaid
  simp only [bk_lt, bk_jn]
  rw [hc, h1, hnt.1]
  refine ⟨fun hne => ?_, fun heq => ?_⟩
  · have hopen : ¬ ∀ t, t < mt_nt p → ¬ se t = -1 := fun hall => hne (by rw [(mt_cs_all se _).mpr hall])
    refine bk_loop_up (mt_nt p) (fun i (q : Int32) => (q, nI i)) (fun i q => ∃ o : Bool, (o = false → ∀ j, j < i → ¬ se j = -1) ∧ post (mt_sc p se (nI h) (mt_nt p - i) i q o)) (i0 := 0) (b0 := -1) rfl (Nat.zero_le _) ⟨false, fun _ j hj => absurd hj (Nat.not_lt_zero _), hpost⟩ ?_ ?_
    · rintro i q K hi ⟨o, ho, hI⟩ hK
      have hv : vp_in (nI i) 8 := (pz_in (by omega)).mpr (by omega)
      refine ⟨fun hle => absurd ((nI_leI (by omega) (by omega)).mp hle) (by omega), fun _ => ⟨hv, ?_⟩⟩
      simp only [nI_1, nI_clamp (show i < 2 ^ 31 by omega), hse i (by omega), h2 i hi, h4 i hi]
      rw [show mt_nt p - i = (mt_nt p - (i + 1)) + 1 by omega, mt_sc] at hI
      have hso := (hp.2.2.2 i hi).1
      refine ⟨fun hs => ?_, fun hs => ?_⟩
      · rw [if_pos hs] at hI
        refine ⟨hv, fun n2 => ⟨hv, fun n1 => ⟨hv, fun hlt => ?_, fun hlt => ?_⟩, fun e1 => ⟨hv, fun hlt => ?_, fun hlt => ?_⟩⟩, fun e2 => ?_⟩
        · rw [if_neg (by rintro (⟨_, hh⟩ | ⟨hh, _⟩); exact absurd hlt (Int32.not_lt.mpr hh); exact n1 hh), if_neg (fun hh => n2 hh.1)] at hI
          exact hK _ ⟨true, fun hh => by simp at hh, hI⟩
        · rcases hso with e0 | e1 | e2
          · rw [if_pos (Or.inl ⟨e0, Int32.not_lt.mp hlt⟩)] at hI; exact hI
          · exact absurd e1 n1
          · exact absurd e2 n2
        · rw [if_neg (by rintro (⟨hh, _⟩ | ⟨_, hh⟩); (rw [e1] at hh; exact absurd hh (by decide)); exact absurd hlt (Int32.not_lt.mpr hh)), if_neg (fun hh => n2 hh.1)] at hI
          exact hK _ ⟨true, fun hh => by simp at hh, hI⟩
        · rw [if_pos (Or.inr ⟨e1, Int32.not_lt.mp hlt⟩)] at hI; exact hI
        · rw [if_neg (by rintro (⟨hh, _⟩ | ⟨hh, _⟩) <;> (rw [e2] at hh; exact absurd hh (by decide)))] at hI
          refine hK _ ⟨true, fun hh => by simp at hh, ?_⟩
          simpa [e2] using hI
      · rw [if_neg hs] at hI
        refine hK _ ⟨o, fun hh j hj => ?_, hI⟩
        rcases Nat.lt_or_ge j i with hj2 | hj2
        · exact ho hh j hj2
        · obtain rfl : j = i := by omega
          exact hs
    · rintro q K ⟨o, ho, hI⟩
      refine ⟨fun _ => ?_, fun hn => absurd ((nI_leI (by omega) (by omega)).mpr (Nat.le_refl _)) hn⟩
      rw [Nat.sub_self, mt_sc] at hI
      refine ⟨fun hq => by rwa [if_neg hq] at hI, fun hq => ?_⟩
      rw [if_pos hq] at hI
      cases o with
      | true => simpa using hI
      | false => exact absurd (ho rfl) hopen
  · have hall := (mt_cs_all se _).mp ((nI_eq (by omega) (by omega)).mp heq)
    rcases mt_ch_spec p se (nI h) hnt.2 with ⟨j, a1, a2, a3⟩ | ⟨a1, a2⟩ | ⟨a1, j, a2, a3⟩
    · exact absurd a3 (hall j a1)
    · rw [a1] at hpost; exact hpost
    · exact absurd a3 (hall j a2)
