/-! The class's state: what is told in it, what it has kept. -/
def bs_n0 (σ : bk_S) : Nat := (σ 1 2).toNatClampNeg
def bs_n1 (σ : bk_S) : Nat := (σ 3 2).toNatClampNeg
def bs_ne (σ : bk_S) : Nat := (σ 5 3).toNatClampNeg
def bs_ns (σ : bk_S) : Nat := (σ 9 3).toNatClampNeg
def tp (σ : bk_S) (wh : Nat → Bool) : bk_S := fun r j => match r with
  | 0 => if j = 0 then nI (tx_hN (bs_n0 σ) (σ 2)) else nI (tx_tN (bs_n1 σ) (σ 4))
  | 1 => tx_mo (σ 2 j)
  | 2 => tx_so (σ 4 (4 * j))
  | 3 => σ 4 (4 * j + 1) - 48
  | 4 => σ 4 (4 * j + 2) - 48
  | 5 => te_l (σ 6) (σ 7) (σ 8) wh j (bs_ne σ)
  | 6 => te_s (σ 6) (σ 7) wh j (bs_ne σ)
  | _ => 0
def ib (σ : bk_S) : Prop :=
  (bs_n0 σ ≤ 12 ∧ σ 1 2 = nI (bs_n0 σ)) ∧ (bs_n1 σ ≤ 31 ∧ σ 3 2 = nI (bs_n1 σ)) ∧ σ 1 1 = 12 ∧ σ 3 1 = 31 ∧ (∀ j, j < bs_n1 σ → ∃ m, m < 256 ∧ σ 4 j = nI m) ∧
  (bs_ne σ ≤ 8 ∧ σ 5 3 = nI (bs_ne σ)) ∧ (∀ i, i < bs_ne σ → (σ 6 i = 0 ∨ σ 6 i = 1 ∨ σ 6 i = 2) ∧ (∃ e, e < 12 ∧ σ 7 i = nI e) ∧ ∃ k, k < 12 ∧ σ 8 i = nI k) ∧
  (bs_ns σ ≤ 8 ∧ σ 9 3 = nI (bs_ns σ)) ∧ (∀ i, i < bs_ns σ → (∃ e, e < 12 ∧ σ 10 i = nI e) ∧ (∃ t, t < 8 ∧ σ 11 i = nI t) ∧ (σ 12 i = 0 ∨ σ 12 i = 1)) ∧
  (∀ s, s < 4 → (σ (14 + 2 * s) 0 = 0 ∨ σ (14 + 2 * s) 0 = 1 ∨ σ (14 + 2 * s) 0 = 2) ∧ (σ (14 + 2 * s) 1 = -1 ∨ ∃ n, n ≤ 60 ∧ σ (14 + 2 * s) 1 = nI n))
def bs_E (σ σ' : bk_S) : Prop := (∀ k, 1 ≤ k → k ≤ 21 → σ' k = σ k) ∧ σ' 0 15 = σ 0 15
theorem bs_E.rf (σ : bk_S) : bs_E σ σ := ⟨fun _ _ _ => rfl, rfl⟩
theorem bs_E.tr {a b c : bk_S} (h : bs_E a b) (h' : bs_E b c) : bs_E a c := ⟨fun k h1 h2 => (h'.1 k h1 h2).trans (h.1 k h1 h2), h'.2.trans h.2⟩
theorem tp_E {σ σ' : bk_S} (h : bs_E σ σ') (wh : Nat → Bool) : tp σ' wh = tp σ wh := by
  unfold tp bs_n0 bs_n1 bs_ne
  rw [h.1 1 (by omega) (by omega), h.1 2 (by omega) (by omega), h.1 3 (by omega) (by omega), h.1 4 (by omega) (by omega), h.1 5 (by omega) (by omega), h.1 6 (by omega) (by omega), h.1 7 (by omega) (by omega), h.1 8 (by omega) (by omega)]
theorem bs_ne_E {σ σ' : bk_S} (h : bs_E σ σ') : bs_ne σ' = bs_ne σ := by unfold bs_ne; rw [h.1 5 (by omega) (by omega)]
theorem bs_ns_E {σ σ' : bk_S} (h : bs_E σ σ') : bs_ns σ' = bs_ns σ := by unfold bs_ns; rw [h.1 9 (by omega) (by omega)]
theorem ib.E {σ σ' : bk_S} (h : ib σ) (e : bs_E σ σ') : ib σ' := by
  have q := fun k h1 h2 => e.1 k h1 h2
  unfold ib bs_n0 bs_n1 bs_ne bs_ns at *
  rw [q 1 (by omega) (by omega), q 3 (by omega) (by omega), q 4 (by omega) (by omega), q 5 (by omega) (by omega), q 6 (by omega) (by omega), q 7 (by omega) (by omega), q 8 (by omega) (by omega), q 9 (by omega) (by omega), q 10 (by omega) (by omega), q 11 (by omega) (by omega), q 12 (by omega) (by omega)]
  obtain ⟨a1, a2, a3, a4, a5, a6, a7, a8, a9, a10⟩ := h
  refine ⟨a1, a2, a3, a4, a5, a6, a7, a8, a9, fun s hs => ?_⟩
  rw [q (14 + 2 * s) (by omega) (by omega)]; exact a10 s hs
theorem te_l_congr {k a n : Nat → Int32} {w w' : Nat → Bool} {e : Nat} : ∀ m, (∀ i, i < m → w i = w' i) → te_l k a n w e m = te_l k a n w' e m
  | 0, _ => rfl
  | m + 1, h => by rw [te_l, te_l, te_l_congr m (fun i hi => h i (by omega)), h m (by omega)]
theorem te_s_congr {k a : Nat → Int32} {w w' : Nat → Bool} {e : Nat} : ∀ m, (∀ i, i < m → w i = w' i) → te_s k a w e m = te_s k a w' e m
  | 0, _ => rfl
  | m + 1, h => by rw [te_s, te_s, te_s_congr m (fun i hi => h i (by omega)), h m (by omega)]
theorem tp_congr {σ : bk_S} {w w' : Nat → Bool} (h : ∀ i, i < bs_ne σ → w i = w' i) : tp σ w = tp σ w' := by
  funext r j
  unfold tp
  match r with
  | 0 => rfl
  | 1 => rfl
  | 2 => rfl
  | 3 => rfl
  | 4 => rfl
  | 5 => exact te_l_congr _ h
  | 6 => exact te_s_congr _ h
  | _ + 7 => rfl
theorem tx_hN_le {n : Nat} {f : Nat → Int32} : tx_hN n f ≤ n := by unfold tx_hN; split <;> omega
theorem tp_nh {σ : bk_S} (h : ib σ) (w : Nat → Bool) : mt_nh (tp σ w) = tx_hN (bs_n0 σ) (σ 2) := by
  unfold mt_nh; show Int32.toNatClampNeg (nI _) = _
  exact nI_clamp (by have := tx_hN_le (n := bs_n0 σ) (f := σ 2); have := h.1.1; omega)
theorem tp_nt {σ : bk_S} (h : ib σ) (w : Nat → Bool) : mt_nt (tp σ w) = tx_tN (bs_n1 σ) (σ 4) := by
  unfold mt_nt; show Int32.toNatClampNeg (nI _) = _
  exact nI_clamp (by have := tx_tN_le (f := σ 4) h.2.1.1; omega)
theorem tx_tN_ms {n : Nat} {f : Nat → Int32} (hn : n ≤ 31) {t : Nat} (ht : t < tx_tN n f) : ∀ i, i < n → tx_ms i (f i) = true := by
  intro i hi
  unfold tx_tN at ht
  by_cases h : tx_tF n f = -1
  · unfold tx_tF at h
    by_cases h2 : tx_tB n f = -1
    · have := (mt_ff_m1 (by omega)).mp h2 i hi
      simpa using this
    · rw [if_neg h2] at h; exact absurd h h2
  · rw [if_neg h] at ht; omega
theorem tp_ok {σ : bk_S} (h : ib σ) (w : Nat → Bool) : mt_ok (tp σ w) := by
  have hN := tx_tN_le (f := σ 4) h.2.1.1
  refine ⟨⟨_, Nat.le_trans tx_hN_le h.1.1, rfl⟩, ⟨_, hN.1, rfl⟩, fun k hk => ?_, fun t ht => ?_⟩
  · rw [tp_nh h] at hk
    show ∃ n, n ≤ 2 ∧ tx_mo (σ 2 k) = nI n
    have hne : ¬ tx_mo (σ 2 k) = -1 := by
      unfold tx_hN at hk
      by_cases hf : tx_hF (bs_n0 σ) (σ 2) = -1
      · rw [if_pos hf] at hk
        have := (mt_ff_m1 (by have := h.1.1; omega)).mp hf k hk
        simpa using this
      · rw [if_neg hf] at hk; omega
    unfold tx_mo at hne ⊢
    split
    · exact ⟨0, by omega, rfl⟩
    · split
      · exact ⟨1, by omega, rfl⟩
      · split
        · exact ⟨2, by omega, rfl⟩
        · simp_all
  · rw [tp_nt h] at ht
    have h4 := hN.2 (by omega)
    have ms := tx_tN_ms h.2.1.1 ht
    refine ⟨?_, ?_⟩
    · show tx_so (σ 4 (4 * t)) = 0 ∨ tx_so (σ 4 (4 * t)) = 1 ∨ tx_so (σ 4 (4 * t)) = 2
      have q := ms (4 * t) (by omega)
      unfold tx_ms at q
      rw [if_pos (by omega)] at q
      have hne : ¬ tx_so (σ 4 (4 * t)) = -1 := by simpa using q
      unfold tx_so at hne ⊢
      split
      · exact Or.inl rfl
      · split
        · exact Or.inr (Or.inr rfl)
        · split
          · exact Or.inr (Or.inl rfl)
          · simp_all
    · show ∃ n, 1 ≤ n ∧ n ≤ 9 ∧ σ 4 (4 * t + 1) - 48 = nI n
      have q := ms (4 * t + 1) (by omega)
      unfold tx_ms at q
      rw [if_neg (by omega), if_pos (by omega)] at q
      obtain ⟨m, hm, hb⟩ := h.2.2.2.2.1 (4 * t + 1) (by omega)
      rw [hb] at q ⊢
      have q : 49 ≤ nI m ∧ nI m ≤ 57 := by simpa using q
      have q1 : 49 ≤ m := (nI_leI (a := 49) (by omega) (by omega)).mp q.1
      have q2 : m ≤ 57 := (nI_leI (b := 57) (by omega) (by omega)).mp q.2
      exact ⟨m - 48, by omega, by omega, pk_sub (a := m) (b := 48) (by omega)⟩
def tA : Nat → Bool := fun _ => true
def fr_T (σ : bk_S) : Prop := cr_S 22 (tp σ tA) σ ∧ cr_Dn 36 (tp σ tA) σ
def c_T (σ : bk_S) : Prop := σ 0 13 = 0 → fr_T σ
theorem c_refresh {σ : bk_S} {post : bk_S → Prop} (hi : ib σ) (hT : c_T σ) (hpost : ∀ σ', bs_E σ σ' → σ' 0 13 = 0 → σ' 0 14 = σ 0 14 → σ' 64 = σ 64 → fr_T σ' → post σ') : w_X8_refresh σ post := by
  have hp := tp_ok hi tA
  have hne := hi.2.2.2.2.2.1
  unfold w_X8_refresh
  refine ⟨fun _ => ?_, fun h0 => hpost σ (bs_E.rf σ) h0 rfl rfl (hT h0)⟩
  refine c_takeHooks (s := 22) (b := 1) hi.1.1 (by omega) hi.1.2 (fun σ1 a1 a2 a3 a4 => ?_)
  refine c_takeThings (s := 22) (b := 3) (n := bs_n1 σ) hi.2.1.1 (by omega) (by rw [a1 3 (by omega) (by omega)]; exact hi.2.1.2) (fun σ2 b1 b2 b3 b4 => ?_)
  have r2 : ∀ k, k < 22 → σ2 k = σ k := fun k hk => by rw [b1 k (by omega) (by omega) (by omega) (by omega), a1 k (by omega) (by omega)]
  have r4 : σ1 (3 + 1) = σ 4 := a1 4 (by omega) (by omega)
  have r1 : σ (1 + 1) = σ 2 := rfl
  unfold w_X8_allEvents
  refine c_takeEvents (s := 22) (b := 5) (ne := bs_ne σ) (by omega) hne.1 (by rw [r2 5 (by omega)]; exact hne.2) (fun i hi2 => by rw [r2 7 (by omega)]; exact (hi.2.2.2.2.2.2.1 i hi2).2.1) (fun σ4 d1 d2 => ?_)
  have hS : cr_S 22 (tp σ tA) σ4 := by
    have hw : ∀ i, i < bs_ne σ → mt_b ((1 : Int32) <<< (σ2 5 3 &&& 31) - 1) i = tA i := fun i hi2 => by
      rw [r2 5 (by omega), hne.2, mt_b_ones (by omega) (by omega)]; simp [hi2, tA]
    have z : ∀ k, k ≠ 22 + 5 → k ≠ 22 + 6 → σ4 k = σ2 k := d1
    rw [r4] at b2 b4
    rw [r1] at a2 a4
    refine ⟨?_, ?_, fun h hh => ?_, fun t ht => ?_, fun t ht => ?_, fun t ht => ?_, fun e he => ?_, fun e he => ?_⟩
    · rw [z 22 (by omega) (by omega), b3 0 (by omega), a2]; rfl
    · rw [z 22 (by omega) (by omega), b2]; rfl
    · rw [tp_nh hi] at hh
      rw [z (22 + 1) (by omega) (by omega), b1 (22 + 1) (by omega) (by omega) (by omega) (by omega), a4 h hh]; rfl
    · rw [tp_nt hi] at ht
      rw [z (22 + 2) (by omega) (by omega), (b4 t ht).1]; rfl
    · rw [tp_nt hi] at ht
      rw [z (22 + 3) (by omega) (by omega), (b4 t ht).2.1]; rfl
    · rw [tp_nt hi] at ht
      rw [z (22 + 4) (by omega) (by omega), (b4 t ht).2.2]; rfl
    · rw [(d2 e he).1, te_l_congr _ hw]
      show te_l (σ2 6) (σ2 7) (σ2 8) tA e (bs_ne σ) = te_l (σ 6) (σ 7) (σ 8) tA e (bs_ne σ)
      rw [r2 6 (by omega), r2 7 (by omega), r2 8 (by omega)]
    · rw [(d2 e he).2, te_s_congr _ hw]
      show te_s (σ2 6) (σ2 7) tA e (bs_ne σ) = te_s (σ 6) (σ 7) tA e (bs_ne σ)
      rw [r2 6 (by omega), r2 7 (by omega)]
  have k4 : ∀ k, k < 22 ∨ 28 < k → σ4 k = σ k := fun k hk => by rw [d1 k (by omega) (by omega), b1 k (by omega) (by omega) (by omega) (by omega), a1 k (by omega) (by omega)]
  refine c_run (s := 22) (c := 36) hp (by omega) hS (fun σ5 hF hD => ?_)
  simp only [bk_lt_iff]
  have hE5 : bs_E σ (bk_u σ5 0 13 0) := by
    refine ⟨fun k h1 h2 => ?_, ?_⟩
    · rw [bk_u_row _ (by omega), hF k (by omega), k4 k (by omega)]
    · rw [bk_u_at, if_neg (by omega), hF 0 (by omega), k4 0 (by omega)]
  refine hpost _ hE5 (bk_u_same _ _ _ _) ?_ ?_ ?_
  · rw [bk_u_at, if_neg (by omega), hF 0 (by omega), k4 0 (by omega)]
  · rw [bk_u_row _ (by omega), hF 64 (by omega), k4 64 (by omega)]
  · unfold fr_T
    rw [tp_E hE5]
    refine ⟨?_, ?_⟩
    · have := hS.F hF (Or.inl (by omega))
      unfold cr_S at this ⊢
      rw [bk_u_row (a := 22) _ (by omega), bk_u_row (a := 22 + 1) _ (by omega), bk_u_row (a := 22 + 2) _ (by omega), bk_u_row (a := 22 + 3) _ (by omega), bk_u_row (a := 22 + 4) _ (by omega), bk_u_row (a := 22 + 5) _ (by omega), bk_u_row (a := 22 + 6) _ (by omega)]
      exact this
    · unfold cr_Dn at hD ⊢
      rw [bk_u_row (a := 36) _ (by omega), bk_u_row (a := 36 + 2) _ (by omega), bk_u_row (a := 36 + 3) _ (by omega), bk_u_row (a := 36 + 4) _ (by omega), bk_u_row (a := 36 + 5) _ (by omega), bk_u_row (a := 36 + 6) _ (by omega), bk_u_row (a := 36 + 7) _ (by omega), bk_u_row (a := 36 + 8) _ (by omega), bk_u_row (a := 36 + 9) _ (by omega), bk_u_row (a := 36 + 10) _ (by omega), bk_u_row (a := 36 + 11) _ (by omega)]
      exact hD
theorem mt_ff_succ {bad : Nat → Bool} : ∀ n i, i + n < 2 ^ 31 → mt_ff bad (n + 1) i = if mt_ff bad n i = -1 then (if bad (i + n) = true then nI (i + n) else -1) else mt_ff bad n i
  | 0, i, _ => by simp [mt_ff]
  | n + 1, i, h => by
    rw [mt_ff]
    by_cases hb : bad i = true
    · rw [if_pos hb]
      have : mt_ff bad (n + 1) i = nI i := by rw [mt_ff, if_pos hb]
      rw [this, if_neg (pz_ne_m1 (by omega))]
    · rw [if_neg hb, mt_ff_succ n (i + 1) (by omega)]
      have : mt_ff bad (n + 1) i = mt_ff bad n (i + 1) := by rw [mt_ff, if_neg hb]
      rw [this, show i + 1 + n = i + (n + 1) by omega]
theorem mt_pc_ff (p : bk_S) : ∀ n, n ≤ 12 → mt_pc p n = mt_ff (fun e => decide (mt_cs (mt_ev p e 1) (mt_nt p) = mt_nt p)) n 0
  | 0, _ => rfl
  | n + 1, h => by
    rw [mt_pc, mt_pc_ff p n (by omega), mt_ff_succ n 0 (by omega), Nat.zero_add]
    by_cases h1 : mt_ff (fun e => decide (mt_cs (mt_ev p e 1) (mt_nt p) = mt_nt p)) n 0 = -1
    · rw [if_pos h1]
      by_cases h2 : mt_cs (mt_ev p n 1) (mt_nt p) = mt_nt p
      · rw [if_pos ⟨h2, h1⟩]; simp [h2]
      · rw [if_neg (fun h => h2 h.1), h1]; simp [h2]
    · rw [if_neg h1, if_neg (fun h => h1 h.2)]
theorem c_firstPeace {b : Nat} {p σ : bk_S} {post : Int32 → Prop} (hp : mt_ok p) (hs : ∀ t, t < 8 → σ (b + 2) t = mt_ev p 11 1 t) (h : post (mt_pc p 12)) : w_X1_firstPeace b (((1 : Int32) <<< (nI (mt_nt p) &&& 31)) - 1) σ post := by
  have hnt := hp.nt.2
  rw [mt_pc_ff p 12 (by omega)] at h
  unfold w_X1_firstPeace
  simp only [bk_lt_iff]
  refine bk_loop_up 12 (fun i (_ : Unit) => nI i) (fun i _ => post (mt_ff (fun e => decide (mt_cs (mt_ev p e 1) (mt_nt p) = mt_nt p)) (12 - i) i)) (i0 := 0) (b0 := ()) rfl (Nat.zero_le _) h ?_ ?_
  · intro i _ K hi hI hK
    rw [mt_ff_step hi] at hI
    refine ⟨fun hle => absurd ((nI_leI (a := 12) (by omega) (by omega)).mp hle) (by omega), fun _ => c_settledBehind hp hi hs ?_⟩
    rw [nI_1, mt_cm_full _ hnt]
    refine ⟨fun hne => hK () ?_, fun heq => ?_⟩
    · simpa [hne] using hI
    · simpa [heq] using hI
  · intro _ K hI
    refine ⟨fun _ => ?_, fun hn => absurd (by decide) hn⟩
    rw [Nat.sub_self] at hI; exact hI
/-- the first of the greatest, none if all are 0 at most -/
def mt_lg (f : Nat → Int32) : Nat → Int32 × Int32
  | 0 => (-1, 0)
  | n + 1 => if f n ≤ (mt_lg f n).2 then mt_lg f n else (nI n, f n)
theorem mt_lg_pos (f : Nat → Int32) : ∀ n, 0 ≤ (mt_lg f n).2
  | 0 => by show (0 : Int32) ≤ 0; decide
  | n + 1 => by
    rw [mt_lg]
    split
    · exact mt_lg_pos f n
    · next h => exact Int32.le_trans (mt_lg_pos f n) (Int32.le_of_lt (Int32.not_le.mp h))
theorem mt_lg_ext {f : Nat → Int32} {n : Nat} : ∀ m, n ≤ m → (∀ t, n ≤ t → t < m → f t = 0) → mt_lg f m = mt_lg f n
  | 0, h, _ => by rw [show n = 0 by omega]
  | m + 1, h, hs => by
    rcases Nat.lt_or_ge n (m + 1) with h1 | h1
    · rw [mt_lg, if_pos (by rw [hs m (by omega) (by omega)]; exact mt_lg_pos f m), mt_lg_ext m (by omega) (fun t h2 h3 => hs t h2 (by omega))]
    · rw [show n = m + 1 by omega]
theorem mt_lg_congr {f g : Nat → Int32} : ∀ n, (∀ t, t < n → f t = g t) → mt_lg f n = mt_lg g n
  | 0, _ => rfl
  | n + 1, h => by rw [mt_lg, mt_lg, mt_lg_congr n (fun t ht => h t (by omega)), h n (by omega)]
theorem mt_sa_0 {p : bk_S} (hp : mt_ok p) {t : Nat} (ht : mt_nt p ≤ t) : ∀ e, e ≤ 12 → mt_sa p e t = 0
  | 0, _ => rfl
  | e + 1, h => by rw [mt_sa, mt_sa_0 hp ht e (by omega), mt_ev_3 hp (by omega) ht]; decide
theorem c_thingSaidMost {b : Nat} {p σ : bk_S} {post : Int32 → Prop} (hp : mt_ok p) (hs : ∀ t, t < 8 → σ (b + 4) t = mt_sa p 12 t) (h : post (mt_lg (mt_sa p 12) (mt_nt p)).1) : w_X1_thingSaidMost b σ post := by
  have hnt := hp.nt.2
  rw [← mt_lg_ext 8 hnt (fun t h1 _ => mt_sa_0 hp h1 12 (by omega))] at h
  generalize hg : mt_lg (mt_sa p 12) = g at h
  have g0 : g 0 = (-1, 0) := by rw [← hg]; rfl
  have gs : ∀ i, g (i + 1) = if mt_sa p 12 i ≤ (g i).2 then g i else (nI i, mt_sa p 12 i) := fun i => by rw [← hg]; rfl
  unfold w_X1_thingSaidMost
  simp only [bk_lt_iff]
  refine bk_loop_up 8 (fun i (_ : Unit) => ((g i).1, (g i).2, nI i)) (fun _ _ => True) (i0 := 0) (b0 := ()) (by rw [g0]; rfl) (Nat.zero_le _) trivial ?_ ?_
  · intro i _ K hi _ hK
    have hK := hK () trivial
    rw [gs] at hK
    have hv : vp_in (nI i) 8 := (pz_in (by omega)).mpr hi
    simp only [nI_1, nI_clamp (show i < 2 ^ 31 by omega), hs i hi]
    refine ⟨fun hle => absurd ((nI_leI (a := 8) (by omega) (by omega)).mp hle) (by omega), fun _ => ⟨hv, fun h1 => ?_, fun h1 => ⟨hv, ?_⟩⟩⟩
    · rw [if_pos h1] at hK; exact hK
    · rw [if_neg h1] at hK; exact hK
  · intro _ K _
    exact ⟨fun _ => h, fun hn => absurd (by show (8 : Int32) ≤ nI 8; decide) hn⟩
