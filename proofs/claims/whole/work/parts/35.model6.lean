/-! The reference goes by what is told, or by a plan. -/
theorem pz_or_comm (a b : Int32) : a ||| b = b ||| a := mt_b_ext fun k hk => by rw [mt_b_or _ _ hk, mt_b_or _ _ hk, Bool.or_comm]
theorem pz_or_assoc (a b c : Int32) : a ||| b ||| c = a ||| (b ||| c) := mt_b_ext fun k hk => by rw [mt_b_or _ _ hk, mt_b_or _ _ hk, mt_b_or _ _ hk, mt_b_or _ _ hk, Bool.or_assoc]
theorem pz_or_0 (a : Int32) : a ||| 0 = a := by simp
def bf_b (τ : bk_S) (e : Nat) : Int32 := if τ 0 17 = nI e then (1 : Int32) <<< (τ 0 18 &&& 31) else 0
theorem bf_te {σ τ : bk_S} {wh : Nat → Bool} {e ne : Nat} (hi : ∀ i, i < ne → (σ 6 i = 0 ∨ σ 6 i = 1 ∨ σ 6 i = 2)) (hb : ∀ i, i < ne → τ 10 i = σ 6 i ∧ τ 11 i = σ 7 i ∧ τ 12 i = σ 8 i) (hw : ∀ i, i < ne → mt_b (τ 0 19) i = !wh i) : ∀ n, n ≤ ne → bf_l τ e n = te_l (σ 6) (σ 7) (σ 8) wh e n ||| bf_b τ e
  | 0, _ => by show bf_b τ e = (0 : Int32) ||| bf_b τ e; rw [pz_or_comm, pz_or_0]
  | n + 1, h => by
    obtain ⟨h10, h11, h12⟩ := hb n (by omega)
    have ih := bf_te hi hb hw (e := e) n (by omega)
    have hc : (bf_ok τ e n ∧ τ 10 n = 2) ↔ (wh n = true ∧ σ 7 n = nI e ∧ ¬ (σ 6 n = 0 ∨ σ 6 n = 1)) := by
      unfold bf_ok
      rw [hw n (by omega), h10, h11]
      constructor
      · rintro ⟨⟨q1, q2⟩, q3⟩
        exact ⟨by simpa using q2, q1, by rw [q3]; decide⟩
      · rintro ⟨q1, q2, q3⟩
        refine ⟨⟨q2, by simp [q1]⟩, ?_⟩
        rcases hi n (by omega) with r | r | r
        · exact absurd (Or.inl r) q3
        · exact absurd (Or.inr r) q3
        · exact r
    rw [bf_l, te_l]
    by_cases q : bf_ok τ e n ∧ τ 10 n = 2
    · rw [if_pos q, if_pos (hc.mp q), ih, h12, pz_or_assoc, pz_or_assoc, pz_or_comm (bf_b τ e)]
    · rw [if_neg q, if_neg (fun r => q (hc.mpr r)), ih]
theorem bf_ts {σ τ : bk_S} {wh : Nat → Bool} {e ne : Nat} (hi : ∀ i, i < ne → (σ 6 i = 0 ∨ σ 6 i = 1 ∨ σ 6 i = 2)) (hb : ∀ i, i < ne → τ 10 i = σ 6 i ∧ τ 11 i = σ 7 i ∧ τ 12 i = σ 8 i) (hw : ∀ i, i < ne → mt_b (τ 0 19) i = !wh i) : ∀ n, n ≤ ne → (bf_k τ e 0 n = 0 ∧ bf_k τ e 1 n = 0 ∧ te_s (σ 6) (σ 7) wh e n = 0) ∨ (bf_k τ e 0 n = 1 ∧ bf_k τ e 1 n = 0 ∧ te_s (σ 6) (σ 7) wh e n = 1) ∨ (bf_k τ e 0 n = 0 ∧ bf_k τ e 1 n = 1 ∧ te_s (σ 6) (σ 7) wh e n = 2) ∨ (bf_k τ e 0 n = 1 ∧ bf_k τ e 1 n = 1 ∧ te_s (σ 6) (σ 7) wh e n = 3)
  | 0, _ => Or.inl ⟨rfl, rfl, rfl⟩
  | n + 1, h => by
    obtain ⟨h10, h11, h12⟩ := hb n (by omega)
    have ih := bf_ts hi hb hw (e := e) n (by omega)
    rw [bf_k, bf_k, te_s]
    by_cases hok : bf_ok τ e n
    · have hok' : wh n = true ∧ σ 7 n = nI e := by
        have q := hok
        unfold bf_ok at q
        rw [hw n (by omega), h11] at q
        exact ⟨by simpa using q.2, q.1⟩
      rcases hi n (by omega) with r | r | r
      · rw [if_pos ⟨hok, h10.trans r⟩, if_neg (fun q => by have := q.2; rw [h10, r] at this; exact absurd this (by decide)), if_pos ⟨hok'.1, hok'.2, Or.inl r⟩, r]
        rcases ih with ⟨i1, i2, i3⟩ | ⟨i1, i2, i3⟩ | ⟨i1, i2, i3⟩ | ⟨i1, i2, i3⟩ <;> rw [i2, i3] <;> decide
      · rw [if_neg (fun q => by have := q.2; rw [h10, r] at this; exact absurd this (by decide)), if_pos ⟨hok, h10.trans r⟩, if_pos ⟨hok'.1, hok'.2, Or.inr r⟩, r]
        rcases ih with ⟨i1, i2, i3⟩ | ⟨i1, i2, i3⟩ | ⟨i1, i2, i3⟩ | ⟨i1, i2, i3⟩ <;> rw [i1, i3] <;> decide
      · rw [if_neg (fun q => by have := q.2; rw [h10, r] at this; exact absurd this (by decide)), if_neg (fun q => by have := q.2; rw [h10, r] at this; exact absurd this (by decide)), if_neg (fun q => by have := q.2.2; rw [r] at this; exact absurd this (by decide))]
        exact ih
    · have hok' : ¬ (wh n = true ∧ σ 7 n = nI e ∧ (σ 6 n = 0 ∨ σ 6 n = 1)) := fun q => hok ⟨h11.trans q.2.1, by rw [hw n (by omega), q.1]; rfl⟩
      rw [if_neg (fun q => hok q.1), if_neg (fun q => hok q.1), if_neg hok']
      exact ih
/-- what is told of events fits, with what is left besides -/
def rr_V (σ τ p : bk_S) (wh : Nat → Bool) : Prop := (∀ i, i < bs_ne σ → mt_b (τ 0 19) i = !wh i) ∧ (∀ e, e < 12 → p 5 e = te_l (σ 6) (σ 7) (σ 8) wh e (bs_ne σ) ||| bf_b τ e) ∧ (∀ e, e < 12 → p 6 e = te_s (σ 6) (σ 7) wh e (bs_ne σ))
theorem rr_P.of {σ τ p : bk_S} {wh : Nat → Bool} (hi : ib σ) (hb : rb σ τ) (h12 : τ 0 12 = p 0 1) (h16 : τ 0 16 = p 0 0) (h4 : ∀ h, h < mt_nh p → τ 4 h = p 1 h) (h14 : ∀ k, k < mt_nt p → τ 14 k = p 2 k) (h15 : ∀ k, k < mt_nt p → τ 15 k = p 3 k) (hm : ∀ k, k < mt_nt p → τ 16 k = p 4 k) (hV : rr_V σ τ p wh) : rr_P τ p := by
  refine ⟨h12, h16, h4, h14, h15, hm, bs_ne σ, hi.2.2.2.2.2.1.1, by rw [hb.2.2.2.2.1]; exact hi.2.2.2.2.2.1.2, fun e he => ?_⟩
  have k1 := fun i (h : i < bs_ne σ) => (hi.2.2.2.2.2.2.1 i h).1
  have k2 := hb.2.2.2.2.2.1
  refine ⟨by rw [hV.2.1 e he, bf_te k1 k2 hV.1 _ (Nat.le_refl _)], ?_⟩
  rw [hV.2.2 e he]
  rcases bf_ts k1 k2 hV.1 (e := e) _ (Nat.le_refl _) with ⟨i1, i2, i3⟩ | ⟨i1, i2, i3⟩ | ⟨i1, i2, i3⟩ | ⟨i1, i2, i3⟩ <;> rw [i1, i2, i3] <;> decide
/-- the reference stands as told, ahead of a plan -/
def at_T (σ τ : bk_S) : Prop := rd_T σ τ ∧ τ 0 12 = nI (tx_tN (bs_n1 σ) (σ 4)) ∧ τ 0 16 = nI (tx_hN (bs_n0 σ) (σ 2)) ∧ (∀ t, t < tx_tN (bs_n1 σ) (σ 4) → τ 14 t = τ 6 t ∧ τ 15 t = τ 7 t ∧ τ 16 t = τ 8 t) ∧ τ 0 17 = -1 ∧ τ 0 18 = -1 ∧ τ 0 19 = 0
theorem m_asTold {σ τ : bk_S} {post : bk_S → Prop} (hi : ib σ) (hb : rb σ τ) (hpost : ∀ τ', rq τ τ' → at_T σ τ' → post τ') : w_X9_asTold τ post := by
  have hN := (tx_tN_le (f := σ 4) hi.2.1.1).1
  unfold w_X9_asTold
  refine m_reads hi hb (fun τ1 F1 T1 => ?_)
  simp only [bk_lt_iff]
  obtain ⟨t1, t2, t3, t4⟩ := T1
  rw [t2]
  unfold at_T rd_T at hpost
  generalize tx_tN (bs_n1 σ) (σ 4) = N at *
  refine bk_jn_of (fun a => rq τ a ∧ (∀ j, j ≠ 12 → a 0 j = τ1 0 j) ∧ a 0 12 = nI N ∧ (∀ r, 0 < r → r < 14 → a r = τ1 r) ∧ (∀ t, t < N → a 14 t = τ1 6 t ∧ a 15 t = τ1 7 t ∧ a 16 t = τ1 8 t)) (fun K hK => ?_) (fun a ha => ?_)
  · refine bk_loop_up N (fun i (a : bk_S) => (nI i, a)) (fun i a => rq τ a ∧ (∀ j, j ≠ 12 → a 0 j = τ1 0 j) ∧ a 0 12 = nI N ∧ (∀ r, 0 < r → r < 14 → a r = τ1 r) ∧ (∀ t, t < i → a 14 t = τ1 6 t ∧ a 15 t = τ1 7 t ∧ a 16 t = τ1 8 t)) (i0 := 0) (b0 := bk_u τ1 0 12 (nI N)) rfl (Nat.zero_le _) ⟨F1.q.u (by omega), fun j hj => by rw [bk_u_at, if_neg (by omega)], bk_u_same _ _ _ _, fun r h1 _ => bk_u_row _ (by omega), fun t ht => absurd ht (Nat.not_lt_zero _)⟩ ?_ ?_
    · rintro i a K2 hi2 ⟨Q, c, c12, r, q⟩ hK2
      have hv8 : vp_in (nI i) 8 := (pz_in (by omega)).mpr (by omega)
      have hv9 : vp_in (nI i) 9 := (pz_in (by omega)).mpr (by omega)
      have y4 : a 0 4 = nI N := by rw [c 4 (by omega)]; exact t2
      simp only [nI_1, nI_clamp (show i < 2 ^ 31 by omega), y4]
      refine ⟨fun hle => absurd ((nI_leI (by omega) (by omega)).mp hle) (by omega), fun _ => ⟨hv9, hv8, hv9, hv8, hv9, hv8, hK2 _ ⟨((Q.u (by omega)).u (by omega)).u (by omega), fun j hj => ?_, ?_, fun r' h1 h2 => ?_, fun t ht => ?_⟩⟩⟩
      · rw [bk_u_row _ (by omega), bk_u_row _ (by omega), bk_u_row _ (by omega)]; exact c j hj
      · rw [bk_u_row _ (by omega), bk_u_row _ (by omega), bk_u_row _ (by omega)]; exact c12
      · rw [bk_u_row _ (by omega), bk_u_row _ (by omega), bk_u_row _ (by omega)]; exact r r' h1 h2
      · rw [bk_u_row (a := 14) (k := 16) _ (by omega), bk_u_row (a := 14) (k := 15) _ (by omega), bk_u_row (a := 15) (k := 16) _ (by omega), bk_u_row (a := 7) (k := 14) _ (by omega), bk_u_row (a := 8) (k := 15) _ (by omega), bk_u_row (a := 8) (k := 14) _ (by omega), r 6 (by omega) (by omega), r 7 (by omega) (by omega), r 8 (by omega) (by omega)]
        by_cases e : t = i
        · subst e; rw [bk_u_same, bk_u_same, bk_u_same]; exact ⟨rfl, rfl, rfl⟩
        · rw [bk_u_at, if_neg (by omega), bk_u_at, if_neg (by omega), bk_u_row (a := 15) (k := 14) _ (by omega), bk_u_at, if_neg (by omega), bk_u_row (a := 16) (k := 15) _ (by omega), bk_u_row (a := 16) (k := 14) _ (by omega)]
          exact q t (by omega)
    · rintro a K2 ⟨Q, c, c12, r, q⟩
      refine ⟨fun _ => hK _ ⟨Q, c, c12, r, q⟩, fun hn => absurd ?_ hn⟩
      show a 0 4 ≤ nI N
      rw [c 4 (by omega), t2]; exact (nI_leI (by omega) (by omega)).mpr (Nat.le_refl _)
  · obtain ⟨Q, c, c12, r, q⟩ := ha
    have y2 : a 0 2 = nI (tx_hN (bs_n0 σ) (σ 2)) := by rw [c 2 (by omega)]; exact t1
    rw [y2]
    generalize hS : bk_u (bk_u (bk_u (bk_u a 0 16 (nI (tx_hN (bs_n0 σ) (σ 2)))) 0 17 (-1)) 0 18 (-1)) 0 19 0 = τ2
    have z : ∀ j, ¬ (16 ≤ j ∧ j ≤ 19) → τ2 0 j = a 0 j := fun j hj => by rw [← hS, bk_u_at, if_neg (by omega), bk_u_at, if_neg (by omega), bk_u_at, if_neg (by omega), bk_u_at, if_neg (by omega)]
    have zr : ∀ r, 0 < r → τ2 r = a r := fun r hr => by rw [← hS, bk_u_row _ (by omega), bk_u_row _ (by omega), bk_u_row _ (by omega), bk_u_row _ (by omega)]
    refine hpost τ2 (by rw [← hS]; exact (((Q.u (by omega)).u (by omega)).u (by omega)).u (by omega)) ⟨⟨?_, ?_, fun h hh => ?_, fun t ht => ?_⟩, ?_, ?_, fun t ht => ?_, ?_, ?_, ?_⟩
    · rw [z 2 (by omega)]; exact y2
    · rw [z 4 (by omega), c 4 (by omega)]; exact t2
    · rw [zr 4 (by omega), r 4 (by omega) (by omega)]; exact t3 h hh
    · rw [zr 6 (by omega), zr 7 (by omega), zr 8 (by omega), r 6 (by omega) (by omega), r 7 (by omega) (by omega), r 8 (by omega) (by omega)]; exact t4 t ht
    · rw [z 12 (by omega)]; exact c12
    · rw [← hS, bk_u_at, if_neg (by omega), bk_u_at, if_neg (by omega), bk_u_at, if_neg (by omega)]; exact bk_u_same _ _ _ _
    · rw [zr 14 (by omega), zr 15 (by omega), zr 16 (by omega), zr 6 (by omega), zr 7 (by omega), zr 8 (by omega), r 6 (by omega) (by omega), r 7 (by omega) (by omega), r 8 (by omega) (by omega)]; exact q t ht
    · rw [← hS, bk_u_at, if_neg (by omega), bk_u_at, if_neg (by omega)]; exact bk_u_same _ _ _ _
    · rw [← hS, bk_u_at, if_neg (by omega)]; exact bk_u_same _ _ _ _
    · rw [← hS]; exact bk_u_same _ _ _ _
theorem bf_b_none {τ : bk_S} (h : τ 0 17 = -1) {e : Nat} (he : e < 12) : bf_b τ e = 0 := by
  unfold bf_b; rw [h, if_neg (fun q => pz_ne_m1 (show e < 2 ^ 31 by omega) q.symm)]
theorem at_T.P {σ τ : bk_S} (hi : ib σ) (hb : rb σ τ) (h : at_T σ τ) : rr_P τ (tp σ tA) := by
  obtain ⟨⟨t1, t2, t3, t4⟩, h12, h16, hr, h17, h18, h19⟩ := h
  refine rr_P.of (wh := tA) hi hb h12 h16 (fun k hk => ?_) (fun k hk => ?_) (fun k hk => ?_) (fun k hk => ?_) ⟨fun i hi2 => ?_, fun e he => ?_, fun e he => rfl⟩
  · rw [tp_nh hi] at hk; exact t3 k hk
  · rw [tp_nt hi] at hk; rw [(hr k hk).1]; exact (t4 k hk).1
  · rw [tp_nt hi] at hk; rw [(hr k hk).2.1]; exact (t4 k hk).2.1
  · rw [tp_nt hi] at hk; rw [(hr k hk).2.2]; exact (t4 k hk).2.2
  · have := hi.2.2.2.2.2.1.1
    rw [h19, mt_b_zero (by omega)]; rfl
  · rw [bf_b_none h17 he, pz_or_0]; rfl
/-- what a season leaves of what stands as told -/
theorem at_T.F {σ τ τ' : bk_S} (h : at_T σ τ) (hF : rr_F τ τ') : at_T σ τ' := by
  have c : ∀ j, ¬ (20 ≤ j ∧ j ≤ 31) → τ' 0 j = τ 0 j := fun j hj => hF 0 j (by omega) (by omega)
  have r : ∀ r, 0 < r → r < 33 → τ' r = τ r := fun r h1 h2 => funext fun j => hF r j (by omega) (by omega)
  unfold at_T rd_T at *
  rw [c 2 (by omega), c 4 (by omega), c 12 (by omega), c 16 (by omega), c 17 (by omega), c 18 (by omega), c 19 (by omega), r 4 (by omega) (by omega), r 6 (by omega) (by omega), r 7 (by omega) (by omega), r 8 (by omega) (by omega), r 14 (by omega) (by omega), r 15 (by omega) (by omega), r 16 (by omega) (by omega)]
  exact h
theorem m_runsTold {σ τ : bk_S} {post : bk_S → Prop} (hi : ib σ) (hb : rb σ τ) (hpost : ∀ τ', rq τ τ' → at_T σ τ' → rr_D (tp σ tA) τ' → post τ') : w_X9_runsTold τ post := by
  unfold w_X9_runsTold
  refine m_asTold hi hb (fun τ1 q1 a1 => ?_)
  exact m_runs (tp_ok hi tA) (a1.P hi (hb.q q1)) (fun τ2 F2 D2 => hpost τ2 (q1.tr F2.q) (a1.F F2) D2)
