/-! Steps: typing, events, what was seen. -/
theorem bw_256 {y : Int32} : (0 ≤ y ∧ y ≤ 255) ↔ bw y 256 := pz_top (n := 256) (m := 255) rfl (by omega)
theorem s_type {x y : Int32} {σ τ : bk_S} (h : RR σ τ) : stp (w_X8_type x y σ) (w_X9_type x y τ) := by
  obtain ⟨⟨hi, hT, hE⟩, hb⟩ := h
  have hR : RR σ τ := ⟨⟨hi, hT, hE⟩, hb⟩
  by_cases b : bw x 2
  · by_cases b2 : 0 ≤ y ∧ y ≤ 255
    · obtain ⟨j, hj, rfl⟩ := bw_2 b
      obtain ⟨m, hm, rfl⟩ := (bw_in (n := 256) (by omega)).mp (bw_256.mp b2)
      have r9 : ∀ (n L : Nat) (Q : Int32 → bk_S → Prop), L ≤ 31 → n ≤ L → (if nI j = 0 then (12 : Int32) else 31) = nI L → τ 1 j = nI n → (n ≠ L → Q (nI (n + 1)) (bk_u (bk_u τ 2 (31 * j + n) (nI m)) 1 j (nI (n + 1)))) → (n = L → Q (-4) τ) → w_X9_type (nI j) (nI m) τ Q := fun n L Q hL hn eL e h1 h0 => by
        refine m_isTwo (fun _ => br1 (m_in (fun _ => br1' ?_) (fun q => absurd b2 q))) (fun n => absurd b n)
        simp only [bk_lt_iff]
        have e31 : (31 : Int32) * nI j + nI n = nI (31 * j + n) := by rw [pz_31, pz_mulr, nI_add]
        rw [eL, nI_clamp (show j < 2 ^ 31 by omega), e, e31, nI_clamp (by omega), bk_u_same, nI_eq (by omega) (by omega), bk_u_row (a := 1) (k := 2) _ (by omega), e, nI_1]
        exact ⟨vp2 hj, fun n0 => ⟨vp2 hj, (pz_in (by omega)).mpr (by omega), vp2 hj, vp2 hj, vp2 hj, h1 n0⟩, h0⟩
      have r8 : ∀ (P : Int32 → bk_S → Prop), (w_X8_textOf (nI j) σ (fun r2 =>
      ((σ r2 2) < (σ r2 1) → (vp_in (σ r2 2) 31 ∧ bk_lt (α := bk_S) (bk_u σ (r2 + 1) (Int32.toNatClampNeg (σ r2 2)) (nI m)) fun σ4 =>
      bk_lt (α := bk_S) (bk_u σ4 r2 2 ((σ4 r2 2) + (1 : Int32))) fun σ5 =>
      w_X8_noteChange σ5 (fun σ6 =>
        P (σ6 r2 2) σ6))) ∧ (¬ (σ r2 2) < (σ r2 1) → P (-4 : Int32) σ))) → w_X8_type (nI j) (nI m) σ P := fun P hP => by
        exact c_isText (fun _ => br1 ⟨fun q => absurd q (Int32.not_lt.mpr b2.1), fun _ => ⟨fun _ => hP, fun q => absurd b2.2 q⟩⟩) (fun n => absurd b n)
      rcases (show j = 0 ∨ j = 1 by omega) with rfl | rfl
      · obtain ⟨hn, h2⟩ := hi.1
        have hl := hi.2.2.1
        by_cases nf : bs_n0 σ = 12
        · refine stp.no (v := -4) hR (fun P hP => r8 P ⟨fun e => absurd rfl e, fun _ => ⟨fun q => ?_, fun _ => hP⟩⟩) (fun Q hQ => r9 _ 12 Q (by omega) hn rfl (by rw [hb.1]; exact h2) (fun n => absurd nf n) (fun _ => hQ))
          rw [h2, hl, nf] at q; exact absurd q (by decide)
        · intro P hP
          refine r8 P ⟨fun e => absurd rfl e, fun _ => ?_⟩
          simp only [bk_lt_iff]
          rw [h2, hl, nI_clamp (by omega), bk_u_row (a := 1) _ (by omega), h2, nI_1]
          refine ⟨fun _ => ⟨(pz_in (by omega)).mpr (by omega), c_note ?_⟩, fun q => absurd (nI_lt (b := 12) (by omega) (by omega)) q⟩
          rw [nC_row _ (by omega), bk_u_same]
          refine hP _ _ (cI_nC (ib_t0 (n := bs_n0 σ + 1) hi (fun k h1 h2 => by rw [bk_u_row _ (by omega), bk_u_row _ (by omega)]) (by omega) (bk_u_same _ _ _ _) (by rw [bk_u_at, if_neg (by omega), bk_u_row _ (by omega)]))) (fun Q hQ => r9 _ 12 Q (by omega) hn rfl (by rw [hb.1]; exact h2) (fun _ => hQ _ ?_) (fun n => absurd n nf))
          refine rb.E (rb_t0 (n := bs_n0 σ + 1) hb (fun k h1 h2 => by rw [bk_u_row _ (by omega), bk_u_row _ (by omega)]) (by rw [bk_u_row _ (by omega), bk_u_row _ (by omega)]) (by omega) (bk_u_same _ _ _ _) (by rw [bk_u_row _ (by omega), bk_u_row _ (by omega)]) (fun k hk => by rw [bk_u_row _ (by omega), bk_u_row _ (by omega)]) (by rw [bk_u_same, bk_u_same]) (by rw [bk_u_at, if_neg (by omega), bk_u_row _ (by omega)]) (fun i hi2 => ?_) (fun i hi2 => by rw [bk_u_row _ (by omega), bk_u_at, if_neg (by omega)])) (nC_E _)
          rw [bk_u_row (a := 2) (k := 1) _ (by omega), bk_u_row (a := 2) (k := 1) _ (by omega)]
          show bk_u τ 2 (31 * 0 + bs_n0 σ) (nI m) 2 i = bk_u σ 2 (bs_n0 σ) (nI m) 2 i
          rw [bk_u_at, bk_u_at]
          by_cases e : i = bs_n0 σ
          · rw [if_pos (by omega), if_pos ⟨rfl, e⟩]
          · rw [if_neg (by omega), if_neg (by omega)]; exact hb.2.2.1 i (by omega)
      · obtain ⟨hn, h2⟩ := hi.2.1
        have hl := hi.2.2.2.1
        by_cases nf : bs_n1 σ = 31
        · refine stp.no (v := -4) hR (fun P hP => r8 P ⟨fun _ => ⟨fun q => ?_, fun _ => hP⟩, fun e => absurd e (by decide)⟩) (fun Q hQ => r9 _ 31 Q (by omega) hn rfl (by rw [hb.2.1]; exact h2) (fun n => absurd nf n) (fun _ => hQ))
          rw [h2, hl, nf] at q; exact absurd q (by decide)
        · intro P hP
          refine r8 P ⟨fun _ => ?_, fun e => absurd e (by decide)⟩
          simp only [bk_lt_iff]
          rw [h2, hl, nI_clamp (by omega), bk_u_row (a := 3) _ (by omega), h2, nI_1]
          refine ⟨fun _ => ⟨(pz_in (by omega)).mpr (by omega), c_note ?_⟩, fun q => absurd (nI_lt (b := 31) (by omega) (by omega)) q⟩
          rw [nC_row _ (by omega), bk_u_same]
          refine hP _ _ (cI_nC (ib_t1 (n := bs_n1 σ + 1) hi (fun k h1 h2 h3 h4 => by rw [bk_u_row _ (by omega), bk_u_row _ (by omega)]) (by omega) (bk_u_same _ _ _ _) (by rw [bk_u_at, if_neg (by omega), bk_u_row _ (by omega)]) (fun i hi2 => ?_))) (fun Q hQ => r9 _ 31 Q (by omega) hn rfl (by rw [hb.2.1]; exact h2) (fun _ => hQ _ ?_) (fun n => absurd n nf))
          · rw [bk_u_row _ (by omega)]
            show ∃ m', m' < 256 ∧ bk_u σ 4 (bs_n1 σ) (nI m) 4 i = nI m'
            rw [bk_u_at]
            by_cases e : i = bs_n1 σ
            · rw [if_pos ⟨rfl, e⟩]; exact ⟨m, hm, rfl⟩
            · rw [if_neg (by omega)]; exact hi.2.2.2.2.1 i (by omega)
          · refine rb.E (rb_t1 (n := bs_n1 σ + 1) hb (fun k h1 h2 h3 h4 => by rw [bk_u_row _ (by omega), bk_u_row _ (by omega)]) (by rw [bk_u_row _ (by omega), bk_u_row _ (by omega)]) hi.1.1 (by omega) (bk_u_same _ _ _ _) (by rw [bk_u_row _ (by omega), bk_u_row _ (by omega)]) (fun k hk => by rw [bk_u_row _ (by omega), bk_u_row _ (by omega)]) (by rw [bk_u_same, bk_u_same]) (by rw [bk_u_at, if_neg (by omega), bk_u_row _ (by omega)]) (fun i hi2 => ?_) (fun i hi2 => by rw [bk_u_row _ (by omega), bk_u_at, if_neg (by omega)])) (nC_E _)
            rw [bk_u_row (a := 2) (k := 1) _ (by omega), bk_u_row (a := 4) (k := 3) _ (by omega)]
            show bk_u τ 2 (31 * 1 + bs_n1 σ) (nI m) 2 (31 + i) = bk_u σ 4 (bs_n1 σ) (nI m) 4 i
            rw [bk_u_at, bk_u_at]
            by_cases e : i = bs_n1 σ
            · rw [if_pos (by omega), if_pos ⟨rfl, e⟩]
            · rw [if_neg (by omega), if_neg (by omega)]; exact hb.2.2.2.1 i (by omega)
    · refine stp.no (v := -2) hR (fun P hP => c_isText (fun _ => br1 ⟨fun _ => hP, fun q0 => ⟨fun q1 => absurd ⟨Int32.not_lt.mp q0, q1⟩ b2, fun _ => hP⟩⟩) (fun n => absurd b n)) (fun Q hQ => m_isTwo (fun _ => br1 (m_in (fun q => absurd q b2) (fun _ => br0' hQ))) (fun n => absurd b n))
  · exact stp.no (v := -2) hR (fun P hP => c_isText (fun q => absurd q b) (fun _ => br0 hP)) (fun Q hQ => m_isTwo (fun q => absurd q b) (fun _ => br0 hQ))
theorem ib_ev {σ σ' : bk_S} {n : Nat} (h : ib σ) (e : ∀ k, 1 ≤ k → k ≤ 21 → ¬ (5 ≤ k ∧ k ≤ 8) → σ' k = σ k) (hn : n ≤ 8) (h2 : σ' 5 3 = nI n) (hb : ∀ i, i < n → (σ' 6 i = 0 ∨ σ' 6 i = 1 ∨ σ' 6 i = 2) ∧ (∃ e, e < 12 ∧ σ' 7 i = nI e) ∧ ∃ k, k < 12 ∧ σ' 8 i = nI k) : ib σ' := by
  obtain ⟨a1, a2, a3, a4, a5, a6, a7, a8, a9, a10⟩ := h
  have hn' : bs_ne σ' = n := by unfold bs_ne; rw [h2]; exact nI_clamp (by omega)
  unfold ib
  rw [hn']
  unfold bs_n0 bs_n1 bs_ns at *
  rw [e 1 (by omega) (by omega) (by omega), e 3 (by omega) (by omega) (by omega), e 4 (by omega) (by omega) (by omega), e 9 (by omega) (by omega) (by omega), e 10 (by omega) (by omega) (by omega), e 11 (by omega) (by omega) (by omega), e 12 (by omega) (by omega) (by omega)]
  exact ⟨a1, a2, a3, a4, a5, ⟨hn, h2⟩, hb, a8, a9, fun s hs => by rw [e (14 + 2 * s) (by omega) (by omega) (by omega)]; exact a10 s hs⟩
theorem rb_ev {σ σ' τ τ' : bk_S} {n : Nat} (h : rb σ τ) (e : ∀ k, 1 ≤ k → k ≤ 21 → ¬ (5 ≤ k ∧ k ≤ 8) → σ' k = σ k) (e15 : σ' 0 15 = σ 0 15) (hn : n ≤ 8) (h2 : σ' 5 3 = nI n) (c : ∀ j, j ≠ 8 → τ' 0 j = τ 0 j) (r : ∀ k, 0 < k → ¬ (10 ≤ k ∧ k ≤ 12) → τ' k = τ k) (g0 : τ' 0 8 = σ' 5 3) (gb : ∀ i, i < n → τ' 10 i = σ' 6 i ∧ τ' 11 i = σ' 7 i ∧ τ' 12 i = σ' 8 i) : rb σ' τ' := by
  obtain ⟨a1, a2, a3, a4, a5, a6, a7, a8, a9, a10⟩ := h
  have hn' : bs_ne σ' = n := by unfold bs_ne; rw [h2]; exact nI_clamp (by omega)
  unfold rb
  rw [hn']
  unfold bs_n0 bs_n1 bs_ns at *
  rw [e 1 (by omega) (by omega) (by omega), e 2 (by omega) (by omega) (by omega), e 3 (by omega) (by omega) (by omega), e 4 (by omega) (by omega) (by omega), e 9 (by omega) (by omega) (by omega), e 10 (by omega) (by omega) (by omega), e 11 (by omega) (by omega) (by omega), e 12 (by omega) (by omega) (by omega), c 46 (by omega), c 56 (by omega), r 1 (by omega) (by omega), r 2 (by omega) (by omega), r 48 (by omega) (by omega), r 49 (by omega) (by omega), r 50 (by omega) (by omega), r 52 (by omega) (by omega), r 53 (by omega) (by omega), r 54 (by omega) (by omega), r 55 (by omega) (by omega), e15]
  exact ⟨a1, a2, a3, a4, g0, gb, a7, a8, fun s hs => by rw [e (14 + 2 * s) (by omega) (by omega) (by omega), e (14 + 2 * s + 1) (by omega) (by omega) (by omega)]; exact a9 s hs, a10⟩
theorem ib_sg {σ σ' : bk_S} {n : Nat} (h : ib σ) (e : ∀ k, 1 ≤ k → k ≤ 21 → ¬ (9 ≤ k ∧ k ≤ 12) → σ' k = σ k) (hn : n ≤ 8) (h2 : σ' 9 3 = nI n) (hb : ∀ i, i < n → (∃ e, e < 12 ∧ σ' 10 i = nI e) ∧ (∃ t, t < 8 ∧ σ' 11 i = nI t) ∧ (σ' 12 i = 0 ∨ σ' 12 i = 1)) : ib σ' := by
  obtain ⟨a1, a2, a3, a4, a5, a6, a7, a8, a9, a10⟩ := h
  have hn' : bs_ns σ' = n := by unfold bs_ns; rw [h2]; exact nI_clamp (by omega)
  unfold ib
  rw [hn']
  unfold bs_n0 bs_n1 bs_ne at *
  rw [e 1 (by omega) (by omega) (by omega), e 3 (by omega) (by omega) (by omega), e 4 (by omega) (by omega) (by omega), e 5 (by omega) (by omega) (by omega), e 6 (by omega) (by omega) (by omega), e 7 (by omega) (by omega) (by omega), e 8 (by omega) (by omega) (by omega)]
  exact ⟨a1, a2, a3, a4, a5, a6, a7, ⟨hn, h2⟩, hb, fun s hs => by rw [e (14 + 2 * s) (by omega) (by omega) (by omega)]; exact a10 s hs⟩
theorem rb_sg {σ σ' τ τ' : bk_S} {n : Nat} (h : rb σ τ) (e : ∀ k, 1 ≤ k → k ≤ 21 → ¬ (9 ≤ k ∧ k ≤ 12) → σ' k = σ k) (e15 : σ' 0 15 = σ 0 15) (hn : n ≤ 8) (h2 : σ' 9 3 = nI n) (c : ∀ j, j ≠ 46 → τ' 0 j = τ 0 j) (r : ∀ k, 0 < k → ¬ (48 ≤ k ∧ k ≤ 50) → τ' k = τ k) (g0 : τ' 0 46 = σ' 9 3) (gb : ∀ i, i < n → τ' 48 i = σ' 10 i ∧ τ' 49 i = σ' 11 i ∧ τ' 50 i = σ' 12 i) : rb σ' τ' := by
  obtain ⟨a1, a2, a3, a4, a5, a6, a7, a8, a9, a10⟩ := h
  have hn' : bs_ns σ' = n := by unfold bs_ns; rw [h2]; exact nI_clamp (by omega)
  unfold rb
  rw [hn']
  unfold bs_n0 bs_n1 bs_ne at *
  rw [e 1 (by omega) (by omega) (by omega), e 2 (by omega) (by omega) (by omega), e 3 (by omega) (by omega) (by omega), e 4 (by omega) (by omega) (by omega), e 5 (by omega) (by omega) (by omega), e 6 (by omega) (by omega) (by omega), e 7 (by omega) (by omega) (by omega), e 8 (by omega) (by omega) (by omega), c 8 (by omega), c 56 (by omega), r 1 (by omega) (by omega), r 2 (by omega) (by omega), r 10 (by omega) (by omega), r 11 (by omega) (by omega), r 12 (by omega) (by omega), r 52 (by omega) (by omega), r 53 (by omega) (by omega), r 54 (by omega) (by omega), r 55 (by omega) (by omega), e15]
  exact ⟨a1, a2, a3, a4, a5, a6, g0, gb, fun s hs => by rw [e (14 + 2 * s) (by omega) (by omega) (by omega), e (14 + 2 * s + 1) (by omega) (by omega) (by omega)]; exact a9 s hs, a10⟩
theorem s_back {σ τ : bk_S} (h : RR σ τ) : stp (w_X8_back σ) (w_X9_back τ) := by
  obtain ⟨⟨hi, hT, hE⟩, hb⟩ := h
  obtain ⟨hn, h2⟩ := hi.2.2.2.2.2.1
  have h8 : τ 0 8 = nI (bs_ne σ) := by rw [hb.2.2.2.2.1]; exact h2
  by_cases n0 : bs_ne σ = 0
  · have e0 : σ 5 3 = 0 := by rw [h2, n0]; rfl
    have e1 : τ 0 8 = 0 := by rw [h8, n0]; rfl
    exact stp.no (v := -3) ⟨⟨hi, hT, hE⟩, hb⟩ (fun P hP => ⟨fun q => absurd e0 q, fun _ => hP⟩) (fun Q hQ => ⟨fun q => absurd e1 q, fun _ => hQ⟩)
  · intro P hP
    have es : nI (bs_ne σ) - 1 = nI (bs_ne σ - 1) := pk_sub (b := 1) (by omega)
    have nz : ¬ nI (bs_ne σ) = 0 := fun q => n0 ((nI_eq (b := 0) (by omega) (by omega)).mp q)
    unfold w_X8_back
    simp only [bk_lt_iff]
    rw [h2, es]
    refine ⟨fun _ => c_note ?_, fun q => absurd q nz⟩
    rw [nC_row _ (by omega), bk_u_same]
    refine hP _ _ (cI_nC (ib_ev (n := bs_ne σ - 1) hi (fun k h1 h2 h3 => bk_u_row _ (by omega)) (by omega) (bk_u_same _ _ _ _) (fun i hi2 => ?_))) (fun Q hQ => ?_)
    · rw [bk_u_row _ (by omega), bk_u_row _ (by omega), bk_u_row _ (by omega)]; exact hi.2.2.2.2.2.2.1 i (by omega)
    · unfold w_X9_back
      simp only [bk_lt_iff]
      rw [h8, es, bk_u_same]
      refine ⟨fun _ => hQ _ (rb.E (rb_ev (n := bs_ne σ - 1) hb (fun k h1 h2 h3 => bk_u_row _ (by omega)) (by rw [bk_u_row _ (by omega)]) (by omega) (bk_u_same _ _ _ _) (fun j hj => by rw [bk_u_at, if_neg (by omega)]) (fun k h1 h2 => bk_u_row _ (by omega)) (by rw [bk_u_same, bk_u_same]) (fun i hi2 => ?_)) (nC_E _)), fun q => absurd q nz⟩
      rw [bk_u_row _ (by omega), bk_u_row _ (by omega), bk_u_row _ (by omega), bk_u_row _ (by omega), bk_u_row _ (by omega), bk_u_row _ (by omega)]
      exact hb.2.2.2.2.2.1 i (by omega)
theorem s_forget {σ τ : bk_S} (h : RR σ τ) : stp (w_X8_forget σ) (w_X9_forget τ) := by
  obtain ⟨⟨hi, hT, hE⟩, hb⟩ := h
  intro P hP
  show P (σ 9 3) (bk_u σ 9 3 0)
  have tpe : ∀ wh, tp (bk_u σ 9 3 0) wh = tp σ wh := fun wh => by
    unfold tp bs_n0 bs_n1 bs_ne
    rw [bk_u_row (a := 1) _ (by omega), bk_u_row (a := 2) _ (by omega), bk_u_row (a := 3) _ (by omega), bk_u_row (a := 4) _ (by omega), bk_u_row (a := 5) _ (by omega), bk_u_row (a := 6) _ (by omega), bk_u_row (a := 7) _ (by omega), bk_u_row (a := 8) _ (by omega)]
  refine hP _ _ ⟨ib_sg (n := 0) hi (fun k h1 h2 h3 => bk_u_row _ (by omega)) (by omega) (bk_u_same _ _ _ _) (fun i hi2 => absurd hi2 (Nat.not_lt_zero _)), ?_, ?_⟩ (fun Q hQ => ?_)
  · intro q
    rw [bk_u_row _ (by omega)] at q
    have f := hT q
    unfold fr_T at f ⊢
    rw [tpe]
    refine ⟨f.1.sub (fun k h1 h2 => bk_u_row _ (by omega)), ?_⟩
    have := f.2
    unfold cr_Dn at this ⊢
    rw [bk_u_row (a := 36) _ (by omega), bk_u_row (a := 36 + 2) _ (by omega), bk_u_row (a := 36 + 3) _ (by omega), bk_u_row (a := 36 + 4) _ (by omega), bk_u_row (a := 36 + 5) _ (by omega), bk_u_row (a := 36 + 6) _ (by omega), bk_u_row (a := 36 + 7) _ (by omega), bk_u_row (a := 36 + 8) _ (by omega), bk_u_row (a := 36 + 9) _ (by omega), bk_u_row (a := 36 + 10) _ (by omega), bk_u_row (a := 36 + 11) _ (by omega)]
    exact this
  · intro q
    rw [bk_u_row _ (by omega)] at q
    intro w hw
    have hw : w < 2 ^ bs_ne σ := by unfold bs_ne at hw ⊢; rwa [bk_u_row _ (by omega)] at hw
    rw [tpe, tpe, bk_u_row _ (by omega)]; exact hE q w hw
  · show Q (τ 0 46) (bk_u τ 0 46 0)
    rw [hb.2.2.2.2.2.2.1]
    exact hQ _ (rb_sg (n := 0) hb (fun k h1 h2 h3 => bk_u_row _ (by omega)) (by rw [bk_u_row _ (by omega)]) (by omega) (bk_u_same _ _ _ _) (fun j hj => by rw [bk_u_at, if_neg (by omega)]) (fun k h1 h2 => bk_u_row _ (by omega)) (by rw [bk_u_same, bk_u_same]) (fun i hi2 => absurd hi2 (Nat.not_lt_zero _)))
