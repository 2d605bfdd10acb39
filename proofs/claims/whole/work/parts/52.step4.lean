/-! Steps: sheets. -/
theorem fd_ok {σ τ : bk_S} (h : RR σ τ) (v : Int32) : RR (bk_u σ 0 15 v) (bk_u τ 0 56 v) := by
  obtain ⟨hI, hb⟩ := h
  have e : ∀ k, 1 ≤ k → bk_u σ 0 15 v k = σ k := fun k hk => bk_u_row _ (by omega)
  have r : ∀ k, 1 ≤ k → bk_u τ 0 56 v k = τ k := fun k hk => bk_u_row _ (by omega)
  have hi : ib (bk_u σ 0 15 v) := by
    have := hI.1
    unfold ib bs_n0 bs_n1 bs_ne bs_ns at *
    rw [e 1 (by omega), e 3 (by omega), e 4 (by omega), e 5 (by omega), e 6 (by omega), e 7 (by omega), e 8 (by omega), e 9 (by omega), e 10 (by omega), e 11 (by omega), e 12 (by omega)]
    obtain ⟨a1, a2, a3, a4, a5, a6, a7, a8, a9, a10⟩ := this
    exact ⟨a1, a2, a3, a4, a5, a6, a7, a8, a9, fun s hs => by rw [e (14 + 2 * s) (by omega)]; exact a10 s hs⟩
  refine ⟨hI.same hi (fun k hk => e k (by omega)) (by rw [bk_u_at, if_neg (by omega)]) (by rw [bk_u_at, if_neg (by omega)]), ?_⟩
  obtain ⟨a1, a2, a3, a4, a5, a6, a7, a8, a9, a10⟩ := hb
  unfold rb bs_n0 bs_n1 bs_ne bs_ns at *
  rw [e 1 (by omega), e 2 (by omega), e 3 (by omega), e 4 (by omega), e 5 (by omega), e 6 (by omega), e 7 (by omega), e 8 (by omega), e 9 (by omega), e 10 (by omega), e 11 (by omega), e 12 (by omega), r 1 (by omega), r 2 (by omega), r 10 (by omega), r 11 (by omega), r 12 (by omega), r 48 (by omega), r 49 (by omega), r 50 (by omega), r 52 (by omega), r 53 (by omega), r 54 (by omega), r 55 (by omega), bk_u_same, bk_u_same, bk_u_at, if_neg (by omega), bk_u_at, if_neg (by omega)]
  exact ⟨a1, a2, a3, a4, a5, a6, a7, a8, fun s hs => by rw [e (14 + 2 * s) (by omega), e (14 + 2 * s + 1) (by omega)]; exact a9 s hs, rfl⟩
/-- a finding is met by both -/
theorem stp.fd {w8 w9 : (Int32 → bk_S → Prop) → Prop} {σ τ : bk_S} {v r : Int32} (h : RR σ τ) (h8 : ∀ P : Int32 → bk_S → Prop, P r (bk_u σ 0 15 v) → w8 P) (h9 : ∀ Q : Int32 → bk_S → Prop, Q r (bk_u τ 0 56 v) → w9 Q) : stp w8 w9 := fun P hP => h8 P (hP _ _ (fd_ok h v).1 (fun Q hQ => h9 Q (hQ _ (fd_ok h v).2)))
theorem sh_case {σ τ : bk_S} (h : RR σ τ) {s : Nat} (hs : s < 4) : (σ (14 + 2 * s) 1 = -1 ∧ τ 52 s = 0) ∨ (∃ n, n ≤ 60 ∧ σ (14 + 2 * s) 1 = nI n ∧ ¬ τ 52 s = 0 ∧ τ 53 s = σ (14 + 2 * s) 0 ∧ τ 54 s = nI n ∧ ∀ j, j < 60 → τ 55 (60 * s + j) = σ (14 + 2 * s + 1) j) := by
  obtain ⟨b1, b2, b3⟩ := h.2.2.2.2.2.2.2.2.2.1 s hs
  rcases (h.1.1.2.2.2.2.2.2.2.2.2 s hs).2 with e | ⟨n, hn, e⟩
  · exact Or.inl ⟨e, b2.mpr e⟩
  · have nz : ¬ τ 52 s = 0 := fun q => pz_ne_m1 (show n < 2 ^ 31 by omega) (e.symm.trans (b2.mp q))
    obtain ⟨c1, c2, c3⟩ := b3 nz
    exact Or.inr ⟨n, hn, e, nz, c1, c2.trans e, c3⟩
theorem sh_ok {σ σ' τ τ' : bk_S} {s : Nat} (h : RR σ τ) (hs : s < 4) (e : ∀ k, k ≠ 14 + 2 * s → k ≠ 14 + 2 * s + 1 → σ' k = σ k) (r : ∀ k, k < 52 → τ' k = τ k) (o : ∀ t, t < 4 → t ≠ s → τ' 52 t = τ 52 t ∧ τ' 53 t = τ 53 t ∧ τ' 54 t = τ 54 t ∧ ∀ j, j < 60 → τ' 55 (60 * t + j) = τ 55 (60 * t + j)) (n1 : σ' (14 + 2 * s) 0 = 0 ∨ σ' (14 + 2 * s) 0 = 1 ∨ σ' (14 + 2 * s) 0 = 2) (n2 : σ' (14 + 2 * s) 1 = -1 ∨ ∃ n, n ≤ 60 ∧ σ' (14 + 2 * s) 1 = nI n) (n3 : (τ' 52 s = 0 ∨ τ' 52 s = 1) ∧ (τ' 52 s = 0 ↔ σ' (14 + 2 * s) 1 = -1) ∧ (¬ τ' 52 s = 0 → τ' 53 s = σ' (14 + 2 * s) 0 ∧ τ' 54 s = σ' (14 + 2 * s) 1 ∧ ∀ j, j < 60 → τ' 55 (60 * s + j) = σ' (14 + 2 * s + 1) j)) : RR σ' τ' := by
  obtain ⟨hI, hb⟩ := h
  have e' : ∀ k, k < 14 ∨ 21 < k → σ' k = σ k := fun k hk => e k (by omega) (by omega)
  have hi : ib σ' := by
    have := hI.1
    unfold ib bs_n0 bs_n1 bs_ne bs_ns at *
    rw [e' 1 (by omega), e' 3 (by omega), e' 4 (by omega), e' 5 (by omega), e' 6 (by omega), e' 7 (by omega), e' 8 (by omega), e' 9 (by omega), e' 10 (by omega), e' 11 (by omega), e' 12 (by omega)]
    obtain ⟨a1, a2, a3, a4, a5, a6, a7, a8, a9, a10⟩ := this
    refine ⟨a1, a2, a3, a4, a5, a6, a7, a8, a9, fun t ht => ?_⟩
    by_cases q : t = s
    · subst q; exact ⟨n1, n2⟩
    · rw [e (14 + 2 * t) (by omega) (by omega)]; exact a10 t ht
  refine ⟨hI.same hi (fun k hk => e' k (by omega)) (by rw [e' 0 (by omega)]) (by rw [e' 0 (by omega)]), ?_⟩
  obtain ⟨a1, a2, a3, a4, a5, a6, a7, a8, a9, a10⟩ := hb
  unfold rb bs_n0 bs_n1 bs_ne bs_ns at *
  rw [e' 1 (by omega), e' 2 (by omega), e' 3 (by omega), e' 4 (by omega), e' 5 (by omega), e' 6 (by omega), e' 7 (by omega), e' 8 (by omega), e' 9 (by omega), e' 10 (by omega), e' 11 (by omega), e' 12 (by omega), e' 0 (by omega), r 0 (by omega), r 1 (by omega), r 2 (by omega), r 10 (by omega), r 11 (by omega), r 12 (by omega), r 48 (by omega), r 49 (by omega), r 50 (by omega)]
  refine ⟨a1, a2, a3, a4, a5, a6, a7, a8, fun t ht => ?_, a10⟩
  by_cases q : t = s
  · subst q; exact n3
  · obtain ⟨o1, o2, o3, o4⟩ := o t ht q
    rw [o1, o2, o3, e (14 + 2 * t) (by omega) (by omega), e (14 + 2 * t + 1) (by omega) (by omega)]
    obtain ⟨b1, b2, b3⟩ := a9 t ht
    exact ⟨b1, b2, fun nz => ⟨(b3 nz).1, (b3 nz).2.1, fun j hj => (o4 j hj).trans ((b3 nz).2.2 j hj)⟩⟩
theorem c_lost {b : Nat} {σ : bk_S} {post : Int32 → Prop} (e : σ b 1 = -1) (h : post 1) : w_X5_isLost b σ post := by
  unfold w_X5_isLost; rw [e]; exact ⟨fun q => absurd q (by decide), fun _ => h⟩
theorem c_there {b n : Nat} {σ : bk_S} {post : Int32 → Prop} (hn : n ≤ 60) (e : σ b 1 = nI n) (h : post 0) : w_X5_isLost b σ post := by
  unfold w_X5_isLost; rw [e]; exact ⟨fun _ => h, fun q => absurd (nI_pos' (by omega)) q⟩
theorem vp4 {j : Nat} (h : j < 4) : vp_in (nI j) 4 := (pz_in (by omega)).mpr h
theorem nar1 : vp_nar .boolean (1 : Int32) = 1 := by rfl
theorem nar0 : vp_nar .boolean (0 : Int32) = 0 := by rfl
theorem s_lose {x : Int32} {σ τ : bk_S} (h : RR σ τ) : stp (w_X8_lose x σ) (w_X9_lose x τ) := by
  by_cases b : bw x 4
  · obtain ⟨s, hs, rfl⟩ := bw_4 b
    have cl : (nI s).toNatClampNeg = s := nI_clamp (by omega)
    rcases sh_case h hs with ⟨e1, e2⟩ | ⟨n, hn, e1, e2, e3, e4, e5⟩
    · refine stp.fd (v := 1) (r := -10 - 1) h (fun P hP => c_isSheet (fun _ => br1' ⟨vp4 hs, ?_⟩) (fun q => absurd b q)) (fun Q hQ => m_isSheet (fun _ => br1' ⟨vp4 hs, ?_⟩) (fun q => absurd b q))
      · rw [cl]; exact c_lost e1 (br1 hP)
      · rw [cl]; exact ⟨fun q => absurd e2 q, fun _ => hQ⟩
    · intro P hP
      refine c_isSheet (fun _ => br1' ⟨vp4 hs, ?_⟩) (fun q => absurd b q)
      simp only [bk_lt_iff]
      rw [cl]
      refine c_there hn e1 (br0 ⟨vp4 hs, vp4 hs, ?_⟩)
      have R : RR (bk_u σ (14 + 2 * s) 1 (-1)) (bk_u τ 52 s 0) := by
        refine sh_ok h hs (fun k h1 h2 => bk_u_row _ h1) (fun k hk => bk_u_row _ (by omega)) (fun t ht q => ⟨by rw [bk_u_at, if_neg (by omega)], by rw [bk_u_row _ (by omega)], by rw [bk_u_row _ (by omega)], fun j hj => by rw [bk_u_row _ (by omega)]⟩) ?_ (Or.inl (bk_u_same _ _ _ _)) ⟨Or.inl (bk_u_same _ _ _ _), ?_, fun q => absurd (bk_u_same _ _ _ _) q⟩
        · rw [bk_u_at, if_neg (by omega)]; exact (h.1.1.2.2.2.2.2.2.2.2.2 s hs).1
        · rw [bk_u_same, bk_u_same]; exact ⟨fun _ => rfl, fun _ => rfl⟩
      refine hP _ _ R.1 (fun Q hQ => m_isSheet (fun _ => br1' ⟨vp4 hs, ?_⟩) (fun q => absurd b q))
      simp only [bk_lt_iff]
      rw [cl, nar0, bk_u_row (a := 54) _ (by omega), e4, ← e1]
      exact ⟨fun _ => ⟨vp4 hs, vp4 hs, hQ _ R.2⟩, fun q => absurd q e2⟩
  · exact stp.no (v := -2) h (fun P hP => c_isSheet (fun q => absurd q b) (fun _ => br0' hP)) (fun Q hQ => m_isSheet (fun q => absurd q b) (fun _ => br0' hQ))
theorem pz_60t {x : Int32} : (0 ≤ x ∧ x ≤ 60) ↔ bw x 61 := pz_top (n := 61) (m := 60) rfl (by omega)
theorem pz_3t {x : Int32} : (0 ≤ x ∧ x ≤ 2) ↔ bw x 3 := pz_top (n := 3) (m := 2) rfl (by omega)
theorem bw_3c {x : Int32} (h : bw x 3) : x = 0 ∨ x = 1 ∨ x = 2 := by
  obtain ⟨a, ha, rfl⟩ := bw_3 h
  match a, ha with
  | 0, _ => exact Or.inl rfl
  | 1, _ => exact Or.inr (Or.inl rfl)
  | 2, _ => exact Or.inr (Or.inr rfl)
theorem s_sheet {x y z : Int32} {σ τ : bk_S} (h : RR σ τ) : stp (w_X8_sheet x y z σ) (w_X9_sheet x y z τ) := by
  by_cases b : bw x 4
  · by_cases b2 : bw y 3
    · have g8 : ∀ P : Int32 → bk_S → Prop, ((z ≤ (60 : Int32) → ((0 ≤ z → (vp_in x 4 ∧ w_X5_lay (14 + 2 * Int32.toNatClampNeg x) y z σ (fun σ4 => P z σ4))) ∧ (¬ 0 ≤ z → (w_X8_findingOf (5 : Int32) σ (fun r5 σ6 => P r5 σ6))))) ∧ (¬ z ≤ (60 : Int32) → P (-2 : Int32) σ)) → w_X8_sheet x y z σ P := fun P hP => c_isSheet (fun _ => br1 (c_isBelow (fun _ => br1 hP) (fun q => absurd b2 q))) (fun q => absurd b q)
      have g9 := fun (Q : Int32 → bk_S → Prop) hQ => show w_X9_sheet x y z τ Q from m_isSheet (fun _ => br1 (m_inB (n := 3) pz_3t (fun _ => br1 hQ) (fun q => absurd b2 q))) (fun q => absurd b q)
      by_cases b3 : z ≤ 60
      · by_cases b4 : 0 ≤ z
        · obtain ⟨s, hs, rfl⟩ := bw_4 b
          obtain ⟨n, hn, rfl⟩ := (bw_in (n := 61) (by omega)).mp (pz_60t.mp ⟨b4, b3⟩)
          have cl : (nI s).toNatClampNeg = s := nI_clamp (by omega)
          intro P hP
          refine g8 P ⟨fun _ => ⟨fun _ => ⟨vp4 hs, ?_⟩, fun q => absurd b4 q⟩, fun q => absurd b3 q⟩
          rw [cl]
          unfold w_X5_lay
          simp only [bk_lt_iff]
          refine c_fill (by decide) ?_
          generalize hS : bk_w (bk_u (bk_u σ (14 + 2 * s) 0 y) (14 + 2 * s) 1 (nI n)) (14 + 2 * s + 1) (fun j => if j < 60 then 0 else bk_u (bk_u σ (14 + 2 * s) 0 y) (14 + 2 * s) 1 (nI n) (14 + 2 * s + 1) j) = σ'
          have y0 : σ' (14 + 2 * s) 0 = y := by rw [← hS, bk_w_at, if_neg (by omega), bk_u_at, if_neg (by omega), bk_u_same]
          have y1 : σ' (14 + 2 * s) 1 = nI n := by rw [← hS, bk_w_at, if_neg (by omega), bk_u_same]
          have yj : ∀ j, j < 60 → σ' (14 + 2 * s + 1) j = 0 := fun j hj => by rw [← hS, bk_w_at, if_pos rfl, if_pos hj]
          have ye : ∀ k, k ≠ 14 + 2 * s → k ≠ 14 + 2 * s + 1 → σ' k = σ k := fun k h1 h2 => by rw [← hS, bk_w_n _ _ h2, bk_u_row _ h1, bk_u_row _ h1]
          have main : ∀ τ', (∀ k, k < 52 → τ' k = τ k) → (∀ t, t < 4 → t ≠ s → τ' 52 t = τ 52 t ∧ τ' 53 t = τ 53 t ∧ τ' 54 t = τ 54 t ∧ ∀ j, j < 60 → τ' 55 (60 * t + j) = τ 55 (60 * t + j)) → τ' 52 s = 1 → τ' 53 s = y → τ' 54 s = nI n → (∀ j, j < 60 → τ' 55 (60 * s + j) = 0) → RR σ' τ' := by
            intro τ' t1 t2 t3 t4 t5 t6
            refine sh_ok h hs ye t1 t2 (by rw [y0]; exact bw_3c b2) (Or.inr ⟨n, by omega, y1⟩) ⟨Or.inr t3, ?_, fun _ => ⟨by rw [t4, y0], by rw [t5, y1], fun j hj => by rw [t6 j hj, yj j hj]⟩⟩
            rw [t3, y1]
            exact ⟨fun q => absurd q (by decide), fun q => absurd q (pz_ne_m1 (by omega))⟩
          have RC : cI σ' := by
            refine (main (fun k j => if k < 52 then τ k j else if k = 52 then (if j = s then 1 else τ k j) else if k = 53 then (if j = s then y else τ k j) else if k = 54 then (if j = s then nI n else τ k j) else if 60 * s ≤ j ∧ j < 60 * s + 60 then 0 else τ k j) (fun k hk => ?_) (fun t ht q => ⟨?_, ?_, ?_, fun j hj => ?_⟩) ?_ ?_ ?_ (fun j hj => ?_)).1
            · funext j; simp [hk]
            · simp [q]
            · simp [q]
            · simp [q]
            · have : ¬ (60 * s ≤ 60 * t + j ∧ 60 * t + j < 60 * s + 60) := by omega
              simp [this]
            · simp
            · simp
            · simp
            · have : 60 * s ≤ 60 * s + j ∧ 60 * s + j < 60 * s + 60 := by omega
              simp [this]
          refine hP _ _ RC (fun Q hQ => g9 Q ⟨fun _ => ⟨fun _ => ⟨vp4 hs, ?_⟩, fun q => absurd b4 q⟩, fun q => absurd b3 q⟩)
          simp only [bk_lt_iff]
          rw [cl, nar1]
          refine ⟨vp4 hs, vp4 hs, ?_⟩
          refine bk_loop_up 60 (fun i (a : bk_S) => (nI i, a)) (fun i a => (∀ k, k < 52 → a k = τ k) ∧ (∀ t, t < 4 → t ≠ s → a 52 t = τ 52 t ∧ a 53 t = τ 53 t ∧ a 54 t = τ 54 t ∧ ∀ j, j < 60 → a 55 (60 * t + j) = τ 55 (60 * t + j)) ∧ a 52 s = 1 ∧ a 53 s = y ∧ a 54 s = nI n ∧ (∀ j, j < i → a 55 (60 * s + j) = 0)) (i0 := 0) (b0 := bk_u (bk_u (bk_u τ 52 s 1) 53 s y) 54 s (nI n)) rfl (Nat.zero_le _) ⟨fun k hk => by rw [bk_u_row _ (by omega), bk_u_row _ (by omega), bk_u_row _ (by omega)], fun t ht q => ⟨?_, ?_, ?_, fun j hj => ?_⟩, ?_, ?_, ?_, fun j hj => absurd hj (Nat.not_lt_zero _)⟩ ?_ ?_
          · rw [bk_u_row _ (by omega), bk_u_row _ (by omega), bk_u_at, if_neg (by omega)]
          · rw [bk_u_row _ (by omega), bk_u_at, if_neg (by omega), bk_u_row _ (by omega)]
          · rw [bk_u_at, if_neg (by omega), bk_u_row _ (by omega), bk_u_row _ (by omega)]
          · rw [bk_u_row _ (by omega), bk_u_row _ (by omega), bk_u_row _ (by omega)]
          · rw [bk_u_row _ (by omega), bk_u_row _ (by omega), bk_u_same]
          · rw [bk_u_row _ (by omega), bk_u_same]
          · rw [bk_u_same]
          · rintro i a K hi ⟨t1, t2, t3, t4, t5, t6⟩ hK
            have e60 : (60 : Int32) * nI s + nI i = nI (60 * s + i) := by rw [pz_60, pz_mulr, nI_add]
            simp only [nI_1, e60, nI_clamp (show 60 * s + i < 2 ^ 31 by omega)]
            refine ⟨fun hle => absurd ((nI_leI (a := 60) (by omega) (by omega)).mp hle) (by omega), fun _ => ⟨(pz_in (by omega)).mpr (by omega), hK _ ⟨fun k hk => by rw [bk_u_row _ (by omega)]; exact t1 k hk, fun t ht q => ?_, ?_, ?_, ?_, fun j hj => ?_⟩⟩⟩
            · obtain ⟨w1, w2, w3, w4⟩ := t2 t ht q
              rw [bk_u_row (a := 52) _ (by omega), bk_u_row (a := 53) _ (by omega), bk_u_row (a := 54) _ (by omega)]
              exact ⟨w1, w2, w3, fun j hj => by rw [bk_u_at, if_neg (by omega)]; exact w4 j hj⟩
            · rw [bk_u_row _ (by omega)]; exact t3
            · rw [bk_u_row _ (by omega)]; exact t4
            · rw [bk_u_row _ (by omega)]; exact t5
            · rw [bk_u_at]
              by_cases q : j = i
              · rw [if_pos (by omega)]
              · rw [if_neg (by omega)]; exact t6 j (by omega)
          · rintro a K ⟨t1, t2, t3, t4, t5, t6⟩
            exact ⟨fun _ => hQ a (main a t1 t2 t3 t4 t5 t6).2, fun hn' => absurd (by show (60 : Int32) ≤ nI 60; decide) hn'⟩
        · exact stp.fd (v := 5) (r := -10 - 5) h (fun P hP => g8 P ⟨fun _ => ⟨fun q => absurd q b4, fun _ => hP⟩, fun q => absurd b3 q⟩) (fun Q hQ => g9 Q ⟨fun _ => ⟨fun q => absurd q b4, fun _ => hQ⟩, fun q => absurd b3 q⟩)
      · exact stp.no (v := -2) h (fun P hP => g8 P ⟨fun q => absurd q b3, fun _ => hP⟩) (fun Q hQ => g9 Q ⟨fun q => absurd q b3, fun _ => hQ⟩)
    · exact stp.no (v := -2) h (fun P hP => c_isSheet (fun _ => br1 (c_isBelow (fun q => absurd q b2) (fun _ => br0 hP))) (fun q => absurd b q)) (fun Q hQ => m_isSheet (fun _ => br1 (m_inB (n := 3) pz_3t (fun q => absurd q b2) (fun _ => br0 hQ))) (fun q => absurd b q))
  · exact stp.no (v := -2) h (fun P hP => c_isSheet (fun q => absurd q b) (fun _ => br0 hP)) (fun Q hQ => m_isSheet (fun q => absurd q b) (fun _ => br0 hQ))
