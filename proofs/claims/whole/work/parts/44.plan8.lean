/-! The reference: the evening to ask, seasons by a seed. -/
theorem m_askOf {t : Nat} {σ τ : bk_S} {post : Int32 → bk_S → Prop} (hi : ib σ) (hb : rb σ τ) (ht : t < 8) (hpost : ∀ τ', rq τ τ' → post (nI (mt_ak (fun e => mt_gl (mt_hb σ (tp σ tA) t) (mt_hs (tp σ tA) t) e 10) 11).1) τ') : w_X9_askOf (nI t) τ post := by
  unfold w_X9_askOf
  refine m_heatsBy hi hb ht (fun τ1 q1 h51 => ?_)
  simp only [bk_lt_iff]
  have hpost := hpost τ1 q1
  generalize mt_hb σ (tp σ tA) t = fit at *
  generalize mt_hs (tp σ tA) t = S at *
  have bnd : ∀ e, (fun e => mt_gl fit S e 10) e ≤ 10 := fun e => mt_gl_le fit S e 10
  have aI := mt_ak_in (fun e => mt_gl fit S e 10) bnd
  generalize hA : mt_ak (fun e => mt_gl fit S e 10) = A at hpost aI
  have A0 : A 0 = (0, mt_gl fit S 0 10) := by rw [← hA]; rfl
  have As : ∀ n, A (n + 1) = if mt_gl fit S (n + 1) 10 < (A n).2 then (n + 1, mt_gl fit S (n + 1) 10) else A n := fun n => by rw [← hA]; rfl
  refine bk_loop_up 12 (fun e (_ : Unit) => ((if e = 0 then (-1 : Int32) else nI (A (e - 1)).1), (if e = 0 then (0 : Int32) else nI (A (e - 1)).2), nI e)) (fun e _ => True) (i0 := 0) (b0 := ()) rfl (Nat.zero_le _) trivial ?_ ?_
  · intro e _ K he _ hK
    have hK := hK () trivial
    rw [if_neg (by omega), if_neg (by omega), Nat.add_sub_cancel] at hK
    refine ⟨fun hle => absurd ((nI_leI (a := 12) (by omega) (by omega)).mp hle) (by omega), fun _ => ?_⟩
    have e12 : ∀ d, (12 : Int32) * nI d + nI e = nI (12 * d + e) := fun d => by rw [pz_12, pz_mulr, nI_add]
    simp only [nI_1]
    refine bk_jn_of (fun a => a = nI (mt_gl fit S e 10)) (fun K2 hK2 => ?_) (fun a ha => ?_)
    · have gI := mt_gl_le fit S e
      generalize hG : mt_gl fit S e = G at hK2 gI
      have G1 : G 1 = 0 := by rw [← hG]; simp [mt_gl]
      have Gs : ∀ v, G (v + 1) = if 1 ≤ v ∧ mt_b fit v = true then max (G v) (mt_lk fit S v e 10) else G v := fun v => by rw [← hG]; rfl
      refine bk_loop_up 10 (fun v (_ : Unit) => (nI (G v), nI v)) (fun v _ => 1 ≤ v) (i0 := 1) (b0 := ()) (by rw [G1]; rfl) (by omega) (Nat.le_refl _) ?_ ?_
      · intro v _ K3 hv hv1 hK3
        have hK3 := hK3 () (by omega)
        rw [Gs] at hK3
        refine ⟨fun hle => absurd ((nI_leI (a := 10) (by omega) (by omega)).mp hle) (by omega), fun _ => ?_⟩
        simp only [nI_1]
        refine bk_jn_of (fun a => a = nI (if mt_b fit v = true then mt_lk fit S v e 10 else 0)) (fun K4 hK4 => ?_) (fun a ha => ?_)
        · generalize hL : mt_lk fit S v e = L at hK4
          have L1 : L 1 = 0 := by rw [← hL]; simp [mt_lk]
          have Ls : ∀ o, L (o + 1) = L o + (if 1 ≤ o ∧ mt_b fit o = true ∧ S o e = S v e then 1 else 0) := fun o => by rw [← hL]; rfl
          refine bk_loop_up 10 (fun o (_ : Unit) => (nI (if mt_b fit v = true then L o else 0), nI o)) (fun o _ => 1 ≤ o) (i0 := 1) (b0 := ()) (by rw [L1, ite_self]; rfl) (by omega) (Nat.le_refl _) ?_ ?_
          · intro o _ K5 ho ho1 hK5
            have hK5 := hK5 () (by omega)
            rw [Ls] at hK5
            refine ⟨fun hle => absurd ((nI_leI (a := 10) (by omega) (by omega)).mp hle) (by omega), fun _ => ?_⟩
            simp only [bk_jn_iff, nI_1, e12, nI_clamp (show 12 * v + e < 2 ^ 31 by omega), nI_clamp (show 12 * o + e < 2 ^ 31 by omega), h51 v e hv1 (by omega) he, h51 o e ho1 (by omega) he]
            refine m_isIn (fun bv => ⟨fun h => absurd h (by decide), fun _ => m_isIn (fun bo => ⟨fun h => absurd h (by decide), fun _ => ⟨(pz_in (by omega)).mpr (by omega), (pz_in (by omega)).mpr (by omega), fun hne => ?_, fun heq => ?_⟩⟩) (fun bo => ⟨fun _ => ?_, fun h => absurd rfl h⟩)⟩) (fun bv => ⟨fun _ => ?_, fun h => absurd rfl h⟩)
            · rw [if_pos bv] at hK5 ⊢
              rw [if_neg (fun q => hne q.2.2.symm)] at hK5
              rw [pz_0, nI_add]; exact hK5
            · rw [if_pos bv] at hK5 ⊢
              rw [if_pos ⟨ho1, bo, heq.symm⟩] at hK5
              exact hK5
            · rw [if_pos bv] at hK5 ⊢
              rw [if_neg (fun q => by rw [bo] at q; exact absurd q.2.1 (by decide))] at hK5
              rw [pz_0, nI_add]; exact hK5
            · rw [if_neg (by rw [bv]; decide)] at hK5 ⊢
              rw [pz_0, nI_add]; exact hK5
          · intro _ K5 _
            exact ⟨fun _ => hK4 _ rfl, fun hn => absurd (by show (10 : Int32) ≤ nI 10; decide) hn⟩
        · subst ha
          have g1 := gI v
          have l1 := mt_lk_le fit S v e 10
          by_cases bv : mt_b fit v = true
          · rw [if_pos bv]
            rw [if_pos ⟨hv1, bv⟩] at hK3
            rw [nI_leI (by omega) (by omega)]
            exact ⟨fun h => by rw [Nat.max_eq_left h] at hK3; exact hK3, fun h => by rw [Nat.max_eq_right (by omega)] at hK3; exact hK3⟩
          · rw [if_neg bv]
            rw [if_neg (fun q => bv q.2)] at hK3
            rw [nI_leI (by omega) (by omega)]
            exact ⟨fun _ => hK3, fun h => absurd (Nat.zero_le _) h⟩
      · intro _ K3 _
        exact ⟨fun _ => hK2 _ rfl, fun hn => absurd (by show (10 : Int32) ≤ nI 10; decide) hn⟩
    · subst ha
      have b1 := bnd e
      have b1 : mt_gl fit S e 10 ≤ 10 := b1
      have yes : (e = 0 ∨ mt_gl fit S e 10 < (A (e - 1)).2) → A e = (e, mt_gl fit S e 10) := by
        intro h
        cases e with
        | zero => exact A0
        | succ n =>
          rw [As, if_pos (by rcases h with h | h; exact absurd h (by omega); exact h)]
      have no : ¬ e = 0 → ¬ mt_gl fit S e 10 < (A (e - 1)).2 → A e = A (e - 1) := by
        intro h h'
        cases e with
        | zero => exact absurd rfl h
        | succ n => rw [Nat.add_sub_cancel] at h' ⊢; rw [As, if_neg h']
      generalize mt_gl fit S e 10 = M at *
      simp only [bk_jn_iff]
      have h10 : ¬ (1 : Int32) = 0 := by decide
      by_cases e0 : e = 0
      · rw [yes (Or.inl e0)] at hK
        simp only [if_pos e0, if_neg h10]
        exact ⟨fun _ => ⟨fun h => absurd h h10, fun _ => hK⟩, fun h => absurd trivial h⟩
      · rw [if_neg e0, if_neg e0]
        have a1 := aI (e - 1)
        refine ⟨fun h => absurd h (pz_ne_m1 (by omega)), fun _ => ⟨fun hle => ⟨fun _ => ?_, fun h => absurd trivial h⟩, fun hle => ⟨fun h => absurd h h10, fun _ => ?_⟩⟩⟩
        · have := (nI_leI (by omega) (by omega)).mp hle
          rw [no e0 (by omega)] at hK
          rw [if_pos trivial]; exact hK
        · have : ¬ (A (e - 1)).2 ≤ M := fun h => hle ((nI_leI (by omega) (by omega)).mpr h)
          rw [yes (Or.inr (by omega))] at hK
          rw [if_neg h10]; exact hK
  · intro _ K _
    exact ⟨fun _ => hpost, fun hn => absurd (by show (12 : Int32) ≤ nI 12; decide) hn⟩
theorem m_seasonsOf {n : Nat} {seed x : Int32} {σ τ : bk_S} {post : Int32 → bk_S → Prop} (hi : ib σ) (hb : rb σ τ) (hn : n ≤ 8) (hpost : ∀ τ', rq τ τ' → post (if x = 0 then mt_cnt (sd_p (tp σ tA) seed n) else mt_hol (sd_p (tp σ tA) seed n)) τ') : w_X9_seasonsOf seed (nI n) x τ post := by
  have hp := tp_ok hi tA
  obtain ⟨ok', nt'⟩ := sd_p_ok hp seed hn
  unfold w_X9_seasonsOf
  refine m_asTold hi hb (fun τ1 q1 a1 => ?_)
  simp only [bk_lt_iff]
  obtain ⟨t1, -, h16, -, -, -, h17, h18, h19⟩ := a1.L hi
  refine bk_jn_of (fun a => rq τ a ∧ pL σ a (sd_p (tp σ tA) seed n) tA (-1) (-1)) (fun K hK => ?_) (fun a ha => ?_)
  · refine bk_loop_up n (fun i (a : bk_S) => (sd_s seed (3 * i), nI i, a)) (fun i a => rq τ a ∧ (∀ j, j ≠ 12 → a 0 j = τ1 0 j) ∧ a 0 12 = nI n ∧ (∀ k, 0 < k → k < 14 → a k = τ1 k) ∧ (∀ t, t < i → a 14 t = sd_p (tp σ tA) seed n 2 t ∧ a 15 t = sd_p (tp σ tA) seed n 3 t ∧ a 16 t = sd_p (tp σ tA) seed n 4 t)) (i0 := 0) (b0 := bk_u τ1 0 12 (nI n)) rfl (Nat.zero_le _) ⟨q1.u (by omega), fun j hj => by rw [bk_u_at, if_neg (by omega)], bk_u_same _ _ _ _, fun k h1 _ => bk_u_row _ (by omega), fun t ht => absurd ht (Nat.not_lt_zero _)⟩ ?_ ?_
    · rintro i a K2 hi2 ⟨qa, c, c12, r, q⟩ hK2
      have hv : vp_in (nI i) 8 := (pz_in (by omega)).mpr (by omega)
      simp only [nI_1, nI_clamp (show i < 2 ^ 31 by omega)]
      refine ⟨fun hle => absurd ((nI_leI (by omega) (by omega)).mp hle) (by omega), fun _ => ⟨by decide, hv, by decide, hv, by decide, hv, ?_⟩⟩
      refine hK2 _ ⟨((qa.u (by omega)).u (by omega)).u (by omega), fun j hj => ?_, ?_, fun k h1 h2 => ?_, fun t ht => ?_⟩
      · rw [bk_u_row _ (by omega), bk_u_row _ (by omega), bk_u_row _ (by omega)]; exact c j hj
      · rw [bk_u_row _ (by omega), bk_u_row _ (by omega), bk_u_row _ (by omega)]; exact c12
      · rw [bk_u_row _ (by omega), bk_u_row _ (by omega), bk_u_row _ (by omega)]; exact r k h1 h2
      · rw [bk_u_row (a := 14) (k := 16) _ (by omega), bk_u_row (a := 14) (k := 15) _ (by omega), bk_u_row (a := 15) (k := 16) _ (by omega)]
        by_cases e : t = i
        · subst e; rw [bk_u_same, bk_u_same, bk_u_same]; exact ⟨rfl, rfl, rfl⟩
        · rw [bk_u_at, if_neg (by omega), bk_u_at, if_neg (by omega), bk_u_row (a := 15) (k := 14) _ (by omega), bk_u_at, if_neg (by omega), bk_u_row (a := 16) (k := 15) _ (by omega), bk_u_row (a := 16) (k := 14) _ (by omega)]
          exact q t (by omega)
    · rintro a K2 ⟨qa, c, c12, r, q⟩
      refine ⟨fun _ => hK a ⟨qa, ?_⟩, fun hn' => absurd ((nI_leI (by omega) (by omega)).mpr (Nat.le_refl _)) hn'⟩
      unfold pL
      rw [nt', c 16 (by omega), c 17 (by omega), c 18 (by omega), c 19 (by omega)]
      exact ⟨t1.same (c 2 (by omega)) (c 4 (by omega)) (fun k hk => r k (by omega) (by omega)), c12, h16, fun t ht => (q t ht).1, fun t ht => (q t ht).2.1, fun t ht => (q t ht).2.2, h17, h18, h19⟩
  · obtain ⟨qa, Pa⟩ := ha
    have nh' : mt_nh (sd_p (tp σ tA) seed n) = mt_nh (tp σ tA) := rfl
    refine m_runs ok' (Pa.P0 hi (hb.q qa) (by rw [nh', tp_nh hi]; exact Nat.le_refl _) rfl rfl rfl) (fun τ2 F2 D2 => ?_)
    have P3 := Pa.f F2.f
    have hq := hpost τ2 (qa.tr F2.q)
    have e29 : τ2 0 29 = mt_hol (sd_p (tp σ tA) seed n) := D2.1.2.2.2.2.2.2.2.1
    refine ⟨fun hx => ?_, fun hx => m_many (σ := σ) ok' P3.2.1 D2 ?_⟩
    · rw [if_neg hx] at hq; rw [e29]; exact hq
    · rwa [if_pos hx] at hq
