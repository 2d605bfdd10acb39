/-! The reference's plans: spare, seen, never, heats, sorts, ask, seasons. -/
theorem m_isSpared {X : Int32} {wh w0 : Nat → Bool} {σ τ : bk_S} {post : Int32 → bk_S → Prop} (hi : ib σ) (hb : rb σ τ) (hP : pL σ τ (tp σ tA) w0 (-1) (-1)) (hX : ∀ i, i < bs_ne σ → mt_b X i = !wh i) (hpost : ∀ τ', rq τ τ' → pL σ τ' (tp σ tA) wh (-1) (-1) → τ' 46 = τ 46 → post (if mt_allb (tp σ wh) = true then 1 else 0) τ') : w_X9_isSpared X τ post := by
  unfold w_X9_isSpared
  simp only [bk_lt_iff]
  have P2 : pL σ (bk_u τ 0 19 X) (tp σ tA) wh (-1) (-1) := hP.u19 hX
  have P3 : pL σ (bk_u τ 0 19 X) (tp σ wh) wh (-1) (-1) := P2
  have q2 : rq τ (bk_u τ 0 19 X) := (rq.rf τ).u (by omega)
  have ok' := tp_ok hi wh
  refine m_runs ok' (P3.P0 hi (hb.q q2) (by rw [tp_nh hi]; exact Nat.le_refl _) rfl rfl rfl) (fun τ2 F2 D2 => ?_)
  have P4 := P3.f F2.f
  refine m_many (σ := σ) ok' P4.2.1 D2 ?_
  have y4 : τ2 0 4 = nI (mt_nt (tp σ wh)) := by rw [tp_nt hi]; exact P4.1.2.1
  have hnt := ok'.nt.2
  have hcs := mt_cs_le (mt_ev (tp σ wh) 11 1) (mt_nt (tp σ wh))
  have e46 : τ2 46 = τ 46 := by
    funext j; rw [F2 46 j (by omega) (by omega), bk_u_row _ (by omega)]
  have := hpost τ2 (q2.tr F2.q) P4 e46
  rw [y4]
  unfold mt_cnt
  rw [nI_eq (by omega) (by omega)]
  unfold mt_allb at this
  exact ⟨fun h => by simpa [h] using this, fun h => by simpa [h] using this⟩
theorem m_spareBy {σ τ : bk_S} {post : Int32 → bk_S → Prop} (hi : ib σ) (hb : rb σ τ) (hpost : ∀ τ', rq τ τ' → ((sp σ).1 = 1 ∨ (sp σ).1 = 2 → τ' 46 0 = (sp σ).2.1) → ((sp σ).1 = 2 → τ' 46 1 = (sp σ).2.2) → post (sp σ).1 τ') : w_X9_spareBy τ post := by
  obtain ⟨hne, h53⟩ := hi.2.2.2.2.2.1
  unfold w_X9_spareBy
  refine m_asTold hi hb (fun τ1 q1 a1 => ?_)
  simp only [bk_lt_iff, pz_clamp0, pz_clamp1]
  have c8 : ∀ a, rq τ a → a 0 8 = nI (bs_ne σ) := fun a q => by rw [q.2.1, hb.2.2.2.2.1]; exact h53
  have hv0 : vp_in 0 2 := by unfold vp_in; decide
  have hv1 : vp_in 1 2 := by unfold vp_in; decide
  refine m_isSpared (wh := tA) hi (hb.q q1) (a1.L hi) (fun i hi2 => by rw [mt_b_zero (by omega)]; rfl) (fun τ2 q2 P2 _ => ?_)
  have qq2 := q1.tr q2
  unfold sp at hpost
  by_cases hall : mt_allb (tp σ tA) = true
  · rw [if_pos hall] at hpost ⊢
    exact ⟨fun h => absurd h (by decide), fun _ => hpost τ2 qq2 (fun h => by rcases h with h | h <;> exact absurd h (by decide)) (fun h => absurd h (by decide))⟩
  · rw [if_neg hall] at hpost ⊢
    refine ⟨fun _ => ?_, fun h => absurd rfl h⟩
    refine bk_jn_of (fun a => rq τ a ∧ (∃ wh, pL σ a (tp σ tA) wh (-1) (-1)) ∧ sp_1 σ = -1) (fun K hK => ?_) (fun a ha => ?_)
    · refine bk_loop_up (bs_ne σ) (fun i (a : bk_S) => (nI i, a)) (fun i a => rq τ a ∧ (∃ wh, pL σ a (tp σ tA) wh (-1) (-1)) ∧ sp_1 σ = mt_ff (fun a => mt_allb (tp σ (tM a))) (bs_ne σ - i) i) (i0 := 0) (b0 := τ2) rfl (Nat.zero_le _) ⟨qq2, ⟨_, P2⟩, rfl⟩ ?_ ?_
      · rintro i a K2 hi2 ⟨qa, ⟨wh, Pa⟩, hI⟩ hK2
        rw [mt_ff_step hi2] at hI
        refine ⟨fun hle => ?_, fun _ => ⟨hv0, ?_⟩⟩
        · have hle : a 0 8 ≤ nI i := hle
          rw [c8 a qa] at hle; exact absurd ((nI_leI (by omega) (by omega)).mp hle) (by omega)
        · have qa' : rq τ (bk_u a 46 0 (nI i)) := qa.u (by omega)
          refine m_isSpared (wh := tM i) hi (hb.q qa') (Pa.f ((pf.rf a).u (by omega))) (fun j hj => by rw [mt_b_shl (by omega) (by omega)]; simp [tM]) (fun τ3 q3 P3 e46 => ?_)
          simp only [nI_1]
          by_cases hs : mt_allb (tp σ (tM i)) = true
          · rw [if_pos hs]
            refine ⟨fun h => absurd h (by decide), fun _ => ?_⟩
            rw [if_pos hs] at hI
            have hne1 : ¬ sp_1 σ = -1 := by rw [hI]; exact pz_ne_m1 (by omega)
            rw [if_neg hne1] at hpost
            refine hpost τ3 (qa'.tr q3) (fun _ => ?_) (fun h => absurd (show (1 : Int32) = 2 from h) (by decide))
            rw [e46, bk_u_same, hI]
          · rw [if_neg hs]
            rw [if_neg hs] at hI
            exact ⟨fun _ => hK2 τ3 ⟨qa'.tr q3, ⟨_, P3⟩, hI⟩, fun h => absurd rfl h⟩
      · rintro a K2 ⟨qa, hP, hI⟩
        rw [Nat.sub_self] at hI
        refine ⟨fun _ => hK a ⟨qa, hP, hI⟩, fun hn => absurd ?_ hn⟩
        show a 0 8 ≤ nI (bs_ne σ)
        rw [c8 a qa]; exact (nI_leI (by omega) (by omega)).mpr (Nat.le_refl _)
    · obtain ⟨qa, ⟨wh0, Pa0⟩, hs1⟩ := ha
      rw [if_pos hs1] at hpost
      refine bk_loop_up (bs_ne σ) (fun i (a : bk_S) => (nI i, a)) (fun i a => rq τ a ∧ (∃ wh, pL σ a (tp σ tA) wh (-1) (-1)) ∧ sp_o σ = mt_ff (fun a => !decide (sp_in σ a = -1)) (bs_ne σ - i) i) (i0 := 0) (b0 := a) rfl (Nat.zero_le _) ⟨qa, ⟨_, Pa0⟩, rfl⟩ ?_ ?_
      · rintro i b K2 hi2 ⟨qb, ⟨wh, Pb⟩, hI⟩ hK2
        rw [mt_ff_step hi2] at hI
        simp only [nI_1]
        refine ⟨fun hle => ?_, fun _ => ?_⟩
        · have hle : b 0 8 ≤ nI i := hle
          rw [c8 b qb] at hle; exact absurd ((nI_leI (by omega) (by omega)).mp hle) (by omega)
        · refine bk_loop_up (bs_ne σ) (fun j (a : bk_S) => (nI j, a)) (fun j a => i < j ∧ rq τ a ∧ (∃ wh, pL σ a (tp σ tA) wh (-1) (-1)) ∧ sp_in σ i = mt_ff (fun b => mt_allb (tp σ (tM2 i b))) (bs_ne σ - j) j) (i0 := i + 1) (b0 := b) rfl (by omega) ⟨by omega, qb, ⟨_, Pb⟩, rfl⟩ ?_ ?_
          · rintro j c K3 hj ⟨hij, qc, ⟨wh', Pc⟩, hJ⟩ hK3
            rw [mt_ff_step hj] at hJ
            refine ⟨fun hle => ?_, fun _ => ⟨hv0, hv1, ?_⟩⟩
            · have hle : c 0 8 ≤ nI j := hle
              rw [c8 c qc] at hle; exact absurd ((nI_leI (by omega) (by omega)).mp hle) (by omega)
            · have qc' : rq τ (bk_u (bk_u c 46 0 (nI i)) 46 1 (nI j)) := (qc.u (by omega)).u (by omega)
              refine m_isSpared (wh := tM2 i j) hi (hb.q qc') (Pc.f (((pf.rf c).u (by omega)).u (by omega))) (fun k hk => by rw [mt_b_or _ _ (by omega), mt_b_shl (by omega) (by omega), mt_b_shl (by omega) (by omega)]; simp [tM2]) (fun τ3 q3 P3 e46 => ?_)
              simp only [nI_1]
              by_cases hs : mt_allb (tp σ (tM2 i j)) = true
              · rw [if_pos hs]
                refine ⟨fun h => absurd h (by decide), fun _ => ?_⟩
                rw [if_pos hs] at hJ
                have hin : ¬ sp_in σ i = -1 := by rw [hJ]; exact pz_ne_m1 (by omega)
                have ho : sp_o σ = nI i := by rw [hI, if_pos (by simp [hin])]
                have hone : ¬ sp_o σ = -1 := by rw [ho]; exact pz_ne_m1 (by omega)
                rw [if_neg hone] at hpost
                refine hpost τ3 (qc'.tr q3) (fun _ => ?_) (fun _ => ?_)
                · rw [e46, bk_u_at, if_neg (by omega), bk_u_same]; exact ho.symm
                · rw [e46, bk_u_same, ho, nI_clamp (by omega)]; exact hJ.symm
              · rw [if_neg hs]
                rw [if_neg hs] at hJ
                exact ⟨fun _ => hK3 τ3 ⟨by omega, qc'.tr q3, ⟨_, P3⟩, hJ⟩, fun h => absurd rfl h⟩
          · rintro c K3 ⟨hij, qc, hPc, hJ⟩
            rw [Nat.sub_self] at hJ
            have hJ : sp_in σ i = -1 := hJ
            refine ⟨fun _ => hK2 c ⟨qc, hPc, ?_⟩, fun hn => absurd ?_ hn⟩
            · rw [hI, if_neg (by simp [hJ])]
            · show c 0 8 ≤ nI (bs_ne σ)
              rw [c8 c qc]; exact (nI_leI (by omega) (by omega)).mpr (Nat.le_refl _)
      · rintro b K2 ⟨qb, hP, hI⟩
        rw [Nat.sub_self] at hI
        have hI : sp_o σ = -1 := hI
        rw [if_pos hI] at hpost
        refine ⟨fun _ => hpost b qb (fun h => by rcases h with h | h <;> exact absurd h (by decide)) (fun h => absurd h (by decide)), fun hn => absurd ?_ hn⟩
        show b 0 8 ≤ nI (bs_ne σ)
        rw [c8 b qb]; exact (nI_leI (by omega) (by omega)).mpr (Nat.le_refl _)
theorem nar_0 : narrow .boolean (.int 0) = .int 0 := by rfl
theorem nar_1 : narrow .boolean (.int 1) = .int 1 := by rfl
theorem m_isSeen {σ τ p : bk_S} {post : Int32 → bk_S → Prop} (hi : ib σ) (hb : rb σ τ) (hp : mt_ok p) (hP : rr_P τ p) (h4 : τ 0 4 = p 0 1) (hpost : ∀ τ', rr_F τ τ' → rr_D p τ' → post (if sn_s σ p = true then 1 else 0) τ') : w_X9_isSeen τ post := by
  obtain ⟨hns, hn3⟩ := hi.2.2.2.2.2.2.2.1
  have hnt := hp.nt
  unfold w_X9_isSeen
  refine m_runs hp hP (fun τ1 F1 D1 => ?_)
  simp only [bk_lt_iff]
  have hb1 := hb.q F1.q
  have hpost := hpost τ1 F1 D1
  have y46 : τ1 0 46 = nI (bs_ns σ) := by rw [hb1.2.2.2.2.2.2.1]; exact hn3
  have y4 : τ1 0 4 = nI (mt_nt p) := by rw [F1 0 4 (by omega) (by omega), h4]; exact hnt.1
  rw [y46, y4]
  refine bk_loop_up (bs_ns σ) (fun i (b : Bool) => ((if b = true then (1 : Int32) else 0), nI i)) (fun i b => sn σ p i = b) (i0 := 0) (b0 := true) rfl (Nat.zero_le _) rfl ?_ ?_
  · intro i b K hi2 hI hK
    refine ⟨fun hle => absurd ((nI_leI (by omega) (by omega)).mp hle) (by omega), fun _ => ?_⟩
    cases b with
    | false =>
      refine ⟨fun _ => ⟨nar_0, ?_⟩, fun h => absurd rfl h⟩
      have : sn_s σ p = false := by
        have := sn_mono hI (bs_ns σ - i)
        rwa [show i + (bs_ns σ - i) = bs_ns σ by omega] at this
      rw [this] at hpost; exact hpost
    | true =>
      refine ⟨fun h => absurd (show (1 : Int32) = 0 from h) (by decide), fun _ => ?_⟩
      have hv : vp_in (nI i) 8 := (pz_in (by omega)).mpr (by omega)
      obtain ⟨⟨e, he, h10⟩, ⟨t, ht, h11⟩, h12⟩ := hi.2.2.2.2.2.2.2.2.1 i hi2
      obtain ⟨g48, g49, g50⟩ := hb1.2.2.2.2.2.2.2.1 i hi2
      have hstep : sn σ p (i + 1) = sn_1 σ p i := by show (sn σ p i && _) = _; rw [hI]; rfl
      have e42 : τ1 42 e = mt_cm (mt_ev p e 1) (mt_nt p) := D1.1.2.2.2.2.1 e he
      simp only [nI_1, nI_clamp (show i < 2 ^ 31 by omega), g48, g49, g50, h10, h11, nI_clamp (show e < 2 ^ 31 by omega), e42]
      refine ⟨hv, ?_⟩
      refine bk_jn_of (fun _ => sn_1 σ p i = false) (fun K2 hK2 => ?_) (fun _ hf => ?_)
      · refine ⟨fun hle => hK2 () ?_, fun hle => ⟨hv, (pz_in (by omega)).mpr he, hv, ?_⟩⟩
        · have := (nI_leI (by omega) (by omega)).mp hle
          unfold sn_1
          rw [h11, hnt.1, decide_eq_false (fun q => by have := (nI_ltI (by omega) (by omega)).mp q; omega)]; rfl
        · have hlt : t < mt_nt p := by
            rcases Nat.lt_or_ge t (mt_nt p) with h | h
            · exact h
            · exact absurd ((nI_leI (by omega) (by omega)).mpr h) hle
          have hs1 : sn_1 σ p i = (mt_b (mt_cm (mt_ev p e 1) (mt_nt p)) t == decide (σ 12 i = 1)) := by
            unfold sn_1; rw [h10, h11, hnt.1, decide_eq_true (nI_lt hlt (by omega)), Bool.true_and, nI_clamp (by omega), nI_clamp (by omega)]
          have main : ∀ r8 : Int32, r8 = (if mt_b (mt_cm (mt_ev p e 1) (mt_nt p)) t = true then 1 else 0) → (vp_in (nI i) 8 ∧ (¬ r8 = (if σ 12 i = 1 then (1 : Int32) else 0) → K2 ()) ∧ (r8 = (if σ 12 i = 1 then (1 : Int32) else 0) → K (1, nI (i + 1)))) := by
            intro r8 hr8
            rw [hr8]
            cases hbb : mt_b (mt_cm (mt_ev p e 1) (mt_nt p)) t with
            | true =>
              rw [hbb] at hs1
              by_cases h1 : σ 12 i = 1
              · rw [if_pos h1]
                refine ⟨hv, fun h => absurd rfl h, fun _ => ?_⟩
                have := hK true (by rw [hstep, hs1, decide_eq_true h1]; rfl)
                exact this
              · rw [if_neg h1]
                refine ⟨hv, fun _ => hK2 () (by rw [hs1, decide_eq_false h1]; rfl), fun h => absurd h (by decide)⟩
            | false =>
              rw [hbb] at hs1
              by_cases h1 : σ 12 i = 1
              · rw [if_pos h1]
                refine ⟨hv, fun _ => hK2 () (by rw [hs1, decide_eq_true h1]; rfl), fun h => absurd h (by decide)⟩
              · rw [if_neg h1]
                refine ⟨hv, fun h => absurd rfl h, fun _ => ?_⟩
                have := hK true (by rw [hstep, hs1, decide_eq_false h1]; rfl)
                exact this
          exact m_isIn (fun h => main 1 (by rw [if_pos h])) (fun h => main 0 (by rw [if_neg (by rw [h]; decide)]))
      · have := hK false (by rw [hstep]; exact hf)
        exact this
  · intro b K hI
    refine ⟨fun _ => ?_, fun hn => absurd ((nI_leI (by omega) (by omega)).mpr (Nat.le_refl _)) hn⟩
    have hs : sn_s σ p = b := hI
    rw [hs] at hpost
    cases b with
    | true => exact ⟨nar_1, hpost⟩
    | false => exact ⟨nar_0, hpost⟩
theorem pz_orstep (g : Nat → Bool) (i : Nat) : mt_or g (i + 1) = mt_or g i ||| (if (if g i = true then (1 : Int32) else 0) = 0 then 0 else (1 : Int32) <<< (nI i &&& 31)) := by
  rw [mt_or]
  cases h : g i with
  | true => rw [if_pos rfl]; rfl
  | false => rw [if_neg (by decide)]; exact (pz_or_0 _).symm
theorem m_neverNow {σ τ : bk_S} {post : Int32 → bk_S → Prop} (hi : ib σ) (hb : rb σ τ) (hpost : ∀ τ', rq τ τ' → post (mt_nv σ) τ') : w_X9_neverNow τ post := by
  obtain ⟨hne, h53⟩ := hi.2.2.2.2.2.1
  unfold w_X9_neverNow
  refine m_asTold hi hb (fun τ1 q1 a1 => ?_)
  simp only [bk_lt_iff]
  have c8 : ∀ a, rq τ a → a 0 8 = nI (bs_ne σ) := fun a q => by rw [q.2.1, hb.2.2.2.2.1]; exact h53
  unfold mt_nv at hpost
  refine bk_loop_up (bs_ne σ) (fun i (a : bk_S) => (mt_or (fun i => sn_s σ (tp σ (tM i))) i, nI i, a)) (fun i a => rq τ a ∧ ∃ wh, pL σ a (tp σ tA) wh (-1) (-1)) (i0 := 0) (b0 := τ1) rfl (Nat.zero_le _) ⟨q1, _, a1.L hi⟩ ?_ ?_
  · rintro i a K hi2 ⟨qa, wh, Pa⟩ hK
    refine ⟨fun hle => ?_, fun _ => ?_⟩
    · have hle : a 0 8 ≤ nI i := hle
      rw [c8 a qa] at hle; exact absurd ((nI_leI (by omega) (by omega)).mp hle) (by omega)
    · show w_X9_isSeen (bk_u a 0 19 ((1 : Int32) <<< (nI i &&& 31))) _
      have P2 : pL σ (bk_u a 0 19 ((1 : Int32) <<< (nI i &&& 31))) (tp σ (tM i)) (tM i) (-1) (-1) := Pa.u19 (fun j hj => by rw [mt_b_shl (by omega) (by omega)]; simp [tM])
      have q2 : rq τ (bk_u a 0 19 ((1 : Int32) <<< (nI i &&& 31))) := qa.u (by omega)
      refine m_isSeen hi (hb.q q2) (tp_ok hi (tM i)) (P2.P0 hi (hb.q q2) (by rw [tp_nh hi]; exact Nat.le_refl _) rfl rfl rfl) P2.1.2.1 (fun τ2 F2 D2 => ?_)
      have hK := hK τ2 ⟨q2.tr F2.q, _, P2.f F2.f⟩
      rw [pz_orstep] at hK
      simp only [nI_1]
      exact hK
  · rintro a K ⟨qa, _⟩
    refine ⟨fun _ => hpost a qa, fun hn => absurd ?_ hn⟩
    show a 0 8 ≤ nI (bs_ne σ)
    rw [c8 a qa]; exact (nI_leI (by omega) (by omega)).mpr (Nat.le_refl _)
theorem pL.pv3 {t v : Nat} {σ τ p : bk_S} {wh : Nat → Bool} {be bh : Int32} (h : pL σ τ p wh be bh) : pL σ (bk_u τ 15 t (nI v)) (mt_pv p 3 t v) wh be bh := by
  obtain ⟨t', h12, h16, h14, h15, hm, h17, h18, h19⟩ := h
  have nt : mt_nt (mt_pv p 3 t v) = mt_nt p := by unfold mt_nt mt_pv; rw [bk_u_row _ (by omega)]
  unfold pL
  rw [nt]
  unfold mt_pv
  rw [bk_u_row (a := 0) (k := 3) _ (by omega), bk_u_row (a := 2) (k := 3) _ (by omega), bk_u_row (a := 4) (k := 3) _ (by omega), bk_u_row (a := 0) (k := 15) _ (by omega), bk_u_row (a := 14) (k := 15) _ (by omega), bk_u_row (a := 16) (k := 15) _ (by omega)]
  refine ⟨t'.u (by omega), h12, h16, h14, fun k hk => ?_, hm, h17, h18, h19⟩
  rw [bk_u_at, bk_u_at]
  by_cases e : k = t
  · rw [if_pos ⟨rfl, e⟩, if_pos ⟨rfl, e⟩]
  · rw [if_neg (by omega), if_neg (by omega)]; exact h15 k hk
theorem pL.pv2 {t v : Nat} {σ τ p : bk_S} {wh : Nat → Bool} {be bh : Int32} (h : pL σ τ p wh be bh) : pL σ (bk_u τ 14 t (nI v)) (mt_pv p 2 t v) wh be bh := by
  obtain ⟨t', h12, h16, h14, h15, hm, h17, h18, h19⟩ := h
  have nt : mt_nt (mt_pv p 2 t v) = mt_nt p := by unfold mt_nt mt_pv; rw [bk_u_row _ (by omega)]
  unfold pL
  rw [nt]
  unfold mt_pv
  rw [bk_u_row (a := 0) (k := 2) _ (by omega), bk_u_row (a := 3) (k := 2) _ (by omega), bk_u_row (a := 4) (k := 2) _ (by omega), bk_u_row (a := 0) (k := 14) _ (by omega), bk_u_row (a := 15) (k := 14) _ (by omega), bk_u_row (a := 16) (k := 14) _ (by omega)]
  refine ⟨t'.u (by omega), h12, h16, fun k hk => ?_, h15, hm, h17, h18, h19⟩
  rw [bk_u_at, bk_u_at]
  by_cases e : k = t
  · rw [if_pos ⟨rfl, e⟩, if_pos ⟨rfl, e⟩]
  · rw [if_neg (by omega), if_neg (by omega)]; exact h14 k hk
theorem mt_pv_pv (p : bk_S) (r t v w : Nat) : mt_pv (mt_pv p r t v) r t w = mt_pv p r t w := by
  funext a b
  unfold mt_pv
  rw [bk_u_at, bk_u_at, bk_u_at]
  by_cases h : a = r ∧ b = t
  · rw [if_pos h, if_pos h]
  · rw [if_neg h, if_neg h, if_neg h]
theorem m_sortsBy {t : Nat} {σ τ : bk_S} {post : Int32 → bk_S → Prop} (hi : ib σ) (hb : rb σ τ) (ht : t < 8) (hpost : ∀ τ', rq τ τ' → post (mt_ss σ (tp σ tA) t) τ') : w_X9_sortsBy (nI t) τ post := by
  have hp := tp_ok hi tA
  unfold w_X9_sortsBy
  refine m_asTold hi hb (fun τ1 q1 a1 => ?_)
  simp only [bk_lt_iff, nI_clamp (show t < 2 ^ 31 by omega)]
  have hvt : vp_in (nI t) 8 := (pz_in (by omega)).mpr ht
  unfold mt_ss at hpost
  refine bk_loop_up 3 (fun v (a : bk_S) => (mt_or (fun v => sn_s σ (mt_pv (tp σ tA) 2 t v)) v, nI v, a)) (fun v a => rq τ a ∧ ∃ p', pL σ a p' tA (-1) (-1) ∧ ∀ w, mt_pv p' 2 t w = mt_pv (tp σ tA) 2 t w) (i0 := 0) (b0 := τ1) rfl (Nat.zero_le _) ⟨q1, _, a1.L hi, fun _ => rfl⟩ ?_ ?_
  · rintro v a K hv ⟨qa, p', Pa, hp'⟩ hK
    refine ⟨fun hle => absurd ((nI_leI (a := 3) (by omega) (by omega)).mp hle) (by omega), fun _ => ⟨hvt, ?_⟩⟩
    show w_X9_isSeen (bk_u a 14 t (nI v)) _
    have P2 := Pa.pv2 (t := t) (v := v)
    rw [hp'] at P2
    have q2 : rq τ (bk_u a 14 t (nI v)) := qa.u (by omega)
    have r : ∀ r, r ≠ 2 → mt_pv (tp σ tA) 2 t v r = tp σ tA r := fun r hr => bk_u_row _ hr
    have nh : mt_nh (mt_pv (tp σ tA) 2 t v) = mt_nh (tp σ tA) := by unfold mt_nh; rw [r 0 (by omega)]
    refine m_isSeen hi (hb.q q2) (hp.pv2 hv) (P2.P0 hi (hb.q q2) (by rw [nh, tp_nh hi]; exact Nat.le_refl _) (r 1 (by omega)) (r 5 (by omega)) (r 6 (by omega))) (by rw [r 0 (by omega)]; exact P2.1.2.1) (fun τ2 F2 D2 => ?_)
    have hK := hK τ2 ⟨q2.tr F2.q, _, P2.f F2.f, fun w => mt_pv_pv _ _ _ _ _⟩
    rw [pz_orstep] at hK
    simp only [nI_1]
    exact hK
  · rintro a K ⟨qa, _⟩
    exact ⟨fun _ => hpost a qa, fun hn => absurd (by show (3 : Int32) ≤ nI 3; decide) hn⟩
theorem m_heatsBy {t : Nat} {σ τ : bk_S} {post : Int32 → bk_S → Prop} (hi : ib σ) (hb : rb σ τ) (ht : t < 8) (hpost : ∀ τ', rq τ τ' → (∀ v e, 1 ≤ v → v ≤ 9 → e < 12 → τ' 51 (12 * v + e) = mt_hs (tp σ tA) t v e) → post (mt_hb σ (tp σ tA) t) τ') : w_X9_heatsBy (nI t) τ post := by
  have hp := tp_ok hi tA
  unfold w_X9_heatsBy
  refine m_asTold hi hb (fun τ1 q1 a1 => ?_)
  simp only [bk_lt_iff, nI_clamp (show t < 2 ^ 31 by omega)]
  have hvt : vp_in (nI t) 8 := (pz_in (by omega)).mpr ht
  unfold mt_hb at hpost
  have o1 : mt_or (fun v => decide (1 ≤ v) && sn_s σ (mt_pv (tp σ tA) 3 t v)) 1 = 0 := by rw [mt_or, if_neg (by simp)]; rfl
  refine bk_loop_up 10 (fun v (a : bk_S) => (mt_or (fun v => decide (1 ≤ v) && sn_s σ (mt_pv (tp σ tA) 3 t v)) v, nI v, a)) (fun v a => 1 ≤ v ∧ rq τ a ∧ (∃ p', pL σ a p' tA (-1) (-1) ∧ ∀ w, mt_pv p' 3 t w = mt_pv (tp σ tA) 3 t w) ∧ (∀ v' e, 1 ≤ v' → v' < v → e < 12 → a 51 (12 * v' + e) = mt_hs (tp σ tA) t v' e)) (i0 := 1) (b0 := τ1) (by rw [o1]; rfl) (by omega) ⟨Nat.le_refl _, q1, ⟨_, a1.L hi, fun _ => rfl⟩, fun v' e h1 h2 => by omega⟩ ?_ ?_
  · rintro v a K hv ⟨hv1, qa, ⟨p', Pa, hp'⟩, ha⟩ hK
    refine ⟨fun hle => absurd ((nI_leI (a := 10) (by omega) (by omega)).mp hle) (by omega), fun _ => ⟨hvt, ?_⟩⟩
    show w_X9_isSeen (bk_u a 15 t (nI v)) _
    have P2 := Pa.pv3 (t := t) (v := v)
    rw [hp'] at P2
    have q2 : rq τ (bk_u a 15 t (nI v)) := qa.u (by omega)
    have r : ∀ r, r ≠ 3 → mt_pv (tp σ tA) 3 t v r = tp σ tA r := fun r hr => bk_u_row _ hr
    have nh : mt_nh (mt_pv (tp σ tA) 3 t v) = mt_nh (tp σ tA) := by unfold mt_nh; rw [r 0 (by omega)]
    have nt : mt_nt (mt_pv (tp σ tA) 3 t v) = mt_nt (tp σ tA) := by unfold mt_nt; rw [r 0 (by omega)]
    refine m_isSeen hi (hb.q q2) (hp.pv3 (by omega)) (P2.P0 hi (hb.q q2) (by rw [nh, tp_nh hi]; exact Nat.le_refl _) (r 1 (by omega)) (r 5 (by omega)) (r 6 (by omega))) (by rw [r 0 (by omega)]; exact P2.1.2.1) (fun τ2 F2 D2 => ?_)
    have e12 : ∀ d, (12 : Int32) * nI v + nI d = nI (12 * v + d) := fun d => by rw [pz_12, pz_mulr, nI_add]
    simp only [nI_1, e12]
    have q3 := q2.tr F2.q
    have P3 := P2.f F2.f
    have e42 : ∀ d, d < 12 → τ2 42 d = mt_hs (tp σ tA) t v d := fun d hd => by rw [D2.1.2.2.2.2.1 d hd, nt]; rfl
    have e51 : ∀ v' e, 1 ≤ v' → v' < v → e < 12 → τ2 51 (12 * v' + e) = mt_hs (tp σ tA) t v' e := fun v' e h1 h2 h3 => by
      rw [F2 51 _ (by omega) (by omega), bk_u_row _ (by omega)]; exact ha v' e h1 h2 h3
    refine bk_loop_up 12 (fun d (x : bk_S) => (nI d, x)) (fun d x => pf τ2 x ∧ x 42 = τ2 42 ∧ (∀ v' e, 1 ≤ v' → v' < v → e < 12 → x 51 (12 * v' + e) = mt_hs (tp σ tA) t v' e) ∧ (∀ e, e < d → x 51 (12 * v + e) = mt_hs (tp σ tA) t v e)) (i0 := 0) (b0 := τ2) rfl (Nat.zero_le _) ⟨pf.rf _, rfl, e51, fun e he => absurd he (Nat.not_lt_zero _)⟩ ?_ ?_
    · rintro d x K2 hd ⟨fx, x42, xa, xb⟩ hK2
      simp only [nI_1, e12, nI_clamp (show 12 * v + d < 2 ^ 31 by omega), nI_clamp (show d < 2 ^ 31 by omega)]
      refine ⟨fun hle => absurd ((nI_leI (a := 12) (by omega) (by omega)).mp hle) (by omega), fun _ => ⟨(pz_in (by omega)).mpr hd, (pz_in (by omega)).mpr (by omega), hK2 _ ⟨fx.u (by omega), ?_, fun v' e h1 h2 h3 => ?_, fun e he => ?_⟩⟩⟩
      · rw [bk_u_row _ (by omega)]; exact x42
      · rw [bk_u_at, if_neg (by omega)]; exact xa v' e h1 h2 h3
      · rw [bk_u_at]
        by_cases h : e = d
        · rw [if_pos (by omega), x42, h]; exact e42 d hd
        · rw [if_neg (by omega)]; exact xb e (by omega)
    · rintro x K2 ⟨fx, x42, xa, xb⟩
      refine ⟨fun _ => ?_, fun hn => absurd (by show (12 : Int32) ≤ nI 12; decide) hn⟩
      have hK := hK x ⟨by omega, q3.tr fx.q, ⟨_, P3.f fx, fun w => mt_pv_pv _ _ _ _ _⟩, fun v' e h1 h2 h3 => ?_⟩
      · rw [pz_orstep, decide_eq_true hv1, Bool.true_and] at hK
        exact hK
      · by_cases h : v' = v
        · rw [h]; exact xb e h3
        · exact xa v' e h1 (by omega) h3
  · rintro a K ⟨_, qa, _, ha⟩
    exact ⟨fun _ => hpost a qa (fun v e h1 h2 h3 => ha v e h1 (by omega) h3), fun hn => absurd (by show (10 : Int32) ≤ nI 10; decide) hn⟩
