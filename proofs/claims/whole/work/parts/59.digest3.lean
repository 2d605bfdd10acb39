/-! The digest, of the reference. -/
theorem r_heatDigest {h : Int64} {e j : Nat} {σ τ : bk_S} {post : Int64 → bk_S → Prop} (hi : ib σ) (hb : rb σ τ) (he : e < 12) (hj : j < mt_nt (tpA σ)) (hp : ∀ τ', rq τ τ' → post (dHeat (tpA σ) e j h) τ') : w_X9_heatDigest h (nI e) (nI j) τ post := by
  unfold w_X9_heatDigest
  simp only [bk_lt_iff]
  refine r_heatOf hi hb he hj (fun τ1 q1 => r_heatOf hi (hb.q q1) he hj (fun τ2 q2 => ?_))
  rw [if_pos rfl, if_neg z10]
  exact hp τ2 (q1.tr q2)
theorem r_thingDigest {h : Int64} {j : Nat} {σ τ : bk_S} {post : Int64 → bk_S → Prop} (hi : ib σ) (hb : rb σ τ) (T : rd_T σ τ) (hj : j < mt_nt (tpA σ)) (hp : ∀ τ', rq τ τ' → rd_T σ τ' → post (dThing σ j h) τ') : w_X9_thingDigest h (nI j) τ post := by
  have hnt : mt_nt (tpA σ) ≤ 8 := (tp_ok hi tA).nt.2
  have hj8 : j < 8 := Nat.lt_of_lt_of_le hj hnt
  have hjN : j < tx_tN (bs_n1 σ) (σ 4) := by rw [← tp_nt hi tA]; exact hj
  unfold w_X9_thingDigest
  simp only [bk_lt_iff]
  refine bk_jn_of (fun x => x = dF (dF (dF h (tpA σ 2 j)) (tpA σ 3 j)) (tpA σ 4 j)) (fun K hK => ?_) (fun x hx => ?_)
  · refine bk_loop_up 3 (fun i (_ : Unit) => (dl (fun i => if nI i = 0 then tpA σ 2 j else if nI i = 1 then tpA σ 3 j else tpA σ 4 j) i h, nI i)) (fun _ _ => True) (i0 := 0) (b0 := ()) rfl (Nat.zero_le _) trivial ?_ ?_
    · intro i _ K2 hi2 _ hK2
      have hK2 := hK2 () trivial
      refine ⟨fun hle => absurd ((nI_leI (a := 3) (by omega) (by omega)).mp hle) (by omega), fun _ => r_thingOf hi T hj ?_⟩
      rw [nI_1]; exact hK2
    · intro _ K2 _
      refine ⟨fun _ => hK _ ?_, fun q => absurd (by show (3 : Int32) ≤ nI 3; decide) q⟩
      show dF (dF (dF h (if nI 0 = 0 then tpA σ 2 j else if nI 0 = 1 then tpA σ 3 j else tpA σ 4 j)) (if nI 1 = 0 then tpA σ 2 j else if nI 1 = 1 then tpA σ 3 j else tpA σ 4 j)) (if nI 2 = 0 then tpA σ 2 j else if nI 2 = 1 then tpA σ 3 j else tpA σ 4 j) = _
      rw [if_pos (show nI 0 = 0 by decide), if_neg (show ¬ nI 1 = 0 by decide), if_pos (show nI 1 = 1 by decide), if_neg (show ¬ nI 2 = 0 by decide), if_neg (show ¬ nI 2 = 1 by decide)]
  · subst hx
    generalize hX : dF (dF (dF h (tpA σ 2 j)) (tpA σ 3 j)) (tpA σ 4 j) = X
    refine r_heatDigest (e := 0) hi hb (by omega) hj (fun τ1 q1 => ?_)
    refine r_heatDigest (e := 4) hi (hb.q q1) (by omega) hj (fun τ2 q2 => ?_)
    have b2 := (hb.q q1).q q2
    refine r_heatDigest (e := 11) hi b2 (by omega) hj (fun τ3 q3 => ?_)
    refine r_settledOf hi (b2.q q3) hj8 (fun τ4 q4 => ?_)
    refine r_highestOf hi ((b2.q q3).q q4) hj8 (fun τ5 q5 => ?_)
    have b5 := ((b2.q q3).q q4).q q5
    refine m_heatsBy hi b5 hj8 (fun τ6 q6 _ => ?_)
    refine m_sortsBy hi (b5.q q6) hj8 (fun τ7 q7 => ?_)
    have b7 := (b5.q q6).q q7
    refine m_askOf hi b7 hj8 (fun τ8 q8 => ?_)
    refine m_chanceOf (x := 5) hi (b7.q q8) (by omega) hjN (fun τ9 q9 _ => ?_)
    refine m_chanceOf (x := 5) hi ((b7.q q8).q q9) (by omega) hjN (fun τ10 q10 T10 => ?_)
    have hp := hp τ10 (((((((((q1.tr q2).tr q3).tr q4).tr q5).tr q6).tr q7).tr q8).tr q9).tr q10) T10
    unfold dThing dThing1 at hp
    rw [hX] at hp
    unfold v_askOf at hp
    exact hp
theorem r_digest {σ τ : bk_S} {post : Int64 → bk_S → Prop} (hi : ib σ) (hb : rb σ τ) (h : ∀ τ', rq τ τ' → post (dg σ) τ') : w_X9_digest τ post := by
  have hok := tp_ok hi tA
  have hnh : mt_nh (tpA σ) ≤ 12 := hok.nh.2
  have hnt : mt_nt (tpA σ) ≤ 8 := hok.nt.2
  have c2 : ∀ a, rd_T σ a → a 0 2 = nI (mt_nh (tpA σ)) := fun a T => by rw [show mt_nh (tpA σ) = _ from tp_nh hi tA]; exact T.1
  have c4 : ∀ a, rd_T σ a → a 0 4 = nI (mt_nt (tpA σ)) := fun a T => by rw [show mt_nt (tpA σ) = _ from tp_nt hi tA]; exact T.2.1
  have r4 : ∀ a i, rd_T σ a → i < mt_nh (tpA σ) → a 4 i = tpA σ 1 i := fun a i T hi2 => T.2.2.1 i (by rw [← tp_nh hi tA]; exact hi2)
  unfold w_X9_digest
  simp only [bk_lt_iff]
  unfold dg dStart at h
  refine bk_jn_of (fun x => x.1 = dl (fun i => v_count σ (nI i)) 8 17 ∧ rq τ x.2) (fun K hK => ?_) (fun x hx => ?_)
  · refine bk_loop_up 8 (fun i (a : bk_S) => (dl (fun i => v_count σ (nI i)) i 17, nI i, a)) (fun _ a => rq τ a) (i0 := 0) (b0 := τ) rfl (Nat.zero_le _) (rq.rf τ) ?_ ?_
    · intro i a K2 hi2 qa hK2
      refine ⟨fun hle => absurd ((nI_leI (a := 8) (by omega) (by omega)).mp hle) (by omega), fun _ => r_count hi (hb.q qa) (fun b qb => ?_)⟩
      have hK2 := hK2 b (qa.tr qb)
      rw [nI_1]; exact hK2
    · intro a K2 qa
      exact ⟨fun _ => hK _ ⟨rfl, qa⟩, fun q => absurd (by show (8 : Int32) ≤ nI 8; decide) q⟩
  · obtain ⟨x1, a⟩ := x
    obtain ⟨hx1, qa⟩ := hx
    have hx1 : x1 = dl (fun i => v_count σ (nI i)) 8 17 := hx1
    have qa : rq τ a := qa
    subst hx1
    generalize dl (fun i => v_count σ (nI i)) 8 17 = H0 at *
    have f0 : v_fault σ 0 = (if (0 : Int32) = 0 then tx_hF (bs_n0 σ) (σ 2) else tx_tF (bs_n1 σ) (σ 4)) := by unfold v_fault; rw [if_pos (by decide)]
    have f1 : v_fault σ 1 = (if (1 : Int32) = 0 then tx_hF (bs_n0 σ) (σ 2) else tx_tF (bs_n1 σ) (σ 4)) := by unfold v_fault; rw [if_pos (by decide)]
    refine m_faultOf hi (hb.q qa) (fun b Fb Tb => m_faultOf hi ((hb.q qa).q Fb.q) (fun c Fc Tc => ?_))
    rw [← f0, ← f1]
    have qc : rq τ c := (qa.tr Fb.q).tr Fc.q
    refine bk_jn_of (fun x => x.1 = dn (dHook (tpA σ)) (mt_nh (tpA σ)) (dF (dF H0 (v_fault σ 0)) (v_fault σ 1)) ∧ rq τ x.2 ∧ rd_T σ x.2) (fun K hK => ?_) (fun x hx => ?_)
    · refine bk_loop_up (mt_nh (tpA σ)) (fun i (a : bk_S) => (dn (dHook (tpA σ)) i (dF (dF H0 (v_fault σ 0)) (v_fault σ 1)), nI i, a)) (fun _ a => rq τ a ∧ rd_T σ a) (i0 := 0) (b0 := c) rfl (Nat.zero_le _) ⟨qc, Tc⟩ ?_ ?_
      · rintro i y K2 hi2 ⟨qy, Ty⟩ hK2
        show (y 0 2 ≤ nI i → _) ∧ (¬ y 0 2 ≤ nI i → vp_in (nI i) 12 ∧ _)
        rw [c2 y Ty]
        refine ⟨fun hle => absurd ((nI_leI (by omega) (by omega)).mp hle) (by omega), fun _ => ⟨(pz_in (by omega)).mpr (by omega), ?_⟩⟩
        refine r_saidOf (i := 0) hi (hb.q qy) (by omega) (by omega) (fun y1 q1 _ => ?_)
        refine r_saidOf (i := 3) hi ((hb.q qy).q q1) (by omega) (by omega) (fun y2 q2 _ => ?_)
        refine r_saidOf (i := 11) hi (((hb.q qy).q q1).q q2) (by omega) (by omega) (fun y3 q3 T3 => ?_)
        have hK2 := hK2 y3 ⟨((qy.tr q1).tr q2).tr q3, T3⟩
        simp only [nI_clamp (show i < 2 ^ 31 by omega), r4 y i Ty hi2, nI_1]; exact hK2
      · rintro y K2 ⟨qy, Ty⟩
        show (y 0 2 ≤ nI (mt_nh (tpA σ)) → _) ∧ (¬ y 0 2 ≤ nI (mt_nh (tpA σ)) → _)
        rw [c2 y Ty]
        exact ⟨fun _ => hK _ ⟨rfl, qy, Ty⟩, fun q => absurd ((nI_leI (by omega) (by omega)).mpr (Nat.le_refl _)) q⟩
    · obtain ⟨x1, y⟩ := x
      obtain ⟨hx1, qy, Ty⟩ := hx
      have hx1 : x1 = dn (dHook (tpA σ)) (mt_nh (tpA σ)) (dF (dF H0 (v_fault σ 0)) (v_fault σ 1)) := hx1
      have qy : rq τ y := qy
      have Ty : rd_T σ y := Ty
      subst hx1
      generalize dn (dHook (tpA σ)) (mt_nh (tpA σ)) (dF (dF H0 (v_fault σ 0)) (v_fault σ 1)) = H1 at *
      refine bk_jn_of (fun x => x.1 = dn (dEve σ) 12 H1 ∧ rq τ x.2 ∧ rd_T σ x.2) (fun K hK => ?_) (fun x hx => ?_)
      · refine bk_loop_up 12 (fun i (b : bk_S) => (dn (dEve σ) i H1, nI i, b)) (fun _ b => rq τ b ∧ rd_T σ b) (i0 := 0) (b0 := y) rfl (Nat.zero_le _) ⟨qy, Ty⟩ ?_ ?_
        · rintro e z K2 he ⟨qz, Tz⟩ hK2
          refine ⟨fun hle => absurd ((nI_leI (a := 12) (by omega) (by omega)).mp hle) (by omega), fun _ => ?_⟩
          simp only [nI_1]
          have ed : dn (dEve σ) (e + 1) H1 = dEve σ e (dn (dEve σ) e H1) := rfl
          rw [ed] at hK2
          generalize dn (dEve σ) e H1 = HE at *
          unfold dEve at hK2
          refine bk_jn_of (fun x => x.1 = dl (fun i => mt_ev (tpA σ) e 5 i) 4 HE ∧ rq τ x.2) (fun K3 hK3 => ?_) (fun x hx => ?_)
          · refine bk_loop_up 4 (fun i (b : bk_S) => (dl (fun i => mt_ev (tpA σ) e 5 i) i HE, nI i, b)) (fun _ b => rq τ b) (i0 := 0) (b0 := z) rfl (Nat.zero_le _) qz ?_ ?_
            · intro i w K4 hi2 qw hK4
              refine ⟨fun hle => absurd ((nI_leI (a := 4) (by omega) (by omega)).mp hle) (by omega), fun _ => r_atOf hi (hb.q qw) he hi2 (fun w' q' => ?_)⟩
              have hK4 := hK4 w' (qw.tr q')
              rw [nI_1]; exact hK4
            · intro w K4 qw
              exact ⟨fun _ => hK3 _ ⟨rfl, qw⟩, fun q => absurd (by show (4 : Int32) ≤ nI 4; decide) q⟩
          · obtain ⟨x1, w⟩ := x
            obtain ⟨hx1, qw⟩ := hx
            have hx1 : x1 = dl (fun i => mt_ev (tpA σ) e 5 i) 4 HE := hx1
            have qw : rq τ w := qw
            subst hx1
            generalize dl (fun i => mt_ev (tpA σ) e 5 i) 4 HE = HF at *
            refine bk_loop_up 3 (fun i (b : bk_S) => (dl (fun i => v_lv σ e (nI i)) i HF, nI i, b)) (fun i b => rq τ b ∧ (0 < i → rd_T σ b)) (i0 := 0) (b0 := w) rfl (Nat.zero_le _) ⟨qw, fun q => absurd q (Nat.lt_irrefl _)⟩ ?_ ?_
            · rintro i v K4 hi2 ⟨qv, _⟩ hK4
              refine ⟨fun hle => absurd ((nI_leI (a := 3) (by omega) (by omega)).mp hle) (by omega), fun _ => r_leaveTold hi (hb.q qv) he (fun v' q' T' => ?_)⟩
              have hK4 := hK4 v' ⟨qv.tr q', fun _ => T'⟩
              rw [nI_1]; exact hK4
            · rintro v K4 ⟨qv, Tv⟩
              exact ⟨fun _ => hK2 v ⟨qv, Tv (by omega)⟩, fun q => absurd (by show (3 : Int32) ≤ nI 3; decide) q⟩
        · rintro z K2 ⟨qz, Tz⟩
          exact ⟨fun _ => hK _ ⟨rfl, qz, Tz⟩, fun q => absurd (by show (12 : Int32) ≤ nI 12; decide) q⟩
      · obtain ⟨x1, z⟩ := x
        obtain ⟨hx1, qz, Tz⟩ := hx
        have hx1 : x1 = dn (dEve σ) 12 H1 := hx1
        have qz : rq τ z := qz
        have Tz : rd_T σ z := Tz
        subst hx1
        generalize dn (dEve σ) 12 H1 = H2 at *
        refine bk_jn_of (fun x => x.1 = dn (dThing σ) (mt_nt (tpA σ)) H2 ∧ rq τ x.2) (fun K hK => ?_) (fun x hx => ?_)
        · refine bk_loop_up (mt_nt (tpA σ)) (fun i (b : bk_S) => (dn (dThing σ) i H2, nI i, b)) (fun _ b => rq τ b ∧ rd_T σ b) (i0 := 0) (b0 := z) rfl (Nat.zero_le _) ⟨qz, Tz⟩ ?_ ?_
          · rintro i w K2 hi2 ⟨qw, Tw⟩ hK2
            show (w 0 4 ≤ nI i → _) ∧ (¬ w 0 4 ≤ nI i → _)
            rw [c4 w Tw]
            refine ⟨fun hle => absurd ((nI_leI (by omega) (by omega)).mp hle) (by omega), fun _ => r_thingDigest hi (hb.q qw) Tw hi2 (fun w' q' T' => ?_)⟩
            have hK2 := hK2 w' ⟨qw.tr q', T'⟩
            rw [nI_1]; exact hK2
          · rintro w K2 ⟨qw, Tw⟩
            show (w 0 4 ≤ nI (mt_nt (tpA σ)) → _) ∧ (¬ w 0 4 ≤ nI (mt_nt (tpA σ)) → _)
            rw [c4 w Tw]
            exact ⟨fun _ => hK _ ⟨rfl, qw⟩, fun q => absurd ((nI_leI (by omega) (by omega)).mpr (Nat.le_refl _)) q⟩
        · obtain ⟨x1, w⟩ := x
          obtain ⟨hx1, qw⟩ := hx
          have hx1 : x1 = dn (dThing σ) (mt_nt (tpA σ)) H2 := hx1
          have qw : rq τ w := qw
          subst hx1
          generalize dn (dThing σ) (mt_nt (tpA σ)) H2 = H3 at *
          unfold dSums at h
          refine bk_jn_of (fun x => x.1 = dl (fun i => v_sums σ (nI i)) 4 H3 ∧ rq τ x.2) (fun K hK => ?_) (fun x hx => ?_)
          · refine bk_loop_up 4 (fun i (b : bk_S) => (dl (fun i => v_sums σ (nI i)) i H3, nI i, b)) (fun _ b => rq τ b) (i0 := 0) (b0 := w) rfl (Nat.zero_le _) qw ?_ ?_
            · intro i v K2 hi2 qv hK2
              refine ⟨fun hle => absurd ((nI_leI (a := 4) (by omega) (by omega)).mp hle) (by omega), fun _ => r_sumOf hi (hb.q qv) (fun v' q' => ?_)⟩
              have hK2 := hK2 v' (qv.tr q')
              rw [nI_1]; exact hK2
            · intro v K2 qv
              exact ⟨fun _ => hK _ ⟨rfl, qv⟩, fun q => absurd (by show (4 : Int32) ≤ nI 4; decide) q⟩
          · obtain ⟨x1, v⟩ := x
            obtain ⟨hx1, qv⟩ := hx
            have hx1 : x1 = dl (fun i => v_sums σ (nI i)) 4 H3 := hx1
            have qv : rq τ v := qv
            subst hx1
            generalize dl (fun i => v_sums σ (nI i)) 4 H3 = H4 at *
            refine r_peace hi (hb.q qv) (fun v1 p1 => ?_)
            have q1 := qv.tr p1
            refine r_longest hi (hb.q q1) (fun v2 p2 => ?_)
            have q2 := q1.tr p2
            refine r_sore hi (hb.q q2) (fun v3 p3 => ?_)
            have q3 := q2.tr p3
            unfold dPlans at h
            have eH : (31 : Int64) * ((31 : Int64) * ((31 : Int64) * H4 + Int32.toInt64 (v_peace σ)) + Int32.toInt64 (v_longest σ)) + Int32.toInt64 (v_sore σ) = dF (dF (dF H4 (v_peace σ)) (v_longest σ)) (v_sore σ) := rfl
            rw [eH]
            generalize dF (dF (dF H4 (v_peace σ)) (v_longest σ)) (v_sore σ) = H5 at *
            refine bk_jn_of (fun x => x.1 = dl (fun i => sv (mt_so (tpA σ) (mt_nt (tpA σ))) (nI i)) 4 H5 ∧ rq τ x.2) (fun K hK => ?_) (fun x hx => ?_)
            · refine bk_loop_up 4 (fun i (b : bk_S) => (dl (fun i => sv (mt_so (tpA σ) (mt_nt (tpA σ))) (nI i)) i H5, nI i, b)) (fun _ b => rq τ b) (i0 := 0) (b0 := v3) rfl (Nat.zero_le _) q3 ?_ ?_
              · intro i u K2 hi2 qu hK2
                refine ⟨fun hle => absurd ((nI_leI (a := 4) (by omega) (by omega)).mp hle) (by omega), fun _ => m_swapOf hi (hb.q qu) (fun u' q' => ?_)⟩
                have hK2 := hK2 u' (qu.tr q')
                have ev := v_swap_sv hi (nI i)
                rw [nI_1]
                have hK2 : K2 (dF (dl (fun i => sv (mt_so (tpA σ) (mt_nt (tpA σ))) (nI i)) i H5) (sv (mt_so (tpA σ) (mt_nt (tpA σ))) (nI i)), nI (i + 1), u') := hK2
                rw [← ev] at hK2
                exact hK2
              · intro u K2 qu
                exact ⟨fun _ => hK _ ⟨rfl, qu⟩, fun q => absurd (by show (4 : Int32) ≤ nI 4; decide) q⟩
            · obtain ⟨x1, u⟩ := x
              obtain ⟨hx1, qu⟩ := hx
              have hx1 : x1 = dl (fun i => sv (mt_so (tpA σ) (mt_nt (tpA σ))) (nI i)) 4 H5 := hx1
              have qu : rq τ u := qu
              subst hx1
              generalize dl (fun i => sv (mt_so (tpA σ) (mt_nt (tpA σ))) (nI i)) 4 H5 = H6 at *
              refine m_fitOf hi (hb.q qu) (fun u1 p1 => ?_)
              have w1 := qu.tr p1
              refine m_spareBy hi (hb.q w1) (fun u2 p2 g0 g1 => ?_)
              have w2 := w1.tr p2
              refine r_ofRow (x := 0) (Or.inr (Or.inl rfl)) g0 g1 ?_
              refine m_neverNow hi (hb.q w2) (fun u3 p3 => ?_)
              have w3 := w2.tr p3
              refine m_seasonsOf (n := 6) hi (hb.q w3) (by omega) (fun u4 p4 => ?_)
              refine m_seasonsOf (n := 6) hi (hb.q (w3.tr p4)) (by omega) (fun u5 p5 => ?_)
              rw [if_pos rfl, if_neg z10]
              have e0 : v_sp σ 0 = (sp σ).2.1 := by unfold v_sp; rw [if_neg (by decide), if_pos rfl]
              rw [e0]
              exact h u5 ((w3.tr p4).tr p5)
theorem s_digest {σ τ : bk_S} (h : RR σ τ) : stp (w_X8_digest σ) (w_X9_digest τ) := stp.q h.2 (fun _ => q_digest h.1) (fun _ => r_digest h.1.1 h.2)
