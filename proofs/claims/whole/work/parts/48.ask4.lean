/-! Chance, seasons, counts. -/
theorem ck_v_E {σ σ' : bk_S} (e : bs_E σ σ') (x t : Nat) (r : Int32) : ck_v σ' x t r = ck_v σ x t r := by
  have h : ck_t σ' x t = ck_t σ x t := by funext w; unfold ck_t; rw [tp_E e, tp_E e, bs_ne_E e]
  unfold ck_v; rw [h, bs_ne_E e]
def v_chance (σ : bk_S) (x y z : Int32) : Int64 := if bw x 17 ∧ bw y (tpA σ 0 1) ∧ bw z 2 then ck_v σ x.toNatClampNeg y.toNatClampNeg z else -9223372036854775806
theorem bw_17 {x : Int32} (h : bw x 17) : ∃ j, j < 17 ∧ x = nI j := (bw_in (n := 17) (by omega)).mp h
theorem pz_17 {x : Int32} : (0 ≤ x ∧ x ≤ 16) ↔ bw x 17 := pz_top (n := 17) (m := 16) rfl (by omega)
theorem q_chance {x y z : Int32} {σ : bk_S} {post : Int64 → bk_S → Prop} (hI : cI σ) (h : ∀ σ', cQ σ σ' → post (v_chance σ x y z) σ') : w_X8_chance x y z σ post := by
  unfold v_chance at h
  refine c_fresh hI (fun σ1 q1 f1 => ?_)
  have e : tpA σ1 = tpA σ := tp_E q1.1 tA
  rw [← e] at h
  refine ⟨fun h0 => ?_, fun h0 => ⟨fun h16 => ?_, fun h16 => ?_⟩⟩
  · have h := h σ1 q1; rwa [if_neg (fun q => absurd h0 (Int32.not_lt.mpr q.1.1))] at h
  · have h := h σ1 q1; rwa [if_neg (fun q => absurd h16 (Int32.not_lt.mpr (pz_17.mpr q.1).2))] at h
  · have b : bw x 17 := pz_17.mp ⟨Int32.not_lt.mp h0, Int32.not_lt.mp h16⟩
    refine c_isThing f1 (fun b2 => br1 (c_isBelow (fun b3 => br1' ?_) (fun b3 => br0' ?_))) (fun b2 => br0 ?_)
    · obtain ⟨i, hi, rfl⟩ := bw_17 b
      obtain ⟨j, hj, hj2, rfl⟩ := bw_T q1.2.1 b2
      refine c_ends q1 f1 (fun σ2 q2 f2 fE => c_chanceOf q2.2.1 (by omega) hj2 fE ?_)
      have h := h σ2 q2
      rw [if_pos ⟨b, b2, b3⟩, nI_clamp (by omega), nI_clamp (by omega)] at h
      rw [ck_v_E q2.1]; exact h
    · have h := h σ1 q1; rwa [if_neg (fun q => b3 q.2.2)] at h
    · have h := h σ1 q1; rwa [if_neg (fun q => b2 q.2.1)] at h
theorem r_chance {x y z : Int32} {σ τ : bk_S} {post : Int64 → bk_S → Prop} (hi : ib σ) (hb : rb σ τ) (h : ∀ τ', rq τ τ' → post (v_chance σ x y z) τ') : w_X9_chance x y z τ post := by
  unfold v_chance at h
  unfold w_X9_chance
  simp only [bk_jn_iff]
  have no : ∀ (post : Int64 → Prop), post (-9223372036854775806) → w_X9_no (-2) post := fun post hp => by
    unfold w_X9_no
    rw [show (-9223372036854775808 : Int64) - Int32.toInt64 (-2) = -9223372036854775806 by decide]; exact hp
  refine m_inB (n := 17) pz_17 (fun b => br1 (m_isThing hi hb (fun b2 τ1 q1 T1 => br1 (m_isTwo (fun b3 => br1 ?_) (fun b3 => br0 (no _ ?_)))) (fun b2 τ1 q1 T1 => br0 (no _ ?_)))) (fun b => br0 (no _ ?_))
  · obtain ⟨i, hi1, rfl⟩ := bw_17 b
    obtain ⟨j, hj, hj2, rfl⟩ := bw_T hi b2
    have hj' : j < mt_nt (tp σ tA) := hj
    rw [tp_nt hi] at hj'
    refine m_chanceOf hi (hb.q q1) (by omega) hj' (fun τ2 q2 _ => ?_)
    have h := h τ2 (q1.tr q2)
    rw [if_pos ⟨b, b2, b3⟩, nI_clamp (by omega), nI_clamp (by omega)] at h; exact h
  · have h := h τ1 q1; rwa [if_neg (fun q => b3 q.2.2)] at h
  · have h := h τ1 q1; rwa [if_neg (fun q => b2 q.2.1)] at h
  · have h := h τ (rq.rf τ); rwa [if_neg (fun q => b q.1)] at h
def v_sd (σ : bk_S) (seed : Int32) (n : Nat) (z : Int32) : Int32 := if z = 0 then mt_cnt (sd_p (tpA σ) seed n) else mt_hol (sd_p (tpA σ) seed n)
def v_seasons (σ : bk_S) (x y z : Int32) : Int32 := if bw y 9 ∧ bw z 2 then v_sd σ x y.toNatClampNeg z else -2
theorem bw_9 {x : Int32} (h : bw x 9) : ∃ j, j < 9 ∧ x = nI j := (bw_in (n := 9) (by omega)).mp h
theorem pz_9t {x : Int32} : (0 ≤ x ∧ x ≤ 8) ↔ bw x 9 := pz_top (n := 9) (m := 8) rfl (by omega)
theorem v_sd_E {σ σ' : bk_S} (e : bs_E σ σ') (s : Int32) (n : Nat) (z : Int32) : v_sd σ' s n z = v_sd σ s n z := by unfold v_sd; rw [show tpA σ' = tpA σ from tp_E e tA]
theorem q_seasons {x y z : Int32} {σ : bk_S} {post : Int32 → bk_S → Prop} (hI : cI σ) (h : ∀ σ', cQ σ σ' → post (v_seasons σ x y z) σ') : w_X8_seasons x y z σ post := by
  unfold v_seasons at h
  refine ⟨fun h0 => ?_, fun h0 => ⟨fun h8 => ?_, fun h8 => ?_⟩⟩
  · have h := h σ (cQ.rf hI); rwa [if_neg (fun q => absurd h0 (Int32.not_lt.mpr q.1.1))] at h
  · have h := h σ (cQ.rf hI); rwa [if_neg (fun q => absurd h8 (Int32.not_lt.mpr (pz_9t.mpr q.1).2))] at h
  · have b : bw y 9 := pz_9t.mp ⟨Int32.not_lt.mp h0, Int32.not_lt.mp h8⟩
    refine c_isBelow (fun b2 => br1' ?_) (fun b2 => br0' ?_)
    · obtain ⟨n, hn, rfl⟩ := bw_9 b
      refine c_fresh hI (fun σ1 q1 f1 => c_runSeason (by omega) (tp_ok q1.2.1 tA) f1.1 (fun σ2 t2 D2 => ?_))
      have h := h σ2 (q1.t f1 t2)
      rw [if_pos ⟨b, b2⟩, nI_clamp (by omega), ← v_sd_E q1.1] at h
      unfold v_sd at h
      refine ⟨fun z0 => c_hol D2 ?_, fun z0 => ?_⟩
      · rwa [if_neg z0] at h
      · rw [if_pos z0] at h; rw [D2.2.2.2.2.2.2.2.2.2.1]; exact h
    · have h := h σ (cQ.rf hI); rwa [if_neg (fun q => b2 q.2)] at h
theorem r_seasons {x y z : Int32} {σ τ : bk_S} {post : Int32 → bk_S → Prop} (hi : ib σ) (hb : rb σ τ) (h : ∀ τ', rq τ τ' → post (v_seasons σ x y z) τ') : w_X9_seasons x y z τ post := by
  unfold v_seasons at h
  unfold w_X9_seasons
  simp only [bk_jn_iff]
  refine m_inB (n := 9) pz_9t (fun b => br1 (m_isTwo (fun b2 => br1 ?_) (fun b2 => br0 ?_))) (fun b => br0 ?_)
  · obtain ⟨n, hn, rfl⟩ := bw_9 b
    refine m_seasonsOf hi hb (by omega) (fun τ2 q2 => ?_)
    have h := h τ2 q2
    rw [if_pos ⟨b, b2⟩, nI_clamp (by omega)] at h; exact h
  · have h := h τ (rq.rf τ); rwa [if_neg (fun q => b2 q.2)] at h
  · have h := h τ (rq.rf τ); rwa [if_neg (fun q => b q.1)] at h
def v_count (σ : bk_S) (x : Int32) : Int32 := if x = 0 then tpA σ 0 0 else if x = 1 then tpA σ 0 1 else if x = 2 then σ 1 2 else if x = 3 then σ 3 2 else if x = 4 then σ 5 3 else if x = 5 then v_sums σ 0 else if x = 6 then v_sums σ 2 else if x = 7 then σ 9 3 else if x = 8 then σ 0 15 else -2
theorem v_count_E {σ σ' : bk_S} (e : bs_E σ σ') (x : Int32) : v_count σ' x = v_count σ x := by
  unfold v_count; rw [v_sums_E e, v_sums_E e, show tpA σ' = tpA σ from tp_E e tA, e.1 1 (by omega) (by omega), e.1 3 (by omega) (by omega), e.1 5 (by omega) (by omega), e.1 9 (by omega) (by omega), e.2]
theorem q_count' {x : Int32} {σ : bk_S} {post : Int32 → bk_S → Prop} (hI : cI σ) (h : ∀ σ', cQ σ σ' → fr_T σ' → (σ 0 13 = 0 → σ' = σ) → post (v_count σ x) σ') : w_X8_count x σ post := by
  have go : ∀ σ1, cQ σ σ1 → fr_T σ1 → (σ 0 13 = 0 → σ1 = σ) → (x = (0 : Int32) → post (σ1 22 0) σ1) ∧ (¬ x = (0 : Int32) → ((x = (1 : Int32) → post (σ1 22 1) σ1) ∧ (¬ x = (1 : Int32) → ((x = (2 : Int32) → post (σ1 1 2) σ1) ∧ (¬ x = (2 : Int32) → ((x = (3 : Int32) → post (σ1 3 2) σ1) ∧ (¬ x = (3 : Int32) → ((x = (4 : Int32) → post (σ1 5 3) σ1) ∧ (¬ x = (4 : Int32) → ((x = (5 : Int32) → post (σ1 36 11) σ1) ∧ (¬ x = (5 : Int32) → ((x = (6 : Int32) → (w_X8_sumOf (36 + 9) 12 σ1 (fun r16 => post r16 σ1))) ∧ (¬ x = (6 : Int32) → ((x = (7 : Int32) → post (σ1 9 3) σ1) ∧ (¬ x = (7 : Int32) → ((x = (8 : Int32) → post (σ1 0 15) σ1) ∧ (¬ x = (8 : Int32) → post (-2 : Int32) σ1)))))))))))))))))  := by
    intro σ1 q1 f1 s1
    have h := h σ1 q1 f1 s1
    rw [← v_count_E q1.1] at h
    unfold v_count at h
    refine ⟨fun e => ?_, fun n0 => ⟨fun e => ?_, fun n1 => ⟨fun e => ?_, fun n2 => ⟨fun e => ?_, fun n3 => ⟨fun e => ?_, fun n4 => ⟨fun e => ?_, fun n5 => ⟨fun e => c_hol f1.2 ?_, fun n6 => ⟨fun e => ?_, fun n7 => ⟨fun e => ?_, fun n8 => ?_⟩⟩⟩⟩⟩⟩⟩⟩⟩
    · rw [if_pos e] at h; rw [f1.c0]; exact h
    · rw [if_neg n0, if_pos e] at h; rw [f1.c1]; exact h
    · rwa [if_neg n0, if_neg n1, if_pos e] at h
    · rwa [if_neg n0, if_neg n1, if_neg n2, if_pos e] at h
    · rwa [if_neg n0, if_neg n1, if_neg n2, if_neg n3, if_pos e] at h
    · rw [if_neg n0, if_neg n1, if_neg n2, if_neg n3, if_neg n4, if_pos e] at h
      rw [f1.2.2.2.2.2.2.2.2.2.2.1]; exact h
    · rw [if_neg n0, if_neg n1, if_neg n2, if_neg n3, if_neg n4, if_neg n5, if_pos e] at h
      exact h
    · rwa [if_neg n0, if_neg n1, if_neg n2, if_neg n3, if_neg n4, if_neg n5, if_neg n6, if_pos e] at h
    · rwa [if_neg n0, if_neg n1, if_neg n2, if_neg n3, if_neg n4, if_neg n5, if_neg n6, if_neg n7, if_pos e] at h
    · rwa [if_neg n0, if_neg n1, if_neg n2, if_neg n3, if_neg n4, if_neg n5, if_neg n6, if_neg n7, if_neg n8] at h
  unfold w_X8_count
  by_cases h13 : σ 0 13 = 0
  · have f : fr_T σ := hI.2.1 h13
    unfold w_X8_refresh
    exact ⟨fun q => absurd h13 q, fun _ => go σ (cQ.rf hI) f (fun _ => rfl)⟩
  · exact c_fresh hI (fun σ1 q1 f1 => go σ1 q1 f1 (fun q => absurd q h13))
theorem q_count {x : Int32} {σ : bk_S} {post : Int32 → bk_S → Prop} (hI : cI σ) (h : ∀ σ', cQ σ σ' → post (v_count σ x) σ') : w_X8_count x σ post := q_count' hI (fun σ' q _ _ => h σ' q)
theorem r_count {x : Int32} {σ τ : bk_S} {post : Int32 → bk_S → Prop} (hi : ib σ) (hb : rb σ τ) (h : ∀ τ', rq τ τ' → post (v_count σ x) τ') : w_X9_count x τ post := by
  unfold v_count at h
  have tell : ∀ x, ∀ post : Int32 → bk_S → Prop, (∀ τ', rq τ τ' → post (if x = 0 then tpA σ 0 0 else tpA σ 0 1) τ') → w_X9_tellOf x τ post := by
    intro x post h
    refine m_reads hi hb (fun τ1 F1 T1 => ?_)
    have h := h τ1 F1.q
    rw [T1.1, T1.2.1]
    exact ⟨fun e => by rw [if_neg e] at h; exact h, fun e => by rw [if_pos e] at h; exact h⟩
  have h0 := h τ (rq.rf τ)
  unfold w_X9_count
  refine ⟨fun e => tell _ _ (fun τ' q => ?_), fun n0 => ⟨fun e => tell _ _ (fun τ' q => ?_), fun n1 => ⟨fun e => ?_, fun n2 => ⟨fun e => ?_, fun n3 => ⟨fun e => ?_, fun n4 => ⟨fun e => r_sumOf hi hb (fun τ' q => ?_), fun n5 => ⟨fun e => r_sumOf hi hb (fun τ' q => ?_), fun n6 => ⟨fun e => ?_, fun n7 => ⟨fun e => ?_, fun n8 => ?_⟩⟩⟩⟩⟩⟩⟩⟩⟩
  · have h := h τ' q; rw [if_pos e] at h ⊢; exact h
  · have h := h τ' q; rw [if_neg n0, if_pos e] at h; rw [if_neg n0]; exact h
  · rw [if_neg n0, if_neg n1, if_pos e] at h0
    rw [e, show (2 : Int32) - 2 = 0 by decide, pz_clamp0, hb.1]; exact ⟨by unfold vp_in; decide, h0⟩
  · rw [if_neg n0, if_neg n1, if_neg n2, if_pos e] at h0
    rw [e, show (3 : Int32) - 2 = 1 by decide, pz_clamp1, hb.2.1]; exact ⟨by unfold vp_in; decide, h0⟩
  · rw [if_neg n0, if_neg n1, if_neg n2, if_neg n3, if_pos e] at h0
    rw [hb.2.2.2.2.1]; exact h0
  · have h := h τ' q; rwa [if_neg n0, if_neg n1, if_neg n2, if_neg n3, if_neg n4, if_pos e] at h
  · have h := h τ' q; rwa [if_neg n0, if_neg n1, if_neg n2, if_neg n3, if_neg n4, if_neg n5, if_pos e] at h
  · rw [if_neg n0, if_neg n1, if_neg n2, if_neg n3, if_neg n4, if_neg n5, if_neg n6, if_pos e] at h0
    rw [hb.2.2.2.2.2.2.1]; exact h0
  · rw [if_neg n0, if_neg n1, if_neg n2, if_neg n3, if_neg n4, if_neg n5, if_neg n6, if_neg n7, if_pos e] at h0
    rw [hb.2.2.2.2.2.2.2.2.2]; exact h0
  · rwa [if_neg n0, if_neg n1, if_neg n2, if_neg n3, if_neg n4, if_neg n5, if_neg n6, if_neg n7, if_neg n8] at h0
