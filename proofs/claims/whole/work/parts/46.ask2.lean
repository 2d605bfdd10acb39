/-! Questions of evenings and sums. -/
theorem rr_H.told {σ τ : bk_S} (D : rr_D (tp σ tA) τ) : rr_D (tpA σ) τ := D
def v_heat (σ : bk_S) (x y z : Int32) : Int32 := if bw x 12 ∧ bw y (tpA σ 0 1) ∧ bw z 2 then (if z = 0 then mt_ev (tpA σ) x.toNatClampNeg 0 y.toNatClampNeg else mt_ev (tpA σ) x.toNatClampNeg 3 y.toNatClampNeg) else -2
theorem q_heat {x y z : Int32} {σ : bk_S} {post : Int32 → bk_S → Prop} (hI : cI σ) (h : ∀ σ', cQ σ σ' → post (v_heat σ x y z) σ') : w_X8_heat x y z σ post := by
  refine c_fresh hI (fun σ1 q1 f1 => ?_)
  have h := h σ1 q1
  have e : tpA σ1 = tpA σ := tp_E q1.1 tA
  unfold v_heat at h
  rw [← e] at h
  simp only [bk_lt_iff]
  refine c_isEvening (fun b => br1 (c_isThing f1 (fun b2 => br1 (c_isBelow (fun b3 => br1' ?_) (fun b3 => br0' ?_))) (fun b2 => br0 ?_))) (fun b => br0 ?_)
  · rw [if_pos ⟨b, b2, b3⟩] at h
    obtain ⟨i, hi, rfl⟩ := bw_12 b
    obtain ⟨j, hj, hj2, rfl⟩ := bw_T q1.2.1 b2
    have e8 : nI i * 8 + nI j = nI (i * 8 + j) := by rw [pz_8, pz_mulr, nI_add]
    rw [nI_clamp (by omega), nI_clamp (by omega)] at h
    rw [e8, nI_clamp (by omega), f1.2.1 i j hi hj, f1.2.2.1 i j hi hj2]
    have hv : vp_in (nI (i * 8 + j)) 96 := (pz_in (by omega)).mpr (by omega)
    exact ⟨fun z0 => ⟨hv, by rwa [if_neg z0] at h⟩, fun z0 => ⟨hv, by rwa [if_pos z0] at h⟩⟩
  · rwa [if_neg (fun q => b3 q.2.2)] at h
  · rwa [if_neg (fun q => b2 q.2.1)] at h
  · rwa [if_neg (fun q => b q.1)] at h
theorem r_heatOf {i j : Nat} {z : Int32} {σ τ : bk_S} {post : Int32 → bk_S → Prop} (hi : ib σ) (hb : rb σ τ) (h1 : i < 12) (h2 : j < mt_nt (tpA σ)) (h : ∀ τ', rq τ τ' → post (if z = 0 then mt_ev (tpA σ) i 0 j else mt_ev (tpA σ) i 3 j) τ') : w_X9_heatOf (nI i) (nI j) z τ post := by
  have hnt := (tp_ok hi tA).nt.2
  have hj2 : j < 8 := Nat.lt_of_lt_of_le h2 hnt
  refine m_runsTold hi hb (fun τ1 q1 _ D1 => ?_)
  have h := h τ1 q1
  have e8 : 8 * nI i + nI j = nI (8 * i + j) := by rw [pz_8, pz_mulr, nI_add]
  rw [e8, nI_clamp (by omega), D1.1.2.1 i j h1 h2, D1.1.2.2.1 i j h1 h2]
  have hv : vp_in (nI (8 * i + j)) 96 := (pz_in (by omega)).mpr (by omega)
  exact ⟨fun z0 => ⟨hv, by rwa [if_neg z0] at h⟩, fun z0 => ⟨hv, by rwa [if_pos z0] at h⟩⟩
theorem r_heat {x y z : Int32} {σ τ : bk_S} {post : Int32 → bk_S → Prop} (hi : ib σ) (hb : rb σ τ) (h : ∀ τ', rq τ τ' → post (v_heat σ x y z) τ') : w_X9_heat x y z τ post := by
  unfold v_heat at h
  unfold w_X9_heat
  simp only [bk_jn_iff]
  refine m_isTwelve (fun b => br1 (m_isThing hi hb (fun b2 τ1 q1 T1 => br1 (m_isTwo (fun b3 => br1 ?_) (fun b3 => br0 ?_))) (fun b2 τ1 q1 T1 => br0 ?_))) (fun b => br0 ?_)
  · obtain ⟨i, hi1, rfl⟩ := bw_12 b
    obtain ⟨j, hj, hj2, rfl⟩ := bw_T hi b2
    refine r_heatOf hi (hb.q q1) hi1 hj (fun τ2 q2 => ?_)
    have h := h τ2 (q1.tr q2)
    rw [if_pos ⟨b, b2, b3⟩, nI_clamp (by omega), nI_clamp (by omega)] at h; exact h
  · have h := h τ1 q1; rwa [if_neg (fun q => b3 q.2.2)] at h
  · have h := h τ1 q1; rwa [if_neg (fun q => b2 q.2.1)] at h
  · have h := h τ (rq.rf τ); rwa [if_neg (fun q => b q.1)] at h
def v_said (σ : bk_S) (x y : Int32) : Int32 := if bw x 12 ∧ bw y (tpA σ 0 0) then mt_ev (tpA σ) x.toNatClampNeg 4 y.toNatClampNeg else -2
theorem q_said {x y : Int32} {σ : bk_S} {post : Int32 → bk_S → Prop} (hI : cI σ) (h : ∀ σ', cQ σ σ' → post (v_said σ x y) σ') : w_X8_said x y σ post := by
  refine c_fresh hI (fun σ1 q1 f1 => ?_)
  have h := h σ1 q1
  have e : tpA σ1 = tpA σ := tp_E q1.1 tA
  unfold v_said at h
  rw [← e] at h
  refine c_isEvening (fun b => br1 (c_isHook f1 (fun b2 => br1' ?_) (fun b2 => br0' ?_))) (fun b => br0 ?_)
  · rw [if_pos ⟨b, b2⟩] at h
    obtain ⟨i, hi, rfl⟩ := bw_12 b
    obtain ⟨j, hj, hj2, rfl⟩ := bw_H q1.2.1 b2
    have e8 : nI i * 12 + nI j = nI (i * 12 + j) := by rw [pz_12, pz_mulr, nI_add]
    rw [nI_clamp (by omega), nI_clamp (by omega)] at h
    rw [e8, nI_clamp (by omega), f1.2.2.2.1 i j hi hj2]
    exact ⟨(pz_in (by omega)).mpr (by omega), h⟩
  · rwa [if_neg (fun q => b2 q.2)] at h
  · rwa [if_neg (fun q => b q.1)] at h
theorem r_saidOf {i j : Nat} {σ τ : bk_S} {post : Int32 → bk_S → Prop} (hi : ib σ) (hb : rb σ τ) (h1 : i < 12) (h2 : j < 12) (h : ∀ τ', rq τ τ' → rd_T σ τ' → post (mt_ev (tpA σ) i 4 j) τ') : w_X9_saidOf (nI i) (nI j) τ post := by
  refine m_runsTold hi hb (fun τ1 q1 a1 D1 => ?_)
  have h := h τ1 q1 a1.1
  have e8 : 12 * nI i + nI j = nI (12 * i + j) := by rw [pz_12, pz_mulr, nI_add]
  rw [e8, nI_clamp (by omega), D1.1.1 i j h1 h2]
  exact ⟨(pz_in (by omega)).mpr (by omega), h⟩
theorem r_said {x y : Int32} {σ τ : bk_S} {post : Int32 → bk_S → Prop} (hi : ib σ) (hb : rb σ τ) (h : ∀ τ', rq τ τ' → post (v_said σ x y) τ') : w_X9_said x y τ post := by
  unfold v_said at h
  unfold w_X9_said
  simp only [bk_jn_iff]
  refine m_isTwelve (fun b => br1 (m_isHook hi hb (fun b2 τ1 q1 T1 => br1 ?_) (fun b2 τ1 q1 T1 => br0 ?_))) (fun b => br0 ?_)
  · obtain ⟨i, hi1, rfl⟩ := bw_12 b
    obtain ⟨j, hj, hj2, rfl⟩ := bw_H hi b2
    refine r_saidOf hi (hb.q q1) hi1 hj2 (fun τ2 q2 _ => ?_)
    have h := h τ2 (q1.tr q2)
    rw [if_pos ⟨b, b2⟩, nI_clamp (by omega), nI_clamp (by omega)] at h; exact h
  · have h := h τ1 q1; rwa [if_neg (fun q => b2 q.2)] at h
  · have h := h τ (rq.rf τ); rwa [if_neg (fun q => b q.1)] at h
def v_at (σ : bk_S) (x y : Int32) : Int32 := if bw x 12 ∧ bw y 4 then mt_ev (tpA σ) x.toNatClampNeg 5 y.toNatClampNeg else -2
theorem nI_ne {a b : Nat} (ha : a < 2 ^ 31) (hb : b < 2 ^ 31) (h : a ≠ b) : ¬ nI a = nI b := fun q => h ((nI_eq ha hb).mp q)
theorem c_eveningAnswer {i j : Nat} {p σ : bk_S} {post : Int32 → Prop} (hD : cr_Dn 36 p σ) (hi : i < 12) (hj : j < 4) (h : post (mt_ev p i 5 j)) : w_X1_eveningAnswer 36 (nI i) (nI j) σ post := by
  unfold w_X1_eveningAnswer
  have hv : vp_in (nI i) 12 := (pz_in (by omega)).mpr hi
  rw [nI_clamp (by omega), hD.2.2.2.1 i hi, hD.2.2.2.2.1 i hi, hD.2.2.2.2.2.1 i hi, hD.2.2.2.2.2.2.1 i hi]
  have n : ∀ k, k < 4 → (nI j = nI k ↔ j = k) := fun k hk => nI_eq (by omega) (by omega)
  rw [pz_0, pz_1, pz_2, n 0 (by omega), n 1 (by omega), n 2 (by omega)]
  refine ⟨fun e => ⟨hv, by rw [e] at h; exact h⟩, fun e0 => ⟨fun e => ⟨hv, by rw [e] at h; exact h⟩, fun e1 => ⟨fun e => ⟨hv, by rw [e] at h; exact h⟩, fun e2 => ⟨hv, ?_⟩⟩⟩⟩
  rw [show j = 3 by omega] at h; exact h
theorem q_at {x y : Int32} {σ : bk_S} {post : Int32 → bk_S → Prop} (hI : cI σ) (h : ∀ σ', cQ σ σ' → post (v_at σ x y) σ') : w_X8_at x y σ post := by
  refine c_fresh hI (fun σ1 q1 f1 => ?_)
  have h := h σ1 q1
  have e : tpA σ1 = tpA σ := tp_E q1.1 tA
  unfold v_at at h
  rw [← e] at h
  refine c_isEvening (fun b => br1 (c_isBelow (fun b2 => br1' ?_) (fun b2 => br0' ?_))) (fun b => br0 ?_)
  · rw [if_pos ⟨b, b2⟩] at h
    obtain ⟨i, hi, rfl⟩ := bw_12 b
    obtain ⟨j, hj, rfl⟩ := bw_4 b2
    rw [nI_clamp (by omega), nI_clamp (by omega)] at h
    exact c_eveningAnswer f1.2 hi hj h
  · rwa [if_neg (fun q => b2 q.2)] at h
  · rwa [if_neg (fun q => b q.1)] at h
theorem r_atOf {i j : Nat} {σ τ : bk_S} {post : Int32 → bk_S → Prop} (hi : ib σ) (hb : rb σ τ) (h1 : i < 12) (h2 : j < 4) (h : ∀ τ', rq τ τ' → post (mt_ev (tpA σ) i 5 j) τ') : w_X9_atOf (nI i) (nI j) τ post := by
  refine m_runsTold hi hb (fun τ1 q1 _ D1 => ?_)
  have h := h τ1 q1
  have e8 : 4 * nI i + nI j = nI (4 * i + j) := by rw [pz_4, pz_mulr, nI_add]
  rw [e8, nI_clamp (by omega), D1.1.2.2.2.1 i j h1 h2]
  exact ⟨(pz_in (by omega)).mpr (by omega), h⟩
theorem r_at {x y : Int32} {σ τ : bk_S} {post : Int32 → bk_S → Prop} (hi : ib σ) (hb : rb σ τ) (h : ∀ τ', rq τ τ' → post (v_at σ x y) τ') : w_X9_at x y τ post := by
  unfold v_at at h
  unfold w_X9_at
  simp only [bk_jn_iff]
  refine m_isTwelve (fun b => br1 (m_inB (n := 4) (pz_top (n := 4) (m := 3) rfl (by omega)) (fun b2 => br1 ?_) (fun b2 => br0 ?_))) (fun b => br0 ?_)
  · obtain ⟨i, hi1, rfl⟩ := bw_12 b
    obtain ⟨j, hj, rfl⟩ := bw_4 b2
    refine r_atOf hi hb hi1 hj (fun τ2 q2 => ?_)
    have h := h τ2 q2
    rw [if_pos ⟨b, b2⟩, nI_clamp (by omega), nI_clamp (by omega)] at h; exact h
  · have h := h τ (rq.rf τ); rwa [if_neg (fun q => b2 q.2)] at h
  · have h := h τ (rq.rf τ); rwa [if_neg (fun q => b q.1)] at h
def v_col (σ : bk_S) (r : Nat) (x : Int32) : Int32 := if bw x (tpA σ 0 1) then mt_ev (tpA σ) 11 r x.toNatClampNeg else -2
theorem q_settled {x : Int32} {σ : bk_S} {post : Int32 → bk_S → Prop} (hI : cI σ) (h : ∀ σ', cQ σ σ' → post (v_col σ 1 x) σ') : w_X8_settled x σ post := by
  refine c_fresh hI (fun σ1 q1 f1 => ?_)
  have h := h σ1 q1
  have e : tpA σ1 = tpA σ := tp_E q1.1 tA
  unfold v_col at h
  rw [← e] at h
  refine c_isThing f1 (fun b => br1 ?_) (fun b => br0 ?_)
  · rw [if_pos b] at h
    obtain ⟨j, hj, hj2, rfl⟩ := bw_T q1.2.1 b
    rw [nI_clamp (by omega)] at h ⊢
    exact ⟨(pz_in (by omega)).mpr hj2, by rw [f1.2.2.2.2.2.2.2.2.1 j hj2]; exact h⟩
  · rwa [if_neg b] at h
theorem q_highest {x : Int32} {σ : bk_S} {post : Int32 → bk_S → Prop} (hI : cI σ) (h : ∀ σ', cQ σ σ' → post (v_col σ 2 x) σ') : w_X8_highest x σ post := by
  refine c_fresh hI (fun σ1 q1 f1 => ?_)
  have h := h σ1 q1
  have e : tpA σ1 = tpA σ := tp_E q1.1 tA
  unfold v_col at h
  rw [← e] at h
  refine c_isThing f1 (fun b => br1 ?_) (fun b => br0 ?_)
  · rw [if_pos b] at h
    obtain ⟨j, hj, hj2, rfl⟩ := bw_T q1.2.1 b
    rw [nI_clamp (by omega)] at h ⊢
    exact ⟨(pz_in (by omega)).mpr hj2, by rw [f1.2.2.2.2.2.2.2.2.2.1 j hj2]; exact h⟩
  · rwa [if_neg b] at h
theorem r_settledOf {j : Nat} {σ τ : bk_S} {post : Int32 → bk_S → Prop} (hi : ib σ) (hb : rb σ τ) (h2 : j < 8) (h : ∀ τ', rq τ τ' → post (mt_ev (tpA σ) 11 1 j) τ') : w_X9_settledOf (nI j) τ post := by
  refine m_runsTold hi hb (fun τ1 q1 _ D1 => ?_)
  have h := h τ1 q1
  rw [nI_clamp (by omega), D1.2.1 j h2]
  exact ⟨(pz_in (by omega)).mpr h2, h⟩
theorem r_highestOf {j : Nat} {σ τ : bk_S} {post : Int32 → bk_S → Prop} (hi : ib σ) (hb : rb σ τ) (h2 : j < 8) (h : ∀ τ', rq τ τ' → post (mt_ev (tpA σ) 11 2 j) τ') : w_X9_highestOf (nI j) τ post := by
  refine m_runsTold hi hb (fun τ1 q1 _ D1 => ?_)
  have h := h τ1 q1
  rw [nI_clamp (by omega), D1.2.2 j h2]
  exact ⟨(pz_in (by omega)).mpr h2, h⟩
theorem r_settled {x : Int32} {σ τ : bk_S} {post : Int32 → bk_S → Prop} (hi : ib σ) (hb : rb σ τ) (h : ∀ τ', rq τ τ' → post (v_col σ 1 x) τ') : w_X9_settled x τ post := by
  unfold v_col at h
  refine m_isThing hi hb (fun b τ1 q1 T1 => br1 ?_) (fun b τ1 q1 T1 => br0 ?_)
  · obtain ⟨j, hj, hj2, rfl⟩ := bw_T hi b
    refine r_settledOf hi (hb.q q1) hj2 (fun τ2 q2 => ?_)
    have h := h τ2 (q1.tr q2)
    rw [if_pos b, nI_clamp (by omega)] at h; exact h
  · have h := h τ1 q1; rwa [if_neg b] at h
theorem r_highest {x : Int32} {σ τ : bk_S} {post : Int32 → bk_S → Prop} (hi : ib σ) (hb : rb σ τ) (h : ∀ τ', rq τ τ' → post (v_col σ 2 x) τ') : w_X9_highest x τ post := by
  unfold v_col at h
  refine m_isThing hi hb (fun b τ1 q1 T1 => br1 ?_) (fun b τ1 q1 T1 => br0 ?_)
  · obtain ⟨j, hj, hj2, rfl⟩ := bw_T hi b
    refine r_highestOf hi (hb.q q1) hj2 (fun τ2 q2 => ?_)
    have h := h τ2 (q1.tr q2)
    rw [if_pos b, nI_clamp (by omega)] at h; exact h
  · have h := h τ1 q1; rwa [if_neg b] at h
def v_sums (σ : bk_S) (x : Int32) : Int32 := if x = 0 then mt_cnt (tpA σ) else if x = 1 then mt_sum (fun d => mt_ev (tpA σ) d 5 0) 12 else if x = 2 then mt_hol (tpA σ) else mt_sum (fun d => mt_ev (tpA σ) d 5 2) 12
def v_sum (σ : bk_S) (x : Int32) : Int32 := if bw x 4 then v_sums σ x else -2
theorem c_sumAnswer {x : Int32} {σ : bk_S} {post : Int32 → Prop} (hD : cr_Dn 36 (tpA σ) σ) (h : post (v_sums σ x)) : w_X1_sumAnswer 36 x σ post := by
  unfold w_X1_sumAnswer
  unfold v_sums at h
  refine ⟨fun e => ?_, fun e0 => ⟨fun e => c_sumOf (by decide) ?_, fun e1 => ⟨fun e => c_hol hD ?_, fun e2 => c_sumOf (by decide) ?_⟩⟩⟩
  · rw [if_pos e] at h; rw [hD.2.2.2.2.2.2.2.2.2.1]; exact h
  · rw [if_neg e0, if_pos e] at h
    rw [mt_sum_congr 12 (fun d hd => hD.2.2.2.1 d hd)]; exact h
  · rwa [if_neg e0, if_neg e1, if_pos e] at h
  · rw [if_neg e0, if_neg e1, if_neg e2] at h
    rw [mt_sum_congr 12 (fun d hd => hD.2.2.2.2.2.1 d hd)]; exact h
theorem v_sums_E {σ σ' : bk_S} (e : bs_E σ σ') (x : Int32) : v_sums σ' x = v_sums σ x := by unfold v_sums; rw [show tpA σ' = tpA σ from tp_E e tA]
theorem q_sum {x : Int32} {σ : bk_S} {post : Int32 → bk_S → Prop} (hI : cI σ) (h : ∀ σ', cQ σ σ' → post (v_sum σ x) σ') : w_X8_sum x σ post := by
  refine c_fresh hI (fun σ1 q1 f1 => ?_)
  have h := h σ1 q1
  unfold v_sum at h
  rw [← v_sums_E q1.1] at h
  refine c_isBelow (fun b => br1 (c_sumAnswer f1.2 ?_)) (fun b => br0 ?_)
  · rwa [if_pos b] at h
  · rwa [if_neg b] at h
theorem r_sumOf {x : Int32} {σ τ : bk_S} {post : Int32 → bk_S → Prop} (hi : ib σ) (hb : rb σ τ) (h : ∀ τ', rq τ τ' → post (v_sums σ x) τ') : w_X9_sumOf x τ post := by
  refine m_runsTold hi hb (fun τ1 q1 a1 D1 => ?_)
  have h := h τ1 q1
  unfold v_sums at h
  have s1 : τ1 0 28 = mt_sum (fun d => mt_ev (tpA σ) d 5 0) 12 := D1.1.2.2.2.2.2.2.1
  have s2 : τ1 0 29 = mt_hol (tpA σ) := D1.1.2.2.2.2.2.2.2.1
  have s3 : τ1 0 30 = mt_sum (fun d => mt_ev (tpA σ) d 5 2) 12 := D1.1.2.2.2.2.2.2.2.2.1
  refine ⟨fun e0 => ⟨fun e1 => ⟨fun e2 => ?_, fun e2 => ?_⟩, fun e1 => ?_⟩, fun e0 => m_many (σ := σ) (tp_ok hi tA) a1.2.1 D1 ?_⟩
  · rw [s3]; rwa [if_neg e0, if_neg e1, if_neg e2] at h
  · rw [s2]; rwa [if_neg e0, if_neg e1, if_pos e2] at h
  · rw [s1]; rwa [if_neg e0, if_pos e1] at h
  · rwa [if_pos e0] at h
theorem r_sum {x : Int32} {σ τ : bk_S} {post : Int32 → bk_S → Prop} (hi : ib σ) (hb : rb σ τ) (h : ∀ τ', rq τ τ' → post (v_sum σ x) τ') : w_X9_sum x τ post := by
  unfold v_sum at h
  refine m_inB (n := 4) (pz_top (n := 4) (m := 3) rfl (by omega)) (fun b => br1 (r_sumOf hi hb (fun τ' q => ?_))) (fun b => br0 ?_)
  · have := h τ' q; rwa [if_pos b] at this
  · have := h τ (rq.rf τ); rwa [if_neg b] at this
def v_peace (σ : bk_S) : Int32 := mt_pc (tpA σ) 12
theorem q_peace {σ : bk_S} {post : Int32 → bk_S → Prop} (hI : cI σ) (h : ∀ σ', cQ σ σ' → post (v_peace σ) σ') : w_X8_peace σ post := by
  refine c_fresh hI (fun σ1 q1 f1 => ?_)
  have h := h σ1 q1
  unfold v_peace at h
  rw [← show tpA σ1 = tpA σ from tp_E q1.1 tA] at h
  have hp := tp_ok q1.2.1 tA
  unfold w_X4_allThings
  rw [f1.c1, show tpA σ1 0 1 = nI (mt_nt (tp σ1 tA)) from hp.nt.1]
  exact c_firstPeace hp f1.2.2.2.2.2.2.2.2.1 h
theorem r_peace {σ τ : bk_S} {post : Int32 → bk_S → Prop} (hi : ib σ) (hb : rb σ τ) (h : ∀ τ', rq τ τ' → post (v_peace σ) τ') : w_X9_peace τ post := by
  refine m_runsTold hi hb (fun τ1 q1 _ D1 => ?_)
  have h := h τ1 q1
  have s1 : τ1 0 31 = v_peace σ := D1.1.2.2.2.2.2.2.2.2.2
  rw [s1]; exact h
def v_longest (σ : bk_S) : Int32 := (mt_lg (mt_sa (tpA σ) 12) (mt_nt (tpA σ))).1
theorem q_longest {σ : bk_S} {post : Int32 → bk_S → Prop} (hI : cI σ) (h : ∀ σ', cQ σ σ' → post (v_longest σ) σ') : w_X8_longest σ post := by
  refine c_fresh hI (fun σ1 q1 f1 => ?_)
  have h := h σ1 q1
  unfold v_longest at h
  rw [← show tpA σ1 = tpA σ from tp_E q1.1 tA] at h
  exact c_thingSaidMost (tp_ok q1.2.1 tA) f1.2.2.2.2.2.2.2.2.2.2.2 h
theorem r_longest {σ τ : bk_S} {post : Int32 → bk_S → Prop} (hi : ib σ) (hb : rb σ τ) (h : ∀ τ', rq τ τ' → post (v_longest σ) τ') : w_X9_longest τ post := by
  have hnt := (tp_ok hi tA).nt.2
  refine m_runsTold hi hb (fun τ1 q1 a1 D1 => ?_)
  have h := h τ1 q1
  unfold v_longest at h
  simp only [bk_lt_iff]
  have y4 : τ1 0 4 = nI (mt_nt (tpA σ)) := by rw [show mt_nt (tpA σ) = _ from tp_nt hi tA]; exact a1.1.2.1
  have y35 : ∀ t, t < mt_nt (tpA σ) → τ1 35 t = mt_sa (tpA σ) 12 t := D1.1.2.2.2.2.2.1
  have hnt : mt_nt (tpA σ) ≤ 8 := hnt
  rw [y4]
  generalize hg : mt_lg (mt_sa (tpA σ) 12) = g at h
  have g0 : g 0 = (-1, 0) := by rw [← hg]; rfl
  have gs : ∀ i, g (i + 1) = if mt_sa (tpA σ) 12 i ≤ (g i).2 then g i else (nI i, mt_sa (tpA σ) 12 i) := fun i => by rw [← hg]; rfl
  generalize mt_nt (tpA σ) = N at *
  refine bk_loop_up N (fun i (_ : Unit) => ((g i).1, (g i).2, nI i)) (fun _ _ => True) (i0 := 0) (b0 := ()) (by rw [g0]; rfl) (Nat.zero_le _) trivial ?_ ?_
  · intro i _ K hi2 _ hK
    have hK := hK () trivial
    rw [gs] at hK
    have hv : vp_in (nI i) 8 := (pz_in (by omega)).mpr (by omega)
    simp only [nI_1, nI_clamp (show i < 2 ^ 31 by omega), y35 i hi2]
    refine ⟨fun hle => absurd ((nI_leI (by omega) (by omega)).mp hle) (by omega), fun _ => ⟨hv, hv, fun h1 => ?_, fun h1 => ⟨hv, ?_⟩⟩⟩
    · rw [if_pos h1] at hK ⊢; exact hK
    · rw [if_neg h1] at hK ⊢; exact hK
  · intro _ K _
    exact ⟨fun _ => h, fun hn => absurd ((nI_leI (by omega) (by omega)).mpr (Nat.le_refl _)) hn⟩
def v_sore (σ : bk_S) : Int32 := (((1 : Int32) <<< (nI (mt_nt (tpA σ)) &&& 31)) - 1) &&& (mt_cm (mt_ev (tpA σ) 11 1) (mt_nt (tpA σ)) ^^^ -1)
theorem c_unsettled {σ : bk_S} {post : Int32 → Prop} (hi : ib σ) (f : fr_T σ) (h : post (v_sore σ)) : w_X8_unsettledThings σ post := by
  have hp := tp_ok hi tA
  show w_X1_settledBehind 36 (nI 11) σ (fun r2 => post ((((1 : Int32) <<< ((σ 22 1) &&& 31)) - (1 : Int32)) &&& (r2 ^^^ (-1 : Int32))))
  rw [f.c1, show tpA σ 0 1 = nI (mt_nt (tp σ tA)) from hp.nt.1]
  exact c_settledBehind hp (by omega) f.2.2.2.2.2.2.2.2.1 h
theorem v_sore_E {σ σ' : bk_S} (e : bs_E σ σ') : v_sore σ' = v_sore σ := by unfold v_sore; rw [show tpA σ' = tpA σ from tp_E e tA]
theorem q_sore {σ : bk_S} {post : Int32 → bk_S → Prop} (hI : cI σ) (h : ∀ σ', cQ σ σ' → post (v_sore σ) σ') : w_X8_sore σ post := by
  refine c_fresh hI (fun σ1 q1 f1 => ?_)
  have h := h σ1 q1
  rw [← v_sore_E q1.1] at h
  exact c_unsettled q1.2.1 f1 h
theorem pz_clamp11 : Int32.toNatClampNeg (11 : Int32) = 11 := by decide
theorem r_sore {σ τ : bk_S} {post : Int32 → bk_S → Prop} (hi : ib σ) (hb : rb σ τ) (h : ∀ τ', rq τ τ' → post (v_sore σ) τ') : w_X9_sore τ post := by
  refine m_runsTold hi hb (fun τ1 q1 a1 D1 => ?_)
  have h := h τ1 q1
  have y4 : τ1 0 4 = nI (mt_nt (tpA σ)) := by rw [show mt_nt (tpA σ) = _ from tp_nt hi tA]; exact a1.1.2.1
  rw [y4, pz_clamp11, D1.1.2.2.2.2.1 11 (by omega)]
  exact ⟨by unfold vp_in; decide, h⟩
