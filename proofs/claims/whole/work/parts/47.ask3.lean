/-! Questions of plans and guesses. -/
theorem mt_si_q0 (p : bk_S) (a : Nat) (ha : a < 8) (s : mt_Q) (hs : s.1 = -1 → s = mt_q0) : ∀ m, (mt_si p a s m).1 = -1 → mt_si p a s m = mt_q0
  | 0 => hs
  | m + 1 => by
    rw [mt_si, mt_of]
    split
    · intro h; exact absurd (show nI a = -1 from h) (pz_ne_m1 (by omega))
    · exact mt_si_q0 p a ha s hs m
theorem mt_so_q0 (p : bk_S) : ∀ a, a ≤ 8 → (mt_so p a).1 = -1 → mt_so p a = mt_q0
  | 0, _ => fun _ => rfl
  | a + 1, h => by
    rw [mt_so]
    exact mt_si_q0 p a (by omega) _ (mt_so_q0 p a (by omega)) _
def v_swap (σ : bk_S) (x : Int32) : Int32 := if bw x 4 then (if (mt_so (tpA σ) (mt_nt (tpA σ))).1 = -1 then -1 else sv (mt_so (tpA σ) (mt_nt (tpA σ))) x) else -2
theorem c_swapAnswer {s : mt_Q} {x : Int32} {σ : bk_S} {post : Int32 → Prop} (hR : ch_R s σ) (b : bw x 4) (h : post (sv s x)) : w_X0_swapAnswer 60 x σ post := by
  obtain ⟨-, -, r1, r2, r3, r4⟩ := hR
  unfold sv at h
  unfold w_X0_swapAnswer w_X0_leaveAnswer
  rw [r1, r2, r3, r4]
  obtain ⟨j, hj, rfl⟩ := bw_4 b
  have n : ∀ k, k < 4 → (nI j = nI k ↔ j = k) := fun k hk => nI_eq (by omega) (by omega)
  rw [pz_0, pz_1, pz_2] at h
  rw [pz_0, pz_1]
  simp only [n 0 (by omega), n 1 (by omega), n 2 (by omega)] at h ⊢
  refine ⟨fun e0 => ⟨fun e1 => ?_, fun e1 => ?_⟩, fun e0 => ?_⟩
  · have es : nI j - nI 1 = nI (j - 1) := pk_sub (by omega)
    rw [es]
    have n' : ∀ k, k < 4 → (nI (j - 1) = nI k ↔ j - 1 = k) := fun k hk => nI_eq (by omega) (by omega)
    rw [n' 0 (by omega), n' 1 (by omega)]
    refine ⟨fun _ => ⟨fun e3 => ?_, fun e3 => ?_⟩, fun e => absurd e (by omega)⟩
    · rwa [if_neg e0, if_neg e1, if_neg (by omega)] at h
    · rwa [if_neg e0, if_neg e1, if_pos (by omega)] at h
  · rwa [if_neg e0, if_pos e1] at h
  · rwa [if_pos e0] at h
theorem sv_q0 (x : Int32) : sv mt_q0 x = -1 := by unfold sv mt_q0; simp
theorem v_swap_sv {σ : bk_S} (hi : ib σ) (x : Int32) : (if (mt_so (tpA σ) (mt_nt (tpA σ))).1 = -1 then -1 else sv (mt_so (tpA σ) (mt_nt (tpA σ))) x) = sv (mt_so (tpA σ) (mt_nt (tpA σ))) x := by
  by_cases h : (mt_so (tpA σ) (mt_nt (tpA σ))).1 = -1
  · rw [if_pos h, mt_so_q0 _ _ (tp_ok hi tA).nt.2 h, sv_q0]
  · rw [if_neg h]
theorem q_swap {x : Int32} {σ : bk_S} {post : Int32 → bk_S → Prop} (hI : cI σ) (h : ∀ σ', cQ σ σ' → post (v_swap σ x) σ') : w_X8_swap x σ post := by
  unfold v_swap at h
  rw [v_swap_sv hI.1] at h
  refine c_isBelow (fun b => br1' (c_fresh hI (fun σ1 q1 f1 => c_chooseSwap (tp_ok q1.2.1 tA) f1.1 (fun σ2 t2 R2 => ?_)))) (fun b => br0' ?_)
  · have h := h σ2 (q1.t f1 t2)
    rw [if_pos b, ← show tpA σ1 = tpA σ from tp_E q1.1 tA] at h
    exact c_swapAnswer R2 b h
  · have h := h σ (cQ.rf hI); rwa [if_neg b] at h
theorem r_swap {x : Int32} {σ τ : bk_S} {post : Int32 → bk_S → Prop} (hi : ib σ) (hb : rb σ τ) (h : ∀ τ', rq τ τ' → post (v_swap σ x) τ') : w_X9_swap x τ post := by
  unfold v_swap at h
  refine m_inB (n := 4) (pz_top (n := 4) (m := 3) rfl (by omega)) (fun b => br1 (m_swapOf hi hb (fun τ' q => ?_))) (fun b => br0 ?_)
  · have := h τ' q; rwa [if_pos b] at this
  · have := h τ (rq.rf τ); rwa [if_neg b] at this
def v_fit (σ : bk_S) : Int32 := mt_ft (tpA σ)
theorem q_fit {σ : bk_S} {post : Int32 → bk_S → Prop} (hI : cI σ) (h : ∀ σ', cQ σ σ' → post (v_fit σ) σ') : w_X8_fit σ post := by
  refine c_fresh hI (fun σ1 q1 f1 => c_fewestHooks (tp_ok q1.2.1 tA) f1.1 (fun σ2 t2 => ?_))
  have h := h σ2 (q1.t f1 t2)
  unfold v_fit at h
  rwa [← show tpA σ1 = tpA σ from tp_E q1.1 tA] at h
theorem r_fit {σ τ : bk_S} {post : Int32 → bk_S → Prop} (hi : ib σ) (hb : rb σ τ) (h : ∀ τ', rq τ τ' → post (v_fit σ) τ') : w_X9_fit τ post := m_fitOf hi hb h
def v_lv (σ : bk_S) (e : Nat) (x : Int32) : Int32 := if x = 0 then (mt_lv (tpA σ) e (mt_nh (tpA σ))).1 else if x = 1 then (mt_lv (tpA σ) e (mt_nh (tpA σ))).2.2.1 else (mt_lv (tpA σ) e (mt_nh (tpA σ))).2.2.2
def v_leave (σ : bk_S) (x y : Int32) : Int32 := if bw x 12 ∧ bw y 3 then v_lv σ x.toNatClampNeg y else -2
theorem q_leave {x y : Int32} {σ : bk_S} {post : Int32 → bk_S → Prop} (hI : cI σ) (h : ∀ σ', cQ σ σ' → post (v_leave σ x y) σ') : w_X8_leave x y σ post := by
  unfold v_leave at h
  refine c_isEvening (fun b => br1 (c_isBelow (fun b2 => br1' (c_fresh hI (fun σ1 q1 f1 => ?_))) (fun b2 => br0' ?_))) (fun b => br0 ?_)
  · obtain ⟨i, hi, rfl⟩ := bw_12 b
    refine c_chooseLeft hi (tp_ok q1.2.1 tA) f1.1 (fun σ2 t2 R2 => ?_)
    have h := h σ2 (q1.t f1 t2)
    rw [if_pos ⟨b, b2⟩, nI_clamp (by omega)] at h
    unfold v_lv at h
    rw [← show tpA σ1 = tpA σ from tp_E q1.1 tA] at h
    obtain ⟨-, -, r1, r2, r3, r4⟩ := R2
    unfold w_X0_leaveAnswer
    rw [r1, r3, r4]
    refine ⟨fun e0 => ⟨fun e1 => ?_, fun e1 => ?_⟩, fun e0 => ?_⟩
    · rwa [if_neg e0, if_neg e1] at h
    · rwa [if_neg e0, if_pos e1] at h
    · rwa [if_pos e0] at h
  · have h := h σ (cQ.rf hI); rwa [if_neg (fun q => b2 q.2)] at h
  · have h := h σ (cQ.rf hI); rwa [if_neg (fun q => b q.1)] at h
theorem r_leaveTold {e : Nat} {y : Int32} {σ τ : bk_S} {post : Int32 → bk_S → Prop} (hi : ib σ) (hb : rb σ τ) (he : e < 12) (h : ∀ τ', rq τ τ' → rd_T σ τ' → post (v_lv σ e y) τ') : w_X9_leaveTold (nI e) y τ post := by
  refine m_reads hi hb (fun τ1 F1 T1 => ?_)
  have y2 : τ1 0 2 = nI (mt_nh (tpA σ)) := by rw [show mt_nh (tpA σ) = _ from tp_nh hi tA]; exact T1.1
  have hnh : mt_nh (tpA σ) ≤ 12 := (tp_ok hi tA).nh.2
  rw [y2, pz_0, nI_eq (by omega) (by omega)]
  refine ⟨fun _ => m_leaveOf hi (hb.q F1.q) he (fun τ2 q2 T2 => h τ2 (F1.q.tr q2) T2), fun e0 => ?_⟩
  have h := h τ1 F1.q T1
  unfold v_lv at h
  rw [e0] at h
  have : (if y = 0 then (mt_lv (tpA σ) e 0).1 else if y = 1 then (mt_lv (tpA σ) e 0).2.2.1 else (mt_lv (tpA σ) e 0).2.2.2) = -1 := by
    show (if y = 0 then (-1 : Int32) else if y = 1 then -1 else -1) = -1
    simp
  rw [this] at h; exact h
theorem r_leave {x y : Int32} {σ τ : bk_S} {post : Int32 → bk_S → Prop} (hi : ib σ) (hb : rb σ τ) (h : ∀ τ', rq τ τ' → post (v_leave σ x y) τ') : w_X9_leave x y τ post := by
  unfold v_leave at h
  unfold w_X9_leave
  simp only [bk_jn_iff]
  refine m_isTwelve (fun b => br1 (m_isThree (fun b2 => br1 ?_) (fun b2 => br0 ?_))) (fun b => br0 ?_)
  · obtain ⟨i, hi1, rfl⟩ := bw_12 b
    refine r_leaveTold hi hb hi1 (fun τ2 q2 _ => ?_)
    have h := h τ2 q2
    rw [if_pos ⟨b, b2⟩, nI_clamp (by omega)] at h; exact h
  · have h := h τ (rq.rf τ); rwa [if_neg (fun q => b2 q.2)] at h
  · have h := h τ (rq.rf τ); rwa [if_neg (fun q => b q.1)] at h
def v_sp (σ : bk_S) (x : Int32) : Int32 := if x = -1 then (sp σ).1 else if x = 0 then (sp σ).2.1 else (sp σ).2.2
def v_spare (σ : bk_S) (x : Int32) : Int32 := if -1 ≤ x ∧ x ≤ 1 then v_sp σ x else -2
theorem sp_E {σ σ' : bk_S} (e : bs_E σ σ') : sp σ' = sp σ := by
  have h1 : sp_1 σ' = sp_1 σ := by unfold sp_1; rw [bs_ne_E e]; congr 1; funext a; rw [tp_E e]
  have h2 : ∀ a, sp_in σ' a = sp_in σ a := fun a => by unfold sp_in; rw [bs_ne_E e]; congr 1; funext b; rw [tp_E e]
  have h3 : sp_o σ' = sp_o σ := by unfold sp_o; rw [bs_ne_E e]; congr 1; funext a; rw [h2]
  unfold sp; rw [tp_E e, h1, h3, h2]
theorem pz_m11 {x : Int32} (h : -1 ≤ x ∧ x ≤ 1) : x = -1 ∨ x = 0 ∨ x = 1 := by
  obtain ⟨h1, h2⟩ := h
  rw [Int32.le_iff_toInt_le] at h1 h2
  have e1 : (-1 : Int32).toInt = -1 := by decide
  have e2 : (1 : Int32).toInt = 1 := by decide
  rw [e1] at h1; rw [e2] at h2
  rw [← Int32.toInt_inj, ← Int32.toInt_inj, ← Int32.toInt_inj, e1, e2]
  have e0 : (0 : Int32).toInt = 0 := by decide
  rw [e0]; omega
theorem sp_cases (σ : bk_S) : ((sp σ).1 = 0 ∧ (sp σ).2.1 = -1 ∧ (sp σ).2.2 = -1) ∨ ((sp σ).1 = -1 ∧ (sp σ).2.1 = -1 ∧ (sp σ).2.2 = -1) ∨ ((sp σ).1 = 1 ∧ (sp σ).2.2 = -1) ∨ (sp σ).1 = 2 := by
  unfold sp
  split
  · exact Or.inl ⟨rfl, rfl, rfl⟩
  · split
    · split
      · exact Or.inr (Or.inl ⟨rfl, rfl, rfl⟩)
      · exact Or.inr (Or.inr (Or.inr rfl))
    · exact Or.inr (Or.inr (Or.inl ⟨rfl, rfl⟩))
theorem cQ.ends {σ σ1 σ2 : bk_S} (q1 : cQ σ σ1) (f1 : fr_T σ1) (r : ∀ k, (k < 29 ∧ 0 < k) ∨ (36 ≤ k ∧ k ≤ 47) → σ2 k = σ1 k) (c : ∀ j, j ≠ 14 → σ2 0 j = σ1 0 j) (fE : fr_E σ2) : cQ σ σ2 ∧ fr_T σ2 := by
  have e : bs_E σ1 σ2 := ⟨fun k h1 h2 => r k (by omega), c 15 (by omega)⟩
  have f2 : fr_T σ2 := by
    unfold fr_T at *
    rw [tp_E e]
    refine ⟨f1.1.sub (fun k h1 h2 => r k (by omega)), ?_⟩
    have := f1.2
    unfold cr_Dn at this ⊢
    rw [r 36 (by omega), r (36 + 2) (by omega), r (36 + 3) (by omega), r (36 + 4) (by omega), r (36 + 5) (by omega), r (36 + 6) (by omega), r (36 + 7) (by omega), r (36 + 8) (by omega), r (36 + 9) (by omega), r (36 + 10) (by omega), r (36 + 11) (by omega)]
    exact this
  exact ⟨⟨q1.1.tr e, q1.2.1.E e, fun _ => f2, fun _ => fE⟩, f2⟩
theorem c_ends {σ σ1 : bk_S} {post : bk_S → Prop} (q1 : cQ σ σ1) (f1 : fr_T σ1) (h : ∀ σ2, cQ σ σ2 → fr_T σ2 → fr_E σ2 → post σ2) : w_X8_refreshEnds σ1 post :=
  c_refreshEnds q1.2.1 f1.1 q1.2.2.2 (fun σ2 r c _ fE => by
    obtain ⟨q2, f2⟩ := q1.ends f1 r c fE
    exact h σ2 q2 f2 fE)
theorem c_spareAnswer {s : Int32 × Int32 × Int32} {x : Int32} {σ : bk_S} {post : Int32 → Prop} (hR : sp_R s σ) (hx : x = -1 ∨ x = 0 ∨ x = 1) (h : post (if x = -1 then s.1 else if x = 0 then s.2.1 else s.2.2)) : w_X0_spareAnswer 60 x σ post := by
  obtain ⟨r1, r2, r3, r4⟩ := hR
  unfold w_X0_spareAnswer
  simp only [bk_lt_iff]
  rw [r1, r2]
  rcases hx with rfl | rfl | rfl
  · rw [if_pos rfl] at h
    refine ⟨fun _ => ⟨fun _ => ⟨fun h0 => ?_, fun h0 => by rw [r3 h0] at h; exact h⟩, fun e => absurd e (by decide)⟩, fun e => absurd e (by decide)⟩
    rw [r4 h0] at h
    exact ⟨fun e => by rw [if_neg e] at h; exact h, fun e => by rw [if_pos e] at h; exact h⟩
  · rw [if_neg (by decide), if_pos rfl] at h
    exact ⟨fun e => absurd rfl e, fun _ => h⟩
  · rw [if_neg (by decide), if_neg (by decide)] at h
    exact ⟨fun _ => ⟨fun e => absurd rfl e, fun _ => h⟩, fun e => absurd e (by decide)⟩
theorem cQ.ch {σ σ1 σ2 : bk_S} (q1 : cQ σ σ1) (f1 : fr_T σ1) (r : ∀ k, k ≠ 60 → σ2 k = σ1 k) : cQ σ σ2 ∧ tf_F σ1 σ2 :=
  have t : tf_F σ1 σ2 := fun k hk => r k (by omega)
  ⟨q1.t f1 t, t⟩
theorem q_spare {x : Int32} {σ : bk_S} {post : Int32 → bk_S → Prop} (hI : cI σ) (h : ∀ σ', cQ σ σ' → post (v_spare σ x) σ') : w_X8_spare x σ post := by
  unfold v_spare at h
  refine ⟨fun hlt => ?_, fun hlt => ⟨fun hle => c_fresh hI (fun σ1 q1 f1 => c_ends q1 f1 (fun σ2 q2 f2 fE => c_chooseSpared q2.2.1 f2.1 fE (fun σ3 r3 R3 => ?_))), fun hle => ?_⟩⟩
  · have h := h σ (cQ.rf hI); rwa [if_neg (fun q => absurd hlt (Int32.not_lt.mpr q.1))] at h
  · have hx : -1 ≤ x ∧ x ≤ 1 := ⟨Int32.not_lt.mp hlt, hle⟩
    have h := h σ3 (q2.ch f2 r3).1
    rw [if_pos hx] at h
    unfold v_sp at h
    rw [← sp_E q2.1] at h
    exact c_spareAnswer R3 (pz_m11 hx) h
  · have h := h σ (cQ.rf hI); rwa [if_neg (fun q => hle q.2)] at h
theorem r_ofRow {x : Int32} {σ τ : bk_S} {post : Int32 → Prop} (hx : x = -1 ∨ x = 0 ∨ x = 1) (h0 : (sp σ).1 = 1 ∨ (sp σ).1 = 2 → τ 46 0 = (sp σ).2.1) (h1 : (sp σ).1 = 2 → τ 46 1 = (sp σ).2.2) (h : post (v_sp σ x)) : w_X9_ofRow (sp σ).1 x τ post := by
  unfold w_X9_ofRow
  unfold v_sp at h
  have hv0 : vp_in 0 2 := by unfold vp_in; decide
  have hv1 : vp_in 1 2 := by unfold vp_in; decide
  rcases hx with rfl | rfl | rfl
  · rw [if_pos rfl] at h
    exact ⟨fun e => absurd rfl e, fun _ => h⟩
  · rw [if_neg (by decide), if_pos rfl] at h
    refine ⟨fun _ => ?_, fun e => absurd e (by decide)⟩
    rw [pz_clamp0]
    rcases sp_cases σ with ⟨a, b, c⟩ | ⟨a, b, c⟩ | ⟨a, c⟩ | a
    · rw [a]; rw [b] at h; exact ⟨fun _ => h, fun e => absurd (by decide) e⟩
    · rw [a]; rw [b] at h; exact ⟨fun _ => h, fun e => absurd (by decide) e⟩
    · rw [h0 (Or.inl a), a]; exact ⟨fun e => absurd e (by decide), fun _ => ⟨hv0, h⟩⟩
    · rw [h0 (Or.inr a), a]; exact ⟨fun e => absurd e (by decide), fun _ => ⟨hv0, h⟩⟩
  · rw [if_neg (by decide), if_neg (by decide)] at h
    refine ⟨fun _ => ?_, fun e => absurd e (by decide)⟩
    rw [pz_clamp1]
    rcases sp_cases σ with ⟨a, b, c⟩ | ⟨a, b, c⟩ | ⟨a, c⟩ | a
    · rw [a]; rw [c] at h; exact ⟨fun _ => h, fun e => absurd (by decide) e⟩
    · rw [a]; rw [c] at h; exact ⟨fun _ => h, fun e => absurd (by decide) e⟩
    · rw [a]; rw [c] at h; exact ⟨fun _ => h, fun e => absurd (by decide) e⟩
    · rw [h1 a, a]; exact ⟨fun e => absurd e (by decide), fun _ => ⟨hv1, h⟩⟩
theorem r_spare {x : Int32} {σ τ : bk_S} {post : Int32 → bk_S → Prop} (hi : ib σ) (hb : rb σ τ) (h : ∀ τ', rq τ τ' → post (v_spare σ x) τ') : w_X9_spare x τ post := by
  unfold v_spare at h
  refine m_in (fun b => br1 (m_spareBy hi hb (fun τ1 q1 h0 h1 => r_ofRow (pz_m11 b) h0 h1 ?_))) (fun b => br0 ?_)
  · have h := h τ1 q1; rwa [if_pos b] at h
  · have h := h τ (rq.rf τ); rwa [if_neg b] at h
theorem q_never {σ : bk_S} {post : Int32 → bk_S → Prop} (hI : cI σ) (h : ∀ σ', cQ σ σ' → post (mt_nv σ) σ') : w_X8_never σ post := by
  refine c_fresh hI (fun σ1 q1 f1 => c_eventsThatNeverWere q1.2.1 f1.1 (fun σ2 t2 => ?_))
  have h := h σ2 (q1.t f1 t2)
  have e : mt_nv σ1 = mt_nv σ := by
    unfold mt_nv; rw [bs_ne_E q1.1]; congr 1; funext i; rw [sn_E q1.1, tp_E q1.1]
  rw [e]; exact h
theorem r_never {σ τ : bk_S} {post : Int32 → bk_S → Prop} (hi : ib σ) (hb : rb σ τ) (h : ∀ τ', rq τ τ' → post (mt_nv σ) τ') : w_X9_never τ post := m_neverNow hi hb h
theorem mt_hb_E {σ σ' : bk_S} (e : bs_E σ σ') (p : bk_S) (t : Nat) : mt_hb σ' p t = mt_hb σ p t := by
  unfold mt_hb; congr 1; funext v; rw [sn_E e]
theorem mt_ss_E {σ σ' : bk_S} (e : bs_E σ σ') (p : bk_S) (t : Nat) : mt_ss σ' p t = mt_ss σ p t := by
  unfold mt_ss; congr 1; funext v; rw [sn_E e]
def v_was (σ : bk_S) (x y : Int32) : Int32 := if bw x (tpA σ 0 1) ∧ bw y 2 then (if y = 0 then mt_hb σ (tpA σ) x.toNatClampNeg else mt_ss σ (tpA σ) x.toNatClampNeg) else -2
theorem q_was {x y : Int32} {σ : bk_S} {post : Int32 → bk_S → Prop} (hI : cI σ) (h : ∀ σ', cQ σ σ' → post (v_was σ x y) σ') : w_X8_was x y σ post := by
  unfold v_was at h
  refine c_fresh hI (fun σ1 q1 f1 => ?_)
  have e : tpA σ1 = tpA σ := tp_E q1.1 tA
  rw [← e] at h
  refine c_isThing f1 (fun b => br1 (c_isBelow (fun b2 => br1' ?_) (fun b2 => br0' ?_))) (fun b => br0 ?_)
  · obtain ⟨j, hj, hj2, rfl⟩ := bw_T q1.2.1 b
    obtain ⟨k, hk, rfl⟩ := bw_2 b2
    rw [nI_clamp (by omega)] at h
    have n : ∀ i, i < 2 → (nI k = nI i ↔ k = i) := fun i hi => nI_eq (by omega) (by omega)
    rw [pz_1, n 1 (by omega)]
    refine ⟨fun e1 => c_tryHeats q1.2.1 (tp_ok q1.2.1 tA) hj f1.1 (fun σ2 t2 h61 _ => ?_), fun e1 => c_sortsThatFit q1.2.1 (tp_ok q1.2.1 tA) hj f1.1 (fun σ2 t2 _ => ?_)⟩
    · have h := h σ2 (q1.t f1 t2)
      rw [if_pos ⟨b, b2⟩, if_pos (by rw [show k = 0 by omega]; rfl)] at h
      rw [h61, mt_hb_E q1.1]; exact h
    · have h := h σ2 (q1.t f1 t2)
      rw [if_pos ⟨b, b2⟩, if_neg (by rw [e1]; decide)] at h
      rw [mt_ss_E q1.1]; exact h
  · have h := h σ1 q1; rwa [if_neg (fun q => b2 q.2)] at h
  · have h := h σ1 q1; rwa [if_neg (fun q => b q.1)] at h
theorem r_was {x y : Int32} {σ τ : bk_S} {post : Int32 → bk_S → Prop} (hi : ib σ) (hb : rb σ τ) (h : ∀ τ', rq τ τ' → post (v_was σ x y) τ') : w_X9_was x y τ post := by
  unfold v_was at h
  unfold w_X9_was
  simp only [bk_jn_iff]
  refine m_isThing hi hb (fun b τ1 q1 T1 => br1 (m_isTwo (fun b2 => br1 ?_) (fun b2 => br0 ?_))) (fun b τ1 q1 T1 => br0 ?_)
  · obtain ⟨j, hj, hj2, rfl⟩ := bw_T hi b
    rw [nI_clamp (by omega)] at h
    refine ⟨fun e1 => m_sortsBy hi (hb.q q1) hj2 (fun τ2 q2 => ?_), fun e1 => m_heatsBy hi (hb.q q1) hj2 (fun τ2 q2 _ => ?_)⟩
    · have h := h τ2 (q1.tr q2)
      rwa [if_pos ⟨b, b2⟩, if_neg e1] at h
    · have h := h τ2 (q1.tr q2)
      rwa [if_pos ⟨b, b2⟩, if_pos e1] at h
  · have h := h τ1 q1; rwa [if_neg (fun q => b2 q.2)] at h
  · have h := h τ1 q1; rwa [if_neg (fun q => b q.1)] at h
def v_askOf (σ : bk_S) (t : Nat) : Int32 := nI (mt_ak (fun e => mt_gl (mt_hb σ (tpA σ) t) (mt_hs (tpA σ) t) e 10) 11).1
def v_ask (σ : bk_S) (x : Int32) : Int32 := if bw x (tpA σ 0 1) then v_askOf σ x.toNatClampNeg else -2
theorem c_askOf {t : Nat} {σ : bk_S} {post : Int32 → bk_S → Prop} (hi : ib σ) (f : fr_T σ) (ht : t < mt_nt (tpA σ)) (h : ∀ σ', tf_F σ σ' → post (v_askOf σ t) σ') : w_X8_tryHeats (nI t) σ (fun σ3 => w_X2_eveningToAsk 61 σ3 (fun r4 => post r4 σ3)) := by
  refine c_tryHeats hi (tp_ok hi tA) ht f.1 (fun σ2 t2 h61 h62 => c_eveningToAsk ?_)
  have h := h σ2 t2
  unfold v_askOf at h
  have e : mt_ak (fun e => mt_gl (σ2 61 0) (fun o d => σ2 62 (o * 12 + d)) e 10) 11 = mt_ak (fun e => mt_gl (mt_hb σ (tpA σ) t) (mt_hs (tpA σ) t) e 10) 11 := by
    refine mt_ak_congr 11 (fun e he => ?_)
    rw [h61]
    exact mt_gl_congr (fun o h1 h2 => h62 o e h1 (by omega) (by omega)) 10 (by omega)
  rw [e]; exact h
theorem v_askOf_E {σ σ' : bk_S} (e : bs_E σ σ') (t : Nat) : v_askOf σ' t = v_askOf σ t := by
  unfold v_askOf; rw [show tpA σ' = tpA σ from tp_E e tA, mt_hb_E e]
theorem q_ask {x : Int32} {σ : bk_S} {post : Int32 → bk_S → Prop} (hI : cI σ) (h : ∀ σ', cQ σ σ' → post (v_ask σ x) σ') : w_X8_ask x σ post := by
  unfold v_ask at h
  refine c_fresh hI (fun σ1 q1 f1 => ?_)
  have e : tpA σ1 = tpA σ := tp_E q1.1 tA
  rw [← e] at h
  refine c_isThing f1 (fun b => br1' ?_) (fun b => br0' ?_)
  · obtain ⟨j, hj, hj2, rfl⟩ := bw_T q1.2.1 b
    refine c_askOf q1.2.1 f1 hj (fun σ2 t2 => ?_)
    have h := h σ2 (q1.t f1 t2)
    rw [if_pos b, nI_clamp (by omega)] at h
    rw [v_askOf_E q1.1]; exact h
  · have h := h σ1 q1; rwa [if_neg b] at h
theorem r_ask {x : Int32} {σ τ : bk_S} {post : Int32 → bk_S → Prop} (hi : ib σ) (hb : rb σ τ) (h : ∀ τ', rq τ τ' → post (v_ask σ x) τ') : w_X9_ask x τ post := by
  unfold v_ask at h
  refine m_isThing hi hb (fun b τ1 q1 T1 => br1 ?_) (fun b τ1 q1 T1 => br0 ?_)
  · obtain ⟨j, hj, hj2, rfl⟩ := bw_T hi b
    refine m_askOf hi (hb.q q1) hj2 (fun τ2 q2 => ?_)
    have h := h τ2 (q1.tr q2)
    rw [if_pos b, nI_clamp (by omega)] at h
    unfold v_askOf at h; exact h
  · have h := h τ1 q1; rwa [if_neg b] at h
