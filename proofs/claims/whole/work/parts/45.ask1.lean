/-! Questions: what each answers, of the class and of the reference. -/
abbrev bw (x n : Int32) : Prop := 0 ≤ x ∧ x < n
theorem bw_in {x : Int32} {n : Nat} (hn : n < 2 ^ 31) : bw x (nI n) ↔ ∃ j, j < n ∧ x = nI j := by
  constructor
  · rintro ⟨h0, h1⟩
    rcases pk_ix x hn with h | h | h
    · exact absurd h (Int32.not_lt.mpr h0)
    · exact absurd h (Int32.not_le.mpr h1)
    · exact h
  · rintro ⟨j, hj, rfl⟩
    exact ⟨nI_pos' (by omega), nI_lt hj hn⟩
theorem pz_pred {x : Int32} {n : Nat} (hn : n < 2 ^ 31) : (0 ≤ x ∧ x ≤ nI n - 1) ↔ bw x (nI n) := by
  show (_ ∧ _) ↔ (_ ∧ _)
  rw [Int32.le_iff_toInt_le, Int32.lt_iff_toInt_lt, Int32.le_iff_toInt_le, Int32.toInt_sub, nI_toInt hn]
  have h1 : (1 : Int32).toInt = 1 := by decide
  have h0 : (0 : Int32).toInt = 0 := by decide
  rw [h1, h0, Int.bmod_eq_of_le (by omega) (by omega)]
  omega
theorem pz_top {x : Int32} {n m : Nat} (hm : m + 1 = n) (hn : n < 2 ^ 31) : (0 ≤ x ∧ x ≤ nI m) ↔ bw x (nI n) := by
  show (_ ∧ _) ↔ (_ ∧ _)
  rw [Int32.le_iff_toInt_le, Int32.lt_iff_toInt_lt, Int32.le_iff_toInt_le, nI_toInt hn, nI_toInt (by omega)]
  have h0 : (0 : Int32).toInt = 0 := by decide
  rw [h0]; omega
theorem c_isBelow {x n : Int32} {post : Int32 → Prop} (h1 : bw x n → post 1) (h0 : ¬ bw x n → post 0) : w_X8_isBelow x n post := by
  unfold w_X8_isBelow
  simp only [bk_jn_iff]
  exact ⟨fun h => h0 (fun q => absurd h (Int32.not_lt.mpr q.1)), fun h => ⟨fun h' => h0 (fun q => absurd h' (Int32.not_le.mpr q.2)), fun h' => h1 ⟨Int32.not_lt.mp h, Int32.not_le.mp h'⟩⟩⟩
theorem c_isBelowB {x n : Int32} {post : Int32 → Prop} (h1 : bw x n → post 1) (h0 : ¬ bw x n → post 0) : w_X8_isBelow x n (fun r1 => narrow .boolean (.int r1) = .int r1 ∧ post r1) := c_isBelow (fun h => ⟨nar_1, h1 h⟩) (fun h => ⟨nar_0, h0 h⟩)
theorem c_isText {x : Int32} {post : Int32 → Prop} (h1 : bw x 2 → post 1) (h0 : ¬ bw x 2 → post 0) : w_X8_isText x post := c_isBelowB h1 h0
theorem c_isEvening {x : Int32} {post : Int32 → Prop} (h1 : bw x 12 → post 1) (h0 : ¬ bw x 12 → post 0) : w_X8_isEvening x post := c_isBelowB h1 h0
theorem c_isSheet {x : Int32} {post : Int32 → Prop} (h1 : bw x 4 → post 1) (h0 : ¬ bw x 4 → post 0) : w_X8_isSheet x post := c_isBelowB h1 h0
theorem m_inB {x lo hi n : Int32} {post : Int32 → Prop} (e : (lo ≤ x ∧ x ≤ hi) ↔ bw x n) (h1 : bw x n → post 1) (h0 : ¬ bw x n → post 0) : w_X9_in x lo hi post := m_in (fun h => h1 (e.mp h)) (fun h => h0 (fun q => h (e.mpr q)))
theorem m_inC {x lo hi n : Int32} {post : Int32 → Prop} (e : (lo ≤ x ∧ x ≤ hi) ↔ bw x n) (h1 : bw x n → post 1) (h0 : ¬ bw x n → post 0) : w_X9_in x lo hi (fun r1 => narrow .boolean (.int r1) = .int r1 ∧ post r1) := m_inB e (fun h => ⟨nar_1, h1 h⟩) (fun h => ⟨nar_0, h0 h⟩)
theorem m_isTwo {x : Int32} {post : Int32 → Prop} (h1 : bw x 2 → post 1) (h0 : ¬ bw x 2 → post 0) : w_X9_isTwo x post := m_inC (pz_top (n := 2) (m := 1) rfl (by omega)) h1 h0
theorem m_isThree {x : Int32} {post : Int32 → Prop} (h1 : bw x 3 → post 1) (h0 : ¬ bw x 3 → post 0) : w_X9_isThree x post := m_inC (pz_top (n := 3) (m := 2) rfl (by omega)) h1 h0
theorem m_isTwelve {x : Int32} {post : Int32 → Prop} (h1 : bw x 12 → post 1) (h0 : ¬ bw x 12 → post 0) : w_X9_isTwelve x post := m_inC (pz_top (n := 12) (m := 11) rfl (by omega)) h1 h0
theorem m_isSheet {x : Int32} {post : Int32 → Prop} (h1 : bw x 4 → post 1) (h0 : ¬ bw x 4 → post 0) : w_X9_isSheet x post := m_inC (pz_top (n := 4) (m := 3) rfl (by omega)) h1 h0
abbrev tpA (σ : bk_S) : bk_S := tp σ tA
theorem m_isThing {x : Int32} {σ τ : bk_S} {post : Int32 → bk_S → Prop} (hi : ib σ) (hb : rb σ τ) (h1 : bw x (tpA σ 0 1) → ∀ τ', rq τ τ' → rd_T σ τ' → post 1 τ') (h0 : ¬ bw x (tpA σ 0 1) → ∀ τ', rq τ τ' → rd_T σ τ' → post 0 τ') : w_X9_isThing x τ post := by
  have hN := (tx_tN_le (f := σ 4) hi.2.1.1).1
  unfold w_X9_isThing
  refine m_reads hi hb (fun τ1 F1 T1 => ?_)
  rw [T1.2.1]
  exact m_inC (pz_pred (by omega)) (fun h => h1 h τ1 F1.q T1) (fun h => h0 h τ1 F1.q T1)
theorem m_isHook {x : Int32} {σ τ : bk_S} {post : Int32 → bk_S → Prop} (hi : ib σ) (hb : rb σ τ) (h1 : bw x (tpA σ 0 0) → ∀ τ', rq τ τ' → rd_T σ τ' → post 1 τ') (h0 : ¬ bw x (tpA σ 0 0) → ∀ τ', rq τ τ' → rd_T σ τ' → post 0 τ') : w_X9_isHook x τ post := by
  have hN := tx_hN_le (n := bs_n0 σ) (f := σ 2)
  have := hi.1.1
  unfold w_X9_isHook
  refine m_reads hi hb (fun τ1 F1 T1 => ?_)
  rw [T1.1]
  exact m_inC (pz_pred (by omega)) (fun h => h1 h τ1 F1.q T1) (fun h => h0 h τ1 F1.q T1)
theorem bw_T {x : Int32} {σ : bk_S} (hi : ib σ) (h : bw x (tpA σ 0 1)) : ∃ j, j < mt_nt (tpA σ) ∧ j < 8 ∧ x = nI j := by
  have hp := (tp_ok hi tA).nt
  have h : bw x (tp σ tA 0 1) := h
  rw [hp.1] at h
  obtain ⟨j, hj, e⟩ := (bw_in (by omega)).mp h
  exact ⟨j, hj, by omega, e⟩
theorem bw_H {x : Int32} {σ : bk_S} (hi : ib σ) (h : bw x (tpA σ 0 0)) : ∃ j, j < mt_nh (tpA σ) ∧ j < 12 ∧ x = nI j := by
  have hp := (tp_ok hi tA).nh
  have h : bw x (tp σ tA 0 0) := h
  rw [hp.1] at h
  obtain ⟨j, hj, e⟩ := (bw_in (by omega)).mp h
  exact ⟨j, hj, by omega, e⟩
theorem bw_12 {x : Int32} (h : bw x 12) : ∃ j, j < 12 ∧ x = nI j := (bw_in (n := 12) (by omega)).mp h
theorem bw_4 {x : Int32} (h : bw x 4) : ∃ j, j < 4 ∧ x = nI j := (bw_in (n := 4) (by omega)).mp h
theorem bw_2 {x : Int32} (h : bw x 2) : ∃ j, j < 2 ∧ x = nI j := (bw_in (n := 2) (by omega)).mp h
theorem bw_3 {x : Int32} (h : bw x 3) : ∃ j, j < 3 ∧ x = nI j := (bw_in (n := 3) (by omega)).mp h
/-- the class's state is as it may be -/
def cI (σ : bk_S) : Prop := ib σ ∧ c_T σ ∧ c_E σ
def cQ (σ σ' : bk_S) : Prop := bs_E σ σ' ∧ cI σ'
theorem cQ.rf {σ : bk_S} (h : cI σ) : cQ σ σ := ⟨bs_E.rf σ, h⟩
theorem cQ.tr {a b c : bk_S} (h : cQ a b) (h' : cQ b c) : cQ a c := ⟨h.1.tr h'.1, h'.2⟩
theorem c_E.same {σ σ' : bk_S} (h : c_E σ) (e : bs_E σ σ') (h14 : σ' 0 14 = σ 0 14) (h64 : σ' 64 = σ 64) : c_E σ' := by
  unfold c_E at *
  rw [h14, h64, bs_ne_E e]
  intro q w hw
  rw [tp_E e, tp_E e]; exact h q w hw
theorem c_fresh {σ : bk_S} {post : bk_S → Prop} (hI : cI σ) (h : ∀ σ', cQ σ σ' → fr_T σ' → post σ') : w_X8_refresh σ post :=
  c_refresh hI.1 hI.2.1 (fun σ' e h13 h14 h64 f => h σ' ⟨e, hI.1.E e, fun _ => f, hI.2.2.same e h14 h64⟩ f)
theorem cQ.t {σ σ1 σ2 : bk_S} (h : cQ σ σ1) (f : fr_T σ1) (t : tf_F σ1 σ2) : cQ σ σ2 :=
  ⟨h.1.tr t.E, h.2.1.E t.E, fun _ => f.t t, h.2.2.2.same t.E (by rw [t 0 (by omega)]) (t 64 (by omega))⟩
theorem fr_T.c0 {σ : bk_S} (h : fr_T σ) : σ 22 0 = tpA σ 0 0 := h.1.1
theorem fr_T.c1 {σ : bk_S} (h : fr_T σ) : σ 22 1 = tpA σ 0 1 := h.1.2.1
theorem c_isThing {x : Int32} {σ : bk_S} {post : Int32 → Prop} (f : fr_T σ) (h1 : bw x (tpA σ 0 1) → post 1) (h0 : ¬ bw x (tpA σ 0 1) → post 0) : w_X8_isThing x σ post := by
  unfold w_X8_isThing; rw [f.c1]; exact c_isBelowB h1 h0
theorem c_isHook {x : Int32} {σ : bk_S} {post : Int32 → Prop} (f : fr_T σ) (h1 : bw x (tpA σ 0 0) → post 1) (h0 : ¬ bw x (tpA σ 0 0) → post 0) : w_X8_isHook x σ post := by
  unfold w_X8_isHook; rw [f.c0]; exact c_isBelowB h1 h0
theorem z10 : ¬ (1 : Int32) = 0 := by decide
theorem br1 {A B : Prop} (h : A) : ((1 : Int32) = 0 → B) ∧ (¬ (1 : Int32) = 0 → A) := ⟨fun q => absurd q z10, fun _ => h⟩
theorem br1' {A B : Prop} (h : A) : (¬ (1 : Int32) = 0 → A) ∧ ((1 : Int32) = 0 → B) := ⟨fun _ => h, fun q => absurd q z10⟩
theorem br0 {A B : Prop} (h : B) : ((0 : Int32) = 0 → B) ∧ (¬ (0 : Int32) = 0 → A) := ⟨fun _ => h, fun q => absurd rfl q⟩
theorem br0' {A B : Prop} (h : B) : (¬ (0 : Int32) = 0 → A) ∧ ((0 : Int32) = 0 → B) := ⟨fun q => absurd rfl q, fun _ => h⟩
-- faults
def v_fault (σ : bk_S) (x : Int32) : Int32 := if bw x 2 then (if x = 0 then tx_hF (bs_n0 σ) (σ 2) else tx_tF (bs_n1 σ) (σ 4)) else -2
theorem q_fault {x : Int32} {σ : bk_S} {post : Int32 → Prop} (hi : ib σ) (h : post (v_fault σ x)) : w_X8_fault x σ post := by
  unfold v_fault at h
  have := hi.1.1
  refine c_isText (fun b => br1' ⟨fun hx => c_faultOfThings (n := bs_n1 σ) hi.2.1.1 hi.2.1.2 ?_, fun hx => c_faultOfHooks (n := bs_n0 σ) (by omega) hi.1.2 ?_⟩) (fun b => br0' ?_)
  · rwa [if_pos b, if_neg hx] at h
  · rwa [if_pos b, if_pos hx] at h
  · rwa [if_neg b] at h
theorem r_fault {x : Int32} {σ τ : bk_S} {post : Int32 → bk_S → Prop} (hi : ib σ) (hb : rb σ τ) (h : ∀ τ', rq τ τ' → post (v_fault σ x) τ') : w_X9_fault x τ post := by
  unfold v_fault at h
  refine m_isTwo (fun b => br1 (m_faultOf hi hb (fun τ' F _ => ?_))) (fun b => br0 ?_)
  · have := h τ' F.q; rwa [if_pos b] at this
  · have := h τ (rq.rf τ); rwa [if_neg b] at this
-- a hook, a thing
def v_hook (σ : bk_S) (x : Int32) : Int32 := if bw x (tpA σ 0 0) then tpA σ 1 x.toNatClampNeg else -2
theorem q_hook {x : Int32} {σ : bk_S} {post : Int32 → bk_S → Prop} (hI : cI σ) (h : ∀ σ', cQ σ σ' → post (v_hook σ x) σ') : w_X8_hook x σ post := by
  refine c_fresh hI (fun σ1 q1 f1 => ?_)
  have h := h σ1 q1
  have e : tpA σ1 = tpA σ := tp_E q1.1 tA
  unfold v_hook at h
  rw [← e] at h
  refine c_isHook f1 (fun b => br1 ?_) (fun b => br0 ?_)
  · rw [if_pos b] at h
    obtain ⟨j, hj, hj2, rfl⟩ := bw_H q1.2.1 b
    rw [nI_clamp (by omega)] at h ⊢
    exact ⟨(pz_in (by omega)).mpr hj2, by rw [f1.1.2.2.1 j hj]; exact h⟩
  · rwa [if_neg b] at h
theorem r_hook {x : Int32} {σ τ : bk_S} {post : Int32 → bk_S → Prop} (hi : ib σ) (hb : rb σ τ) (h : ∀ τ', rq τ τ' → post (v_hook σ x) τ') : w_X9_hook x τ post := by
  unfold v_hook at h
  refine m_isHook hi hb (fun b τ1 q1 T1 => br1 ?_) (fun b τ1 q1 T1 => br0 ?_)
  · have h := h τ1 q1
    rw [if_pos b] at h
    obtain ⟨j, hj, hj2, rfl⟩ := bw_H hi b
    rw [tp_nh hi] at hj
    rw [nI_clamp (by omega)] at h ⊢
    exact ⟨(pz_in (by omega)).mpr hj2, by rw [T1.2.2.1 j hj]; exact h⟩
  · have h := h τ1 q1; rwa [if_neg b] at h
def v_thing (σ : bk_S) (x y : Int32) : Int32 := if bw x (tpA σ 0 1) ∧ bw y 3 then (if y = 0 then tpA σ 2 x.toNatClampNeg else if y = 1 then tpA σ 3 x.toNatClampNeg else tpA σ 4 x.toNatClampNeg) else -2
theorem q_thing {x y : Int32} {σ : bk_S} {post : Int32 → bk_S → Prop} (hI : cI σ) (h : ∀ σ', cQ σ σ' → post (v_thing σ x y) σ') : w_X8_thing x y σ post := by
  refine c_fresh hI (fun σ1 q1 f1 => ?_)
  have h := h σ1 q1
  have e : tpA σ1 = tpA σ := tp_E q1.1 tA
  unfold v_thing at h
  rw [← e] at h
  refine c_isThing f1 (fun b => br1 (c_isBelow (fun b2 => br1' ?_) (fun b2 => br0' ?_))) (fun b => br0 ?_)
  · rw [if_pos ⟨b, b2⟩] at h
    obtain ⟨j, hj, hj2, rfl⟩ := bw_T q1.2.1 b
    rw [nI_clamp (by omega)] at h ⊢
    have hv : vp_in (nI j) 8 := (pz_in (by omega)).mpr hj2
    rw [f1.1.2.2.2.1 j hj, f1.1.2.2.2.2.1 j hj, f1.1.2.2.2.2.2.1 j hj]
    refine ⟨fun y0 => ⟨fun y1 => ⟨hv, ?_⟩, fun y1 => ⟨hv, ?_⟩⟩, fun y0 => ⟨hv, ?_⟩⟩
    · rwa [if_neg y0, if_neg y1] at h
    · rwa [if_neg y0, if_pos y1] at h
    · rwa [if_pos y0] at h
  · rwa [if_neg (fun q => b2 q.2)] at h
  · rwa [if_neg (fun q => b q.1)] at h
theorem r_thingOf {j : Nat} {y : Int32} {σ τ : bk_S} {post : Int32 → Prop} (hi : ib σ) (T : rd_T σ τ) (hj : j < mt_nt (tpA σ)) (h : post (if y = 0 then tpA σ 2 j else if y = 1 then tpA σ 3 j else tpA σ 4 j)) : w_X9_thingOf (nI j) y τ post := by
  have hnt := (tp_ok hi tA).nt.2
  have hj2 : j < 8 := Nat.lt_of_lt_of_le hj hnt
  unfold w_X9_thingOf
  rw [tp_nt hi] at hj
  rw [nI_clamp (by omega)]
  obtain ⟨t1, t2, t3⟩ := T.2.2.2 j hj
  rw [t1, t2, t3]
  have hv : vp_in (nI j) 9 := (pz_in (by omega)).mpr (by omega)
  refine ⟨fun y0 => ⟨fun y1 => ⟨hv, ?_⟩, fun y1 => ⟨hv, ?_⟩⟩, fun y0 => ⟨hv, ?_⟩⟩
  · rw [if_neg y0, if_neg y1] at h; exact h
  · rw [if_neg y0, if_pos y1] at h; exact h
  · rw [if_pos y0] at h; exact h
theorem r_thing {x y : Int32} {σ τ : bk_S} {post : Int32 → bk_S → Prop} (hi : ib σ) (hb : rb σ τ) (h : ∀ τ', rq τ τ' → post (v_thing σ x y) τ') : w_X9_thing x y τ post := by
  unfold v_thing at h
  unfold w_X9_thing
  simp only [bk_jn_iff]
  refine m_isThing hi hb (fun b τ1 q1 T1 => br1 (m_isThree (fun b2 => br1 ?_) (fun b2 => br0 ?_))) (fun b τ1 q1 T1 => br0 ?_)
  · have h := h τ1 q1
    rw [if_pos ⟨b, b2⟩] at h
    obtain ⟨j, hj, hj2, rfl⟩ := bw_T hi b
    rw [nI_clamp (by omega)] at h
    exact r_thingOf hi T1 hj h
  · have h := h τ1 q1; rwa [if_neg (fun q => b2 q.2)] at h
  · have h := h τ1 q1; rwa [if_neg (fun q => b q.1)] at h
