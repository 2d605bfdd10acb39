/-! Steps: what was said is written on a sheet; a stretch is copied. -/
def sm (v : Int32) : Prop := v = -1 ∨ ∃ j, j ≤ 9 ∧ v = nI j
theorem kp_sm {f v : Int32} (h : sm v) : kp f v = v := by
  have key : ∀ j : Nat, j < 10 → ((Int32.toInt8 (nI j)).toInt32 = nI j ∧ (Int32.toInt16 (nI j)).toInt32 = nI j) := by decide +kernel
  have k1 : (Int32.toInt8 (-1)).toInt32 = -1 ∧ (Int32.toInt16 (-1)).toInt32 = -1 := by decide
  have : (Int32.toInt8 v).toInt32 = v ∧ (Int32.toInt16 v).toInt32 = v := by
    rcases h with rfl | ⟨j, hj, rfl⟩
    · exact k1
    · exact key j (by omega)
  unfold kp
  rw [this.1, this.2]
  split
  · rfl
  · split <;> rfl
def sg4 (G : bk_S) : Prop := ∀ h, sm (G 4 h)
theorem mt_ch_sm {p : bk_S} (hp : mt_ok p) (se : Nat → Int32) (h : Int32) : sm (mt_ch p se h) := by
  have hnt := hp.nt.2
  rcases mt_ch_spec p se h hnt with ⟨j, hj, e, _⟩ | ⟨e, _⟩ | ⟨e, _⟩
  · exact Or.inr ⟨j, by omega, e⟩
  · exact Or.inr ⟨8, by omega, e⟩
  · exact Or.inr ⟨9, by omega, e⟩
theorem mt_sy_4 (p : bk_S) (e h k : Nat) (last : Bool) (G : bk_S) : mt_sy p e h k last G 4 = G 4 := by
  unfold mt_sy
  split
  · rw [bk_u_row _ (by omega), bk_u_row _ (by omega), bk_u_row _ (by omega), bk_u_row _ (by omega), bk_u_row _ (by omega)]
  · rw [bk_u_row _ (by omega), bk_u_row _ (by omega), bk_u_row _ (by omega)]
theorem mt_mn_sg {p : bk_S} (hp : mt_ok p) (e h : Nat) (last : Bool) {G : bk_S} (g : sg4 G) : sg4 (mt_mn p e h last G) := by
  intro i
  have e4 : mt_mn p e h last G 4 = mt_m1 h (mt_ch p (G 1) (nI h)) G 4 := by
    unfold mt_mn mt_m2
    split
    · rw [bk_u_row _ (by omega)]
    · split
      · rw [bk_u_row _ (by omega)]
      · rw [mt_sy_4]
  rw [e4]
  unfold mt_m1
  rw [bk_u_at]
  split
  · exact mt_ch_sm hp _ _
  · rw [bk_u_row _ (by omega)]; exact g i
theorem mt_it_sg {f : bk_S → bk_S} (hf : ∀ G, sg4 G → sg4 (f G)) : ∀ n G, sg4 G → sg4 (mt_it f n G)
  | 0, _, g => g
  | n + 1, G, g => hf _ (mt_it_sg hf n G g)
theorem mt_hk_sg {p : bk_S} (hp : mt_ok p) (e : Nat) (lf : Bool) (h : Nat) {G : bk_S} (g : sg4 G) : sg4 (mt_hk p e lf h G) := by
  unfold mt_hk
  split
  · exact mt_it_sg (fun G g => mt_mn_sg hp e h _ g) _ _ g
  · exact g
theorem mt_ds_sg {p : bk_S} (hp : mt_ok p) (e : Nat) (lf : Bool) : ∀ n G, sg4 G → sg4 (mt_ds p e lf n G)
  | 0, _, g => g
  | n + 1, G, g => mt_hk_sg hp e lf n (mt_ds_sg hp e lf n G g)
theorem mt_ev_sg {p : bk_S} (hp : mt_ok p) (e : Nat) : sg4 (mt_ev p e) := by
  have g0 : sg4 (mt_fr p e (mt_rs (mt_st p e))) := by
    intro i
    have : mt_fr p e (mt_rs (mt_st p e)) 4 = fun _ => -1 := by
      have r : mt_rs (mt_st p e) 4 = fun _ => -1 := by
        unfold mt_rs
        rw [bk_w_n _ _ (by omega)]
        funext j
        rw [bk_w_at, if_pos rfl]
      unfold mt_fr
      split
      · exact r
      · unfold mt_hu; rw [bk_w_n _ _ (by omega)]; exact r
    rw [this]; exact Or.inl rfl
  unfold mt_ev mt_en mt_dd
  split
  · exact mt_ds_sg hp e true _ _ (mt_ds_sg hp e false _ _ g0)
  · exact g0
def wC (σ : bk_S) (s : Nat) (g : Nat → Int32) : Nat → bk_S
  | 0 => σ
  | k + 1 => bk_u (wC σ s g k) (14 + 2 * s + 1) k (g k)
def wR (τ : bk_S) (s : Nat) (g : Nat → Int32) : Nat → bk_S
  | 0 => τ
  | k + 1 => bk_u (wR τ s g k) 55 (60 * s + k) (g k)
theorem wC_row (σ : bk_S) (s : Nat) (g : Nat → Int32) {r : Nat} (hr : r ≠ 14 + 2 * s + 1) : ∀ k, wC σ s g k r = σ r
  | 0 => rfl
  | k + 1 => by rw [wC, bk_u_row _ hr]; exact wC_row σ s g hr k
theorem wR_row (τ : bk_S) (s : Nat) (g : Nat → Int32) {r : Nat} (hr : r ≠ 55) : ∀ k, wR τ s g k r = τ r
  | 0 => rfl
  | k + 1 => by rw [wR, bk_u_row _ hr]; exact wR_row τ s g hr k
theorem wK_ok {σ τ : bk_S} {s n : Nat} {g : Nat → Int32} (h : RR σ τ) (hs : s < 4) (hn : n ≤ 60) (e1 : σ (14 + 2 * s) 1 = nI n) (e2 : ¬ τ 52 s = 0) : ∀ k, k ≤ 60 → RR (wC σ s g k) (wR τ s g k)
  | 0, _ => h
  | k + 1, hk => it_ok (wK_ok h hs hn e1 e2 k (by omega)) hs (by omega) hn (by rw [wC_row _ _ _ (by omega)]; exact e1) (by rw [wR_row _ _ _ (by omega)]; exact e2) _
theorem s_write {x y : Int32} {σ τ : bk_S} (h : RR σ τ) : stp (w_X8_write x y σ) (w_X9_write x y τ) := by
  by_cases b : bw x 12
  · by_cases b2 : bw y 4
    · obtain ⟨e, he, rfl⟩ := bw_12 b
      obtain ⟨s, hs, rfl⟩ := bw_4 b2
      have cl : (nI s).toNatClampNeg = s := nI_clamp (by omega)
      rcases sh_case h hs with ⟨e1, e2⟩ | ⟨n, hn, e1, e2, e3, e4, e5⟩
      · refine stp.fd (v := 1) (r := -10 - 1) h (fun P hP => c_isEvening (fun _ => br1 (c_isSheet (fun _ => br1' ⟨vp4 hs, ?_⟩) (fun q => absurd b2 q))) (fun q => absurd b q)) (fun Q hQ => m_isTwelve (fun _ => br1 (m_isSheet (fun _ => br1' ⟨vp4 hs, ?_⟩) (fun q => absurd b2 q))) (fun q => absurd b q))
        · rw [cl]; exact c_lost e1 (br1 hP)
        · rw [cl]; exact ⟨fun q => absurd e2 q, fun _ => hQ⟩
      · have hnh : mt_nh (tpA σ) ≤ 12 := (tp_ok h.1.1 tA).nh.2
        intro P hP
        refine c_isEvening (fun _ => br1 (c_isSheet (fun _ => br1' ⟨vp4 hs, ?_⟩) (fun q => absurd b2 q))) (fun q => absurd b q)
        rw [cl]
        refine c_there hn e1 (br0 (c_fresh h.1 (fun σ1 q1 f1 => ?_)))
        simp only [bk_lt_iff]
        have et : tpA σ1 = tpA σ := tp_E q1.1 tA
        have y1 : σ1 (14 + 2 * s) 1 = nI n := by rw [q1.1.1 (14 + 2 * s) (by omega) (by omega)]; exact e1
        have y0 : σ1 22 0 = nI (mt_nh (tpA σ)) := by rw [f1.c0, et]; exact (tp_ok h.1.1 tA).nh.1
        have v6 : (if σ1 22 0 < σ1 (14 + 2 * s) 1 then σ1 22 0 else σ1 (14 + 2 * s) 1) = nI (min (mt_nh (tpA σ)) n) := by
          rw [y0, y1]
          by_cases q : mt_nh (tpA σ) < n
          · rw [if_pos (nI_lt q (by omega)), Nat.min_eq_left (by omega)]
          · rw [if_neg (nI_nlt (by omega) (by omega)), Nat.min_eq_right (by omega)]
        rw [v6]
        have gl : ∀ i, i < 12 → σ1 43 (e * 12 + i) = mt_ev (tpA σ) e 4 i := fun i hi => by rw [← et]; exact f1.2.2.2.1 e i he hi
        have R1 : RR σ1 τ := ⟨q1.2, h.2.E q1.1⟩
        generalize hM : min (mt_nh (tpA σ)) n = M
        have hM1 : M ≤ mt_nh (tpA σ) ∧ M ≤ n ∧ (M = mt_nh (tpA σ) ∨ M = n) := by omega
        refine bk_loop_up M (fun i (_ : Unit) => (nI i, wC σ1 s (mt_ev (tpA σ) e 4) i)) (fun _ _ => True) (i0 := 0) (b0 := ()) rfl (Nat.zero_le _) trivial ?_ ?_
        · intro i _ K hi _ hK
          have hK := hK () trivial
          have e12 : nI e * 12 + nI i = nI (e * 12 + i) := by rw [pz_12, pz_mulr, nI_add]
          simp only [nI_1, e12, nI_clamp (show i < 2 ^ 31 by omega), nI_clamp (show e * 12 + i < 2 ^ 31 by omega)]
          refine ⟨fun hle => absurd ((nI_leI (by omega) (by omega)).mp hle) (by omega), fun _ => ⟨(pz_in (by omega)).mpr (by omega), (pz_in (by omega)).mpr (by omega), ?_⟩⟩
          rw [wC_row _ _ _ (r := 36 + 7) (by omega), gl i (by omega)]; exact hK
        · intro _ K _
          refine ⟨fun _ => hP _ _ (wK_ok R1 hs hn y1 e2 M (by omega)).1 (fun Q hQ => ?_), fun q => absurd ((nI_leI (by omega) (by omega)).mpr (Nat.le_refl _)) q⟩
          refine m_isTwelve (fun _ => br1 (m_isSheet (fun _ => br1' ⟨vp4 hs, ?_⟩) (fun q => absurd b2 q))) (fun q => absurd b q)
          rw [cl]
          refine ⟨fun _ => m_runsTold h.1.1 h.2 (fun τ1 r1 a1 D1 => ?_), fun q => absurd q e2⟩
          have R2 : RR σ1 τ1 := ⟨q1.2, (h.2.E q1.1).q r1⟩
          have e2' : ¬ τ1 52 s = 0 := by rw [r1.1 52 (by omega)]; exact e2
          have e4' : τ1 54 s = nI n := by rw [r1.1 54 (by omega)]; exact e4
          have n02 : τ1 0 2 = nI (mt_nh (tpA σ)) := by rw [show mt_nh (tpA σ) = _ from tp_nh h.1.1 tA]; exact a1.1.1
          have g40 : ∀ i, i < 12 → τ1 40 (12 * e + i) = mt_ev (tpA σ) e 4 i := fun i hi => D1.1.1 e i he hi
          simp only [bk_lt_iff]
          refine bk_loop_up M (fun i (_ : Unit) => (nI i, wR τ1 s (mt_ev (tpA σ) e 4) i)) (fun _ _ => True) (i0 := 0) (b0 := ()) rfl (Nat.zero_le _) trivial ?_ ?_
          · intro i _ K2 hi _ hK2
            have hK2 := hK2 () trivial
            have e12 : (12 : Int32) * nI e + nI i = nI (12 * e + i) := by rw [pz_12, pz_mulr, nI_add]
            simp only [nI_1, e12, nI_clamp (show 12 * e + i < 2 ^ 31 by omega)]
            rw [wR_row _ _ _ (r := 54) (by omega), wR_row _ _ _ (r := 0) (by omega), wR_row _ _ _ (r := 40) (by omega), e4', n02, g40 i (by omega)]
            refine ⟨vp4 hs, fun hle => absurd ((nI_leI (by omega) (by omega)).mp hle) (by omega), fun _ => ⟨fun hle => absurd ((nI_leI (by omega) (by omega)).mp hle) (by omega), fun _ => ⟨(pz_in (by omega)).mpr (by omega), m_keep hs (by omega) ?_⟩⟩⟩
            rw [kp_sm (mt_ev_sg (tp_ok h.1.1 tA) e i)]; exact hK2
          · intro _ K2 _
            have fin := hQ _ (wK_ok R2 hs hn y1 e2' M (g := mt_ev (tpA σ) e 4) (by omega)).2
            show vp_in (nI s) 4 ∧ (wR τ1 s (mt_ev (tpA σ) e 4) M 54 s ≤ nI M → _) ∧ (¬ wR τ1 s (mt_ev (tpA σ) e 4) M 54 s ≤ nI M → (wR τ1 s (mt_ev (tpA σ) e 4) M 0 2 ≤ nI M → _) ∧ (¬ wR τ1 s (mt_ev (tpA σ) e 4) M 0 2 ≤ nI M → _))
            refine ⟨vp4 hs, fun _ => fin, fun q => ⟨fun _ => fin, fun q2 => ?_⟩⟩
            rw [wR_row _ _ _ (r := 54) (by omega), e4'] at q
            rw [wR_row _ _ _ (r := 0) (by omega), n02] at q2
            rcases hM1.2.2 with w | w
            · exact absurd ((nI_leI (by omega) (by omega)).mpr (by omega)) q2
            · exact absurd ((nI_leI (by omega) (by omega)).mpr (by omega)) q
    · exact stp.no (v := -2) h (fun P hP => c_isEvening (fun _ => br1 (c_isSheet (fun q => absurd q b2) (fun _ => br0' hP))) (fun q => absurd b q)) (fun Q hQ => m_isTwelve (fun _ => br1 (m_isSheet (fun q => absurd q b2) (fun _ => br0' hQ))) (fun q => absurd b q))
  · exact stp.no (v := -2) h (fun P hP => c_isEvening (fun q => absurd q b) (fun _ => br0 hP)) (fun Q hQ => m_isTwelve (fun q => absurd q b) (fun _ => br0 hQ))
