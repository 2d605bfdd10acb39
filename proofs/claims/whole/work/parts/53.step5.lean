/-! Steps: an item is put or got. -/
theorem c_findingAt {b n : Nat} {y z : Int32} {σ : bk_S} {post : Int32 → Prop} (hn : n ≤ 60) (e : σ b 1 = nI n) (h3 : ¬ σ b 0 = y → post 3) (h2 : σ b 0 = y → ¬ bw z (nI n) → post 2) (h0 : σ b 0 = y → bw z (nI n) → post 0) : w_X5_findingAt b y z σ post := by
  refine c_there hn e (br0 ⟨fun q => ?_, h3⟩)
  rw [e]
  exact c_isBelow (fun q2 => br1 (h0 q q2)) (fun q2 => br0 (h2 q q2))
theorem m_lacks {s n : Nat} {y z f : Int32} {τ : bk_S} {post : Int32 → Prop} (hs : s < 4) (hn : n ≤ 60) (e1 : ¬ τ 52 s = 0) (e2 : τ 53 s = f) (e3 : τ 54 s = nI n) (h3 : ¬ f = y → post 3) (h2 : f = y → ¬ bw z (nI n) → post 2) (h0 : f = y → bw z (nI n) → post 0) : w_X9_lacks (nI s) y z τ post := by
  unfold w_X9_lacks
  rw [nI_clamp (by omega), e2, e3]
  exact ⟨vp4 hs, fun _ => ⟨vp4 hs, fun q => ⟨vp4 hs, m_inB (pz_pred (by omega)) (fun q2 => br1 (h0 q q2)) (fun q2 => br0 (h2 q q2))⟩, h3⟩, fun q => absurd q e1⟩
theorem m_lacks1 {s : Nat} {y z : Int32} {τ : bk_S} {post : Int32 → Prop} (hs : s < 4) (e1 : τ 52 s = 0) (h : post 1) : w_X9_lacks (nI s) y z τ post := by
  unfold w_X9_lacks
  rw [nI_clamp (by omega)]
  exact ⟨vp4 hs, fun q => absurd e1 q, fun _ => h⟩
def kp (f x : Int32) : Int32 := if f = 0 then (Int32.toInt8 x).toInt32 else if f = 1 then (Int32.toInt16 x).toInt32 else x
theorem m_keep {s j : Nat} {x : Int32} {τ : bk_S} {post : bk_S → Prop} (hs : s < 4) (hj : j < 60) (h : post (bk_u τ 55 (60 * s + j) (kp (τ 53 s) x))) : w_X9_keep (nI s) (nI j) x τ post := by
  have e60 : (60 : Int32) * nI s + nI j = nI (60 * s + j) := by rw [pz_60, pz_mulr, nI_add]
  unfold w_X9_keep
  simp only [bk_lt_iff, bk_jn_iff]
  rw [e60, nI_clamp (show s < 2 ^ 31 by omega), nI_clamp (by omega)]
  have hv : vp_in (nI (60 * s + j)) 240 := (pz_in (by omega)).mpr (by omega)
  unfold kp at h
  refine ⟨vp4 hs, fun n0 => ⟨vp4 hs, fun n1 => ⟨hv, ?_⟩, fun n1 => ⟨hv, ?_⟩⟩, fun n0 => ⟨hv, ?_⟩⟩
  · rwa [if_neg n0, if_neg n1] at h
  · rwa [if_neg n0, if_pos n1] at h
  · rwa [if_pos n0] at h
theorem c_low {b : Nat} {x : Int32} {σ : bk_S} {post : Int32 → Prop} (h : post (kp (σ b 0) x)) : w_X5_lowestBits b x σ post := by
  unfold w_X5_lowestBits
  unfold kp at h
  refine ⟨fun n0 => ⟨fun n1 => ?_, fun n1 => ?_⟩, fun n0 => ?_⟩
  · rwa [if_neg n0, if_neg n1] at h
  · rwa [if_neg n0, if_pos n1] at h
  · rwa [if_pos n0] at h
/-- one item of a sheet is set -/
theorem it_ok {σ τ : bk_S} {s j n : Nat} (h : RR σ τ) (hs : s < 4) (hj : j < 60) (hn : n ≤ 60) (e1 : σ (14 + 2 * s) 1 = nI n) (e2 : ¬ τ 52 s = 0) (v : Int32) : RR (bk_u σ (14 + 2 * s + 1) j v) (bk_u τ 55 (60 * s + j) v) := by
  obtain ⟨b1, b2, b3⟩ := h.2.2.2.2.2.2.2.2.2.1 s hs
  obtain ⟨c1, c2, c3⟩ := b3 e2
  refine sh_ok h hs (fun k h1 h2 => bk_u_row _ h2) (fun k hk => bk_u_row _ (by omega)) (fun t ht q => ⟨by rw [bk_u_row _ (by omega)], by rw [bk_u_row _ (by omega)], by rw [bk_u_row _ (by omega)], fun i hi => by rw [bk_u_at, if_neg (by omega)]⟩) ?_ ?_ ⟨?_, ?_, fun _ => ⟨?_, ?_, fun i hi => ?_⟩⟩
  · rw [bk_u_row _ (by omega)]; exact (h.1.1.2.2.2.2.2.2.2.2.2 s hs).1
  · rw [bk_u_row _ (by omega)]; exact (h.1.1.2.2.2.2.2.2.2.2.2 s hs).2
  · rw [bk_u_row _ (by omega)]; exact b1
  · rw [bk_u_row _ (by omega), bk_u_row (a := 14 + 2 * s) _ (by omega)]; exact b2
  · rw [bk_u_row _ (by omega), bk_u_row (a := 14 + 2 * s) _ (by omega)]; exact c1
  · rw [bk_u_row _ (by omega), bk_u_row (a := 14 + 2 * s) _ (by omega)]; exact c2
  · rw [bk_u_at, bk_u_at]
    by_cases q : i = j
    · rw [if_pos (by omega), if_pos ⟨rfl, q⟩]
    · rw [if_neg (by omega), if_neg (by omega)]; exact c3 i hi
theorem s_put {x y z v : Int32} {σ τ : bk_S} (h : RR σ τ) : stp (w_X8_put x y z v σ) (w_X9_put x y z v τ) := by
  by_cases b : bw x 4
  · by_cases b2 : bw y 3
    · obtain ⟨s, hs, rfl⟩ := bw_4 b
      have cl : (nI s).toNatClampNeg = s := nI_clamp (by omega)
      have g8 := fun (P : Int32 → bk_S → Prop) hP => show w_X8_put (nI s) y z v σ P from c_isSheet (fun _ => br1 (c_isBelow (fun _ => br1' hP) (fun q => absurd b2 q))) (fun q => absurd b q)
      have g9 := fun (Q : Int32 → bk_S → Prop) hQ => show w_X9_put (nI s) y z v τ Q from m_isSheet (fun _ => br1 (m_inB (n := 3) pz_3t (fun _ => br1' hQ) (fun q => absurd b2 q))) (fun q => absurd b q)
      have d3 : ¬ (3 : Int32) ≤ 0 := by decide
      have d2 : ¬ (2 : Int32) ≤ 0 := by decide
      have d1 : ¬ (1 : Int32) ≤ 0 := by decide
      rcases sh_case h hs with ⟨e1, e2⟩ | ⟨n, hn, e1, e2, e3, e4, e5⟩
      · refine stp.fd (v := 1) (r := -10 - 1) h (fun P hP => g8 P ⟨vp4 hs, ?_⟩) (fun Q hQ => g9 Q (m_lacks1 hs e2 ⟨fun q => absurd q d1, fun _ => hQ⟩))
        rw [cl]
        exact c_lost e1 (br1 ⟨fun q => absurd q (by decide), fun _ => hP⟩)
      · by_cases f3 : σ (14 + 2 * s) 0 = y
        · by_cases f2 : bw z (nI n)
          · obtain ⟨j, hj, rfl⟩ := (bw_in (by omega)).mp f2
            have clj : (nI j).toNatClampNeg = j := nI_clamp (by omega)
            have R := it_ok h hs (show j < 60 by omega) hn e1 e2 (kp (σ (14 + 2 * s) 0) v)
            intro P hP
            refine g8 P ⟨vp4 hs, ?_⟩
            simp only [bk_lt_iff]
            rw [cl, clj]
            refine c_findingAt hn e1 (fun q => absurd f3 q) (fun _ q => absurd f2 q) (fun _ _ => ⟨fun _ => ⟨vp4 hs, vp4 hs, c_low ⟨(pz_in (by omega)).mpr (by omega), hP _ _ R.1 (fun Q hQ => g9 Q ?_)⟩⟩, fun q => absurd rfl q⟩)
            simp only [bk_lt_iff]
            refine m_lacks hs hn e2 e3 e4 (fun q => absurd f3 q) (fun _ q => absurd f2 q) (fun _ _ => ⟨fun _ => m_keep hs (by omega) ?_, fun q => absurd (by decide) q⟩)
            rw [e3]; exact hQ _ R.2
          · refine stp.fd (v := 2) (r := -10 - 2) h (fun P hP => g8 P ⟨vp4 hs, ?_⟩) (fun Q hQ => g9 Q (m_lacks hs hn e2 e3 e4 (fun q => absurd f3 q) (fun _ _ => ⟨fun q => absurd q d2, fun _ => hQ⟩) (fun _ q => absurd q f2)))
            rw [cl]
            exact c_findingAt hn e1 (fun q => absurd f3 q) (fun _ _ => ⟨fun q => absurd q (by decide), fun _ => hP⟩) (fun _ q => absurd q f2)
        · refine stp.fd (v := 3) (r := -10 - 3) h (fun P hP => g8 P ⟨vp4 hs, ?_⟩) (fun Q hQ => g9 Q (m_lacks hs hn e2 e3 e4 (fun _ => ⟨fun q => absurd q d3, fun _ => hQ⟩) (fun q => absurd q f3) (fun q => absurd q f3)))
          rw [cl]
          exact c_findingAt hn e1 (fun _ => ⟨fun q => absurd q (by decide), fun _ => hP⟩) (fun q => absurd q f3) (fun q => absurd q f3)
    · exact stp.no (v := -2) h (fun P hP => c_isSheet (fun _ => br1 (c_isBelow (fun q => absurd q b2) (fun _ => br0' hP))) (fun q => absurd b q)) (fun Q hQ => m_isSheet (fun _ => br1 (m_inB (n := 3) pz_3t (fun q => absurd q b2) (fun _ => br0' hQ))) (fun q => absurd b q))
  · exact stp.no (v := -2) h (fun P hP => c_isSheet (fun q => absurd q b) (fun _ => br0 hP)) (fun Q hQ => m_isSheet (fun q => absurd q b) (fun _ => br0 hQ))
theorem s_get {x y z : Int32} {σ τ : bk_S} (h : RR σ τ) : stp (w_X8_get x y z σ) (w_X9_get x y z τ) := by
  by_cases b : bw x 4
  · by_cases b2 : bw y 3
    · obtain ⟨s, hs, rfl⟩ := bw_4 b
      have cl : (nI s).toNatClampNeg = s := nI_clamp (by omega)
      have g8 := fun (P : Int32 → bk_S → Prop) hP => show w_X8_get (nI s) y z σ P from c_isSheet (fun _ => br1 (c_isBelow (fun _ => br1' hP) (fun q => absurd b2 q))) (fun q => absurd b q)
      have g9 := fun (Q : Int32 → bk_S → Prop) hQ => show w_X9_get (nI s) y z τ Q from m_isSheet (fun _ => br1 (m_inB (n := 3) pz_3t (fun _ => br1' hQ) (fun q => absurd b2 q))) (fun q => absurd b q)
      have d3 : ¬ (3 : Int32) ≤ 0 := by decide
      have d2 : ¬ (2 : Int32) ≤ 0 := by decide
      have d1 : ¬ (1 : Int32) ≤ 0 := by decide
      rcases sh_case h hs with ⟨e1, e2⟩ | ⟨n, hn, e1, e2, e3, e4, e5⟩
      · refine stp.fd (v := 1) (r := -2147483648) h (fun P hP => g8 P ⟨vp4 hs, ?_⟩) (fun Q hQ => g9 Q (m_lacks1 hs e2 ⟨fun q => absurd q d1, fun _ => hQ⟩))
        rw [cl]
        exact c_lost e1 (br1 ⟨fun q => absurd q (by decide), fun _ => hP⟩)
      · by_cases f3 : σ (14 + 2 * s) 0 = y
        · by_cases f2 : bw z (nI n)
          · obtain ⟨j, hj, rfl⟩ := (bw_in (by omega)).mp f2
            have clj : (nI j).toNatClampNeg = j := nI_clamp (by omega)
            have e60 : (60 : Int32) * nI s + nI j = nI (60 * s + j) := by rw [pz_60, pz_mulr, nI_add]
            refine stp.no (v := σ (14 + 2 * s + 1) j) h (fun P hP => g8 P ⟨vp4 hs, ?_⟩) (fun Q hQ => g9 Q (m_lacks hs hn e2 e3 e4 (fun q => absurd f3 q) (fun _ q => absurd f2 q) (fun _ _ => ⟨fun _ => ?_, fun q => absurd (by decide) q⟩)))
            · rw [cl, clj]
              exact c_findingAt hn e1 (fun q => absurd f3 q) (fun _ q => absurd f2 q) (fun _ _ => ⟨fun _ => ⟨vp4 hs, (pz_in (by omega)).mpr (by omega), hP⟩, fun q => absurd rfl q⟩)
            · rw [e60, nI_clamp (by omega), e5 j (by omega)]
              exact ⟨(pz_in (by omega)).mpr (by omega), hQ⟩
          · refine stp.fd (v := 2) (r := -2147483648) h (fun P hP => g8 P ⟨vp4 hs, ?_⟩) (fun Q hQ => g9 Q (m_lacks hs hn e2 e3 e4 (fun q => absurd f3 q) (fun _ _ => ⟨fun q => absurd q d2, fun _ => hQ⟩) (fun _ q => absurd q f2)))
            rw [cl]
            exact c_findingAt hn e1 (fun q => absurd f3 q) (fun _ _ => ⟨fun q => absurd q (by decide), fun _ => hP⟩) (fun _ q => absurd q f2)
        · refine stp.fd (v := 3) (r := -2147483648) h (fun P hP => g8 P ⟨vp4 hs, ?_⟩) (fun Q hQ => g9 Q (m_lacks hs hn e2 e3 e4 (fun _ => ⟨fun q => absurd q d3, fun _ => hQ⟩) (fun q => absurd q f3) (fun q => absurd q f3)))
          rw [cl]
          exact c_findingAt hn e1 (fun _ => ⟨fun q => absurd q (by decide), fun _ => hP⟩) (fun q => absurd q f3) (fun q => absurd q f3)
    · exact stp.no (v := -2147483648) h (fun P hP => c_isSheet (fun _ => br1 (c_isBelow (fun q => absurd q b2) (fun _ => br0' hP))) (fun q => absurd b q)) (fun Q hQ => m_isSheet (fun _ => br1 (m_inB (n := 3) pz_3t (fun q => absurd q b2) (fun _ => br0' hQ))) (fun q => absurd b q))
  · exact stp.no (v := -2147483648) h (fun P hP => c_isSheet (fun q => absurd q b) (fun _ => br0 hP)) (fun Q hQ => m_isSheet (fun q => absurd q b) (fun _ => br0 hQ))
