/-! Steps: a stretch is copied. -/
theorem c_hasStretch {b n : Nat} {x l : Int32} {σ : bk_S} {post : Int32 → Prop} (hn : n ≤ 60) (e : σ b 1 = nI n) (h1 : 0 ≤ x.toInt ∧ 0 ≤ l.toInt ∧ x.toInt + l.toInt ≤ n → post 1) (h0 : ¬ (0 ≤ x.toInt ∧ 0 ≤ l.toInt ∧ x.toInt + l.toInt ≤ n) → post 0) : w_X5_hasStretch b x l σ post := by
  have z : (0 : Int32).toInt = 0 := by decide
  unfold w_X5_hasStretch
  simp only [bk_jn_iff]
  rw [e, Int32.lt_iff_toInt_lt, Int32.lt_iff_toInt_lt, Int32.lt_iff_toInt_lt, z, nI_toInt (by omega)]
  refine ⟨fun q => h0 (by omega), fun q1 => ⟨fun q => h0 (by omega), fun q2 => ⟨fun q => h0 (by omega), fun q3 => ?_⟩⟩⟩
  have es : (nI n - x).toInt = n - x.toInt := by
    rw [Int32.toInt_sub, nI_toInt (by omega), Int.bmod_eq_of_le (by omega) (by omega)]
  rw [Int32.lt_iff_toInt_lt, es]
  exact ⟨fun q => h0 (by omega), fun q => h1 (by omega)⟩
theorem pz_nat {x : Int32} {m : Nat} (h0 : 0 ≤ x.toInt) (h1 : x.toInt ≤ m) (hm : m ≤ 60) : ∃ a, a ≤ m ∧ x = nI a ∧ x.toInt = a := by
  refine ⟨x.toInt.toNat, by omega, ?_, by omega⟩
  apply Int32.toInt_inj.mp
  rw [nI_toInt (by omega)]; omega
theorem s_copy {x1 x2 x3 x4 x5 : Int32} {σ τ : bk_S} (h : RR σ τ) : stp (w_X8_copy x1 x2 x3 x4 x5 σ) (w_X9_copy x1 x2 x3 x4 x5 τ) := by
  by_cases b : bw x1 4
  · by_cases b2 : bw x3 4
    · obtain ⟨s, hs, rfl⟩ := bw_4 b
      obtain ⟨t, ht, rfl⟩ := bw_4 b2
      have cs : (nI s).toNatClampNeg = s := nI_clamp (by omega)
      have ct : (nI t).toNatClampNeg = t := nI_clamp (by omega)
      have g8 := fun (P : Int32 → bk_S → Prop) hP => show w_X8_copy (nI s) x2 (nI t) x4 x5 σ P from c_isSheet (fun _ => br1 (c_isSheet (fun _ => br1' hP) (fun q => absurd b2 q))) (fun q => absurd b q)
      have g9 := fun (Q : Int32 → bk_S → Prop) hQ => show w_X9_copy (nI s) x2 (nI t) x4 x5 τ Q from m_isSheet (fun _ => br1 (m_isSheet (fun _ => br1' hQ) (fun q => absurd b2 q))) (fun q => absurd b q)
      simp only [cs, ct, bk_lt_iff, bk_jn_iff] at g8 g9
      rcases sh_case h hs with ⟨s1, s2⟩ | ⟨n, hn, s1, s2, s3, s4, s5⟩
      · exact stp.fd (v := 1) (r := -10 - 1) h (fun P hP => g8 P ⟨vp4 hs, vp4 ht, c_lost s1 (br1' hP)⟩) (fun Q hQ => g9 Q ⟨vp4 hs, fun _ => hQ, fun q => absurd s2 q⟩)
      · rcases sh_case h ht with ⟨t1, t2⟩ | ⟨m, hm, t1, t2, t3, t4, t5⟩
        · exact stp.fd (v := 1) (r := -10 - 1) h (fun P hP => g8 P ⟨vp4 hs, vp4 ht, c_there hn s1 (br0' (c_lost t1 (br1 hP)))⟩) (fun Q hQ => g9 Q ⟨vp4 hs, fun q => absurd q s2, fun _ => ⟨vp4 ht, fun q => absurd t2 q, fun _ => hQ⟩⟩)
        · by_cases f : σ (14 + 2 * s) 0 = σ (14 + 2 * t) 0
          · have f' : τ 53 s = τ 53 t := by rw [s3, t3]; exact f
            have k8 := fun (P : Int32 → bk_S → Prop) hP => g8 P ⟨vp4 hs, vp4 ht, c_there hn s1 (br0' (c_there hm t1 (br0 ⟨fun _ => hP, fun q => absurd f q⟩)))⟩
            have k9 := fun (Q : Int32 → bk_S → Prop) hQ => g9 Q ⟨vp4 hs, fun q => absurd q s2, fun _ => ⟨vp4 ht, fun _ => ⟨vp4 hs, vp4 ht, fun _ => hQ, fun q => absurd f' q⟩, fun q => absurd q t2⟩⟩
            have z : (0 : Int32).toInt = 0 := by decide
            have l1 : ∀ (v : Int32) (N : Nat), N ≤ 60 → (0 < lg_cmp (Int32.toInt64 v + Int32.toInt64 x5) (Int32.toInt64 (nI N)) ↔ (N : Int) < v.toInt + x5.toInt) := fun v N hN => by
              rw [lg_cmp_gt, Int64.lt_iff_toInt_lt, Jvm.Kit.i64_of_i32, nI_toInt (by omega), lg_i2l_add]
            have l2 : ∀ (v : Int32) (N : Nat), N ≤ 60 → (lg_cmp (Int32.toInt64 v + Int32.toInt64 x5) (Int32.toInt64 (nI N)) ≤ 0 ↔ v.toInt + x5.toInt ≤ (N : Int)) := fun v N hN => by
              rw [lg_cmp_le, Int64.le_iff_toInt_le, Jvm.Kit.i64_of_i32, nI_toInt (by omega), lg_i2l_add]
            by_cases C : (0 ≤ x2.toInt ∧ 0 ≤ x5.toInt ∧ x2.toInt + x5.toInt ≤ n) ∧ (0 ≤ x4.toInt ∧ 0 ≤ x5.toInt ∧ x4.toInt + x5.toInt ≤ m)
            · obtain ⟨a, ha, rfl, ea⟩ := pz_nat (x := x2) (m := n) C.1.1 (by omega) hn
              obtain ⟨c, hc, rfl, ec⟩ := pz_nat (x := x4) (m := m) C.2.1 (by omega) hm
              obtain ⟨l, hl, rfl, el⟩ := pz_nat (x := x5) (m := n) C.1.2.1 (by omega) hn
              have ca : (nI a).toNatClampNeg = a := nI_clamp (by omega)
              have cc : (nI c).toNatClampNeg = c := nI_clamp (by omega)
              have c5 : (nI l).toNatClampNeg = l := nI_clamp (by omega)
              have p : ∀ j, j ≤ 60 → ¬ nI j < 0 := fun j hj => nI_nlt (b := 0) (by omega) (by omega)
              have main : ∀ τ', (∀ k, k < 55 → τ' k = τ k) → (∀ j, τ' 55 j = if 60 * t + c ≤ j ∧ j < 60 * t + c + l then τ 55 (60 * s + a + (j - (60 * t + c))) else τ 55 j) → RR (bk_w σ (14 + 2 * t + 1) (va_cpy (σ (14 + 2 * s + 1)) (σ (14 + 2 * t + 1)) a c l)) τ' := by
                intro τ' w1 w2
                refine sh_ok h ht (fun k h1 h2 => bk_w_n _ _ h2) (fun k hk => w1 k (by omega)) (fun u hu q => ⟨by rw [w1 52 (by omega)], by rw [w1 53 (by omega)], by rw [w1 54 (by omega)], fun j hj => by rw [w2, if_neg (by omega)]⟩) ?_ ?_ ?_
                · rw [bk_w_n _ _ (by omega)]; exact (h.1.1.2.2.2.2.2.2.2.2.2 t ht).1
                · rw [bk_w_n _ _ (by omega)]; exact (h.1.1.2.2.2.2.2.2.2.2.2 t ht).2
                · obtain ⟨d1, d2, d3⟩ := h.2.2.2.2.2.2.2.2.2.1 t ht
                  rw [w1 52 (by omega), w1 53 (by omega), w1 54 (by omega), bk_w_n (k := 14 + 2 * t + 1) (a := 14 + 2 * t) _ _ (by omega)]
                  refine ⟨d1, d2, fun nz => ⟨(d3 nz).1, (d3 nz).2.1, fun j hj => ?_⟩⟩
                  rw [w2, bk_w_at, if_pos rfl, va_cpy_at]
                  by_cases q : c ≤ j ∧ j < c + l
                  · rw [if_pos (by omega), if_pos q, show 60 * s + a + (60 * t + j - (60 * t + c)) = 60 * s + (a + (j - c)) by omega]
                    exact s5 _ (by omega)
                  · rw [if_neg (by omega), if_neg q]; exact t5 j hj
              have RC := (main (fun k j => if k < 55 then τ k j else if 60 * t + c ≤ j ∧ j < 60 * t + c + l then τ 55 (60 * s + a + (j - (60 * t + c))) else τ 55 j) (fun k hk => by funext j; simp [hk]) (fun j => by simp)).1
              intro P hP
              refine k8 P (c_hasStretch hn s1 (fun _ => br1 (c_hasStretch hm t1 (fun _ => br1' ⟨⟨p a (by omega), p c (by omega), p l (by omega), by rw [ca, c5]; omega, by rw [cc, c5]; omega⟩, ?_⟩) (fun q => absurd C.2 q))) (fun q => absurd C.1 q))
              rw [ca, cc, c5]
              refine hP _ _ RC (fun Q hQ => k9 Q ⟨fun q => absurd q (p a (by omega)), fun _ => ⟨fun q => absurd q (p c (by omega)), fun _ => ⟨fun q => absurd q (p l (by omega)), fun _ => ⟨vp4 hs, ?_⟩⟩⟩⟩)
              rw [s4, t4, l1 _ _ hn, l2 _ _ hm]
              refine ⟨fun q => by omega, fun _ => ⟨vp4 ht, fun _ => ?_, fun q => by omega⟩⟩
              have e1 : ∀ i, (60 : Int32) * nI s + nI a + nI i = nI (60 * s + a + i) := fun i => by rw [pz_60, pz_mulr, nI_add, nI_add]
              have e2 : ∀ i, (60 : Int32) * nI t + nI c + nI i = nI (60 * t + c + i) := fun i => by rw [pz_60, pz_mulr, nI_add, nI_add]
              refine bk_loop_up l (fun i (a : bk_S) => (nI i, a)) (fun i y => (∀ k, k ≠ 56 → y k = τ k) ∧ (∀ j, j < i → y 56 j = τ 55 (60 * s + a + j))) (i0 := 0) (b0 := τ) rfl (Nat.zero_le _) ⟨fun _ _ => rfl, fun j hj => absurd hj (Nat.not_lt_zero _)⟩ ?_ ?_
              · rintro i y K hi ⟨w1, w2⟩ hK
                simp only [nI_1, e1, nI_clamp (show 60 * s + a + i < 2 ^ 31 by omega), nI_clamp (show i < 2 ^ 31 by omega)]
                refine ⟨fun hle => absurd ((nI_leI (by omega) (by omega)).mp hle) (by omega), fun _ => ⟨(pz_in (by omega)).mpr (by omega), (pz_in (by omega)).mpr (by omega), hK _ ⟨fun k hk => by rw [bk_u_row _ hk]; exact w1 k hk, fun j hj => ?_⟩⟩⟩
                rw [bk_u_at]
                by_cases q : j = i
                · rw [if_pos ⟨rfl, q⟩, w1 55 (by omega), q]
                · rw [if_neg (by omega)]; exact w2 j (by omega)
              · rintro y K ⟨w1, w2⟩
                refine ⟨fun _ => ?_, fun q => absurd ((nI_leI (by omega) (by omega)).mpr (Nat.le_refl _)) q⟩
                refine bk_loop_up l (fun i (a : bk_S) => (nI i, a)) (fun i y => (∀ k, k < 55 → y k = τ k) ∧ (∀ j, j < l → y 56 j = τ 55 (60 * s + a + j)) ∧ (∀ j, y 55 j = if 60 * t + c ≤ j ∧ j < 60 * t + c + i then τ 55 (60 * s + a + (j - (60 * t + c))) else τ 55 j)) (i0 := 0) (b0 := y) rfl (Nat.zero_le _) ⟨fun k hk => w1 k (by omega), w2, fun j => by rw [if_neg (by omega), w1 55 (by omega)]⟩ ?_ ?_
                · rintro i y2 K2 hi ⟨v1, v2, v3⟩ hK2
                  simp only [nI_1, e2, nI_clamp (show 60 * t + c + i < 2 ^ 31 by omega), nI_clamp (show i < 2 ^ 31 by omega)]
                  refine ⟨fun hle => absurd ((nI_leI (by omega) (by omega)).mp hle) (by omega), fun _ => ⟨(pz_in (by omega)).mpr (by omega), (pz_in (by omega)).mpr (by omega), hK2 _ ⟨fun k hk => by rw [bk_u_row _ (by omega)]; exact v1 k hk, fun j hj => by rw [bk_u_row _ (by omega)]; exact v2 j hj, fun j => ?_⟩⟩⟩
                  rw [bk_u_at]
                  by_cases q : j = 60 * t + c + i
                  · rw [if_pos ⟨rfl, q⟩, if_pos (by omega), v2 i hi, show j - (60 * t + c) = i by omega]
                  · rw [if_neg (by omega), v3]
                    by_cases q2 : 60 * t + c ≤ j ∧ j < 60 * t + c + i
                    · rw [if_pos q2, if_pos (by omega)]
                    · rw [if_neg q2, if_neg (by omega)]
                · rintro y2 K2 ⟨v1, v2, v3⟩
                  exact ⟨fun _ => hQ y2 (main y2 v1 v3).2, fun q => absurd ((nI_leI (by omega) (by omega)).mpr (Nat.le_refl _)) q⟩
            · refine stp.fd (v := 2) (r := -10 - 2) h (fun P hP => k8 P (c_hasStretch hn s1 (fun q1 => br1 (c_hasStretch hm t1 (fun q2 => absurd ⟨q1, q2⟩ C) (fun _ => br0' hP))) (fun _ => br0 hP))) (fun Q hQ => k9 Q ?_)
              rw [s4, t4, l1 _ _ hn, l2 _ _ hm, Int32.lt_iff_toInt_lt, Int32.lt_iff_toInt_lt, Int32.lt_iff_toInt_lt, z]
              exact ⟨fun _ => hQ, fun q1 => ⟨fun _ => hQ, fun q2 => ⟨fun _ => hQ, fun q3 => ⟨vp4 hs, fun _ => hQ, fun q4 => ⟨vp4 ht, fun q5 => absurd (by omega) C, fun _ => hQ⟩⟩⟩⟩⟩
          · have f' : ¬ τ 53 s = τ 53 t := by rw [s3, t3]; exact f
            exact stp.fd (v := 4) (r := -10 - 4) h (fun P hP => g8 P ⟨vp4 hs, vp4 ht, c_there hn s1 (br0' (c_there hm t1 (br0 ⟨fun q => absurd q f, fun _ => hP⟩)))⟩) (fun Q hQ => g9 Q ⟨vp4 hs, fun q => absurd q s2, fun _ => ⟨vp4 ht, fun _ => ⟨vp4 hs, vp4 ht, fun q => absurd q f', fun _ => hQ⟩, fun q => absurd q t2⟩⟩)
    · exact stp.no (v := -2) h (fun P hP => c_isSheet (fun _ => br1 (c_isSheet (fun q => absurd q b2) (fun _ => br0' hP))) (fun q => absurd b q)) (fun Q hQ => m_isSheet (fun _ => br1 (m_isSheet (fun q => absurd q b2) (fun _ => br0' hQ))) (fun q => absurd b q))
  · exact stp.no (v := -2) h (fun P hP => c_isSheet (fun q => absurd q b) (fun _ => br0 hP)) (fun Q hQ => m_isSheet (fun q => absurd q b) (fun _ => br0 hQ))
