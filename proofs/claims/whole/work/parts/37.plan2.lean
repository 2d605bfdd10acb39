/-! The class: which hook to leave, which two to change. -/
theorem mt_cnt_pos (p : bk_S) (hp : mt_ok p) : 0 ≤ mt_cnt p := by
  unfold mt_cnt
  exact nI_pos' (by have := mt_cs_le (mt_ev p 11 1) (mt_nt p); have := hp.nt.2; omega)
theorem c_hol {c : Nat} {p σ : bk_S} {post : Int32 → Prop} (hD : cr_Dn c p σ) (h : post (mt_hol p)) : w_X8_sumOf (c + 9) 12 σ post := by
  refine c_sumOf (by decide) ?_
  have : mt_sum (σ (c + 9)) 12 = mt_hol p := mt_sum_congr 12 (fun d hd => hD.2.2.2.2.1 d hd)
  rw [this]; exact h
theorem c_chooseLeft {e : Nat} {p σ : bk_S} {post : bk_S → Prop} (he : e < 12) (hp : mt_ok p) (hS : cr_S 22 p σ) (hpost : ∀ σ', tf_F σ σ' → ch_R (mt_lv p e (mt_nh p)) σ' → post σ') : w_X8_chooseLeft (nI e) σ post := by
  have hnh := hp.nh
  unfold w_X8_chooseLeft
  refine c_copyFrom hp hS (fun σ1 F1 S1 => ?_)
  refine c_clear (fun σ2 r2 _ C2 => ?_)
  simp only [bk_lt_iff]
  have hv12 : vp_in (nI e) 12 := (pz_in (by omega)).mpr he
  have ce : (nI e).toNatClampNeg = e := nI_clamp (by omega)
  have T2 : tf_F σ σ2 := fun k hk => by rw [r2 k (by omega)]; exact F1.t k hk
  have S2 : cr_S 29 p σ2 := S1.sub (fun k h1 h2 => r2 k (by omega))
  refine bk_loop_up (mt_nh p) (fun k (a : bk_S) => (nI k, a)) (fun k a => tf_F σ a ∧ cr_S 29 p (bk_u a (29 + 5) e (p 5 e)) ∧ ch_R (mt_lv p e k) a) (i0 := 0) (b0 := σ2) rfl (Nat.zero_le _) ⟨T2, by rw [← S2.2.2.2.2.2.2.1 e he, bk_u_self]; exact S2, C2⟩ ?_ ?_
  · rintro k a K hk ⟨F, S, C⟩ hK
    obtain ⟨ok', nh', nt'⟩ := hp.lp e k
    have y22 : a 22 0 = nI (mt_nh p) := by rw [F 22 (by omega), hS.1, hnh.1]
    have y27 : a (22 + 5) e = p 5 e := by rw [F (22 + 5) (by omega)]; exact hS.2.2.2.2.2.2.1 e he
    simp only [nI_1, ce, y22, y27]
    refine ⟨fun hle => absurd ((nI_leI (by omega) (by omega)).mp hle) (by omega), fun _ => ⟨hv12, hv12, ?_⟩⟩
    have S' : cr_S 29 (mt_lp p e k) (bk_u a (29 + 5) e (p 5 e ||| (1 : Int32) <<< (nI k &&& 31))) := by
      obtain ⟨s1, s2, s3, s4, s5, s6, s7, s8⟩ := S
      have z' : ∀ v r, r ≠ 29 + 5 → bk_u a (29 + 5) e v r = a r := fun v r hr => bk_u_row _ hr
      unfold cr_S
      rw [nh', nt']
      unfold mt_lp
      rw [bk_u_row (a := 0) (k := 5) p (by omega), bk_u_row (a := 1) (k := 5) p (by omega), bk_u_row (a := 2) (k := 5) p (by omega), bk_u_row (a := 3) (k := 5) p (by omega), bk_u_row (a := 4) (k := 5) p (by omega), bk_u_row (a := 6) (k := 5) p (by omega), z' _ 29 (by omega), z' _ (29 + 1) (by omega), z' _ (29 + 2) (by omega), z' _ (29 + 3) (by omega), z' _ (29 + 4) (by omega), z' _ (29 + 6) (by omega)]
      rw [z' _ 29 (by omega)] at s1 s2
      rw [z' _ (29 + 1) (by omega)] at s3
      rw [z' _ (29 + 2) (by omega)] at s4
      rw [z' _ (29 + 3) (by omega)] at s5
      rw [z' _ (29 + 4) (by omega)] at s6
      rw [z' _ (29 + 6) (by omega)] at s8
      refine ⟨s1, s2, s3, s4, s5, s6, fun d hd => ?_, s8⟩
      have := s7 d hd
      rw [bk_u_at] at this
      rw [bk_u_at, bk_u_at]
      by_cases h : d = e
      · rw [if_pos ⟨rfl, h⟩, if_pos ⟨rfl, h⟩]
      · rw [if_neg (by omega)] at this
        rw [if_neg (by omega), if_neg (by omega)]; exact this
    refine c_run ok' (by omega) S' (fun σ7 F7 D7 => ?_)
    refine c_hol D7 ?_
    have x1 : σ7 48 11 = mt_cnt (mt_lp p e k) := D7.2.2.2.2.2.2.2.2.2.1
    rw [x1]
    have C7 : ch_R (mt_lv p e k) σ7 := by
      unfold ch_R at C ⊢; rw [F7 60 (by omega), bk_u_row _ (by omega)]; exact C
    refine c_offer (mt_cnt_pos _ ok') C7 (fun σ9 r9 _ C9 => hK _ ⟨?_, ?_, C9⟩)
    · intro r hr
      rw [r9 r (by omega), F7 r (by omega), bk_u_row _ (by omega)]; exact F r hr
    · refine cr_S.sub S (fun r h1 h2 => ?_)
      funext j
      rw [bk_u_at, bk_u_at]
      by_cases h : r = 29 + 5 ∧ j = e
      · rw [if_pos h, if_pos h]
      · rw [if_neg h, if_neg h, r9 r (by omega), F7 r (by omega), bk_u_at, if_neg h]
  · rintro a K ⟨F, S, C⟩
    refine ⟨fun _ => hpost a F C, fun hn => absurd ?_ hn⟩
    show a 22 0 ≤ nI (mt_nh p)
    rw [F 22 (by omega), hS.1, hnh.1]; exact (nI_leI (by omega) (by omega)).mpr (Nat.le_refl _)
def xs_1 (σ : bk_S) (q a b : Nat) : bk_S := bk_u (bk_u σ q a (σ q b)) q b (σ q a)
theorem c_exchangeIn {q a b : Nat} {σ : bk_S} {post : bk_S → Prop} (ha : a < 8) (hb : b < 8) (h : post (xs_1 σ q a b)) : w_X4_exchangeIn q 8 (nI a) (nI b) σ post := by
  unfold w_X4_exchangeIn
  simp only [bk_lt_iff, nI_clamp (show a < 2 ^ 31 by omega), nI_clamp (show b < 2 ^ 31 by omega)]
  have hva : vp_in (nI a) 8 := (pz_in (by omega)).mpr ha
  have hvb : vp_in (nI b) 8 := (pz_in (by omega)).mpr hb
  exact ⟨hva, hvb, hva, hvb, h⟩
theorem xs_1_at (σ : bk_S) (q a b r j : Nat) : xs_1 σ q a b r j = if r = q then (if j = b then σ q a else if j = a then σ q b else σ q j) else σ r j := by
  unfold xs_1
  rw [bk_u_at, bk_u_at]
  by_cases hr : r = q
  · subst hr
    by_cases h1 : j = b
    · simp [h1]
    · by_cases h2 : j = a <;> simp [h1, h2]
  · simp [hr]
theorem c_exchange {a b : Nat} {σ p : bk_S} {post : bk_S → Prop} (ha : a < mt_nt p) (hb : b < mt_nt p) (h8 : mt_nt p ≤ 8) (hS : cr_S 29 p σ) (h : ∀ σ', sf_F 29 σ σ' → cr_S 29 (mt_xp p a b) σ' → post σ') : w_X4_exchange 29 (nI a) (nI b) σ post := by
  unfold w_X4_exchange
  refine c_exchangeIn (by omega) (by omega) (c_exchangeIn (by omega) (by omega) (c_exchangeIn (by omega) (by omega) (h _ ?_ ?_)))
  · unfold xs_1
    exact ((((((sf_F.rf 29 σ).u (by omega)).u (by omega)).u (by omega)).u (by omega)).u (by omega)).u (by omega)
  · have go : ∀ (r : Nat) (f g : Nat → Int32) (t : Nat), t < mt_nt p → (∀ t, t < mt_nt p → f t = g t) → (if t = b then f a else if t = a then f b else f t) = (if t = a then g b else if t = b then g a else g t) := by
      intro r f g t ht hfg
      by_cases h1 : t = b
      · subst h1
        by_cases h2 : t = a
        · subst h2; simp [hfg t ht]
        · rw [if_pos rfl, if_neg h2, if_pos rfl]; exact hfg a ha
      · rw [if_neg h1]
        by_cases h2 : t = a
        · rw [if_pos h2, if_pos h2]; exact hfg b hb
        · rw [if_neg h2, if_neg h2, if_neg h1]; exact hfg t ht
    obtain ⟨s1, s2, s3, s4, s5, s6, s7, s8⟩ := hS
    refine ⟨?_, ?_, fun h hh => ?_, fun t ht => ?_, fun t ht => ?_, fun t ht => ?_, fun e he => ?_, fun e he => ?_⟩
    · simpa [xs_1_at, mt_xp] using s1
    · simpa [xs_1_at, mt_xp] using s2
    · have := s3 h hh; simpa [xs_1_at, mt_xp] using this
    · have := go 2 (σ (29 + 2)) (p 2) t ht s4; simpa [xs_1_at, mt_xp] using this
    · have := go 3 (σ (29 + 3)) (p 3) t ht s5; simpa [xs_1_at, mt_xp] using this
    · have := go 4 (σ (29 + 4)) (p 4) t ht s6; simpa [xs_1_at, mt_xp] using this
    · have := s7 e he; simpa [xs_1_at, mt_xp] using this
    · have := s8 e he; simpa [xs_1_at, mt_xp] using this
theorem mt_xp_xp (p : bk_S) (a b : Nat) : mt_xp (mt_xp p a b) a b = p := by
  funext r j
  unfold mt_xp
  by_cases hr : r = 2 ∨ r = 3 ∨ r = 4
  · simp only [hr, if_true]
    by_cases h1 : j = a
    · subst h1
      by_cases h2 : b = j <;> simp [h2]
    · rw [if_neg h1]
      by_cases h2 : j = b
      · subst h2; simp
      · rw [if_neg h2, if_neg h1, if_neg h2]
  · simp [hr]
theorem c_chooseSwap {p σ : bk_S} {post : bk_S → Prop} (hp : mt_ok p) (hS : cr_S 22 p σ) (hpost : ∀ σ', tf_F σ σ' → ch_R (mt_so p (mt_nt p)) σ' → post σ') : w_X8_chooseSwap σ post := by
  have hnt := hp.nt
  unfold w_X8_chooseSwap
  refine c_copyFrom hp hS (fun σ1 F1 S1 => ?_)
  refine c_clear (fun σ2 r2 _ C2 => ?_)
  simp only [bk_lt_iff]
  have T2 : tf_F σ σ2 := fun k hk => by rw [r2 k (by omega)]; exact F1.t k hk
  have S2 : cr_S 29 p σ2 := S1.sub (fun k h1 h2 => r2 k (by omega))
  refine bk_loop_up (mt_nt p) (fun k (a : bk_S) => (nI k, a)) (fun k a => tf_F σ a ∧ cr_S 29 p a ∧ ch_R (mt_so p k) a) (i0 := 0) (b0 := σ2) rfl (Nat.zero_le _) ⟨T2, S2, C2⟩ ?_ ?_
  · rintro a σa K ha ⟨F, S, C⟩ hK
    have y22 : ∀ x, tf_F σ x → x 22 1 = nI (mt_nt p) := fun x Fx => by rw [Fx 22 (by omega), hS.2.1, hnt.1]
    refine ⟨fun hle => ?_, fun _ => ?_⟩
    · have hle : σa 22 1 ≤ nI a := hle
      rw [y22 _ F] at hle; exact absurd ((nI_leI (by omega) (by omega)).mp hle) (by omega)
    · simp only [nI_1]
      refine bk_loop_up (mt_nt p - (a + 1)) (fun m (x : bk_S) => (nI (a + 1 + m), x)) (fun m x => tf_F σ x ∧ cr_S 29 p x ∧ ch_R (mt_si p a (mt_so p a) m) x) (i0 := 0) (b0 := σa) rfl (Nat.zero_le _) ⟨F, S, C⟩ ?_ ?_
      · rintro m x K2 hm ⟨Fx, Sx, Cx⟩ hK2
        have hb : a + 1 + m < mt_nt p := by omega
        obtain ⟨ok', nh', nt'⟩ := hp.xp ha hb
        refine ⟨fun hle => ?_, fun _ => ?_⟩
        · have hle : x 22 1 ≤ nI (a + 1 + m) := hle
          rw [y22 _ Fx] at hle; exact absurd ((nI_leI (by omega) (by omega)).mp hle) (by omega)
        · show w_X4_exchange 29 (nI a) (nI (a + 1 + m)) x _
          refine c_exchange ha hb hnt.2 Sx (fun x1 Fx1 Sx1 => ?_)
          refine c_run ok' (by omega) Sx1 (fun x2 Fx2 D2 => ?_)
          refine c_hol D2 ?_
          have x11 : x2 48 11 = mt_cnt (mt_xp p a (a + 1 + m)) := D2.2.2.2.2.2.2.2.2.2.1
          rw [x11]
          have C2 : ch_R (mt_si p a (mt_so p a) m) x2 := by
            unfold ch_R at Cx ⊢; rw [Fx2 60 (by omega), Fx1 60 (by omega)]; exact Cx
          refine c_offer (mt_cnt_pos _ ok') C2 (fun x3 r3 _ C3 => ?_)
          have S3 : cr_S 29 (mt_xp p a (a + 1 + m)) x3 := Sx1.sub (fun r h1 h2 => by rw [r3 r (by omega), Fx2 r (by omega)])
          refine c_exchange (p := mt_xp p a (a + 1 + m)) ha hb hnt.2 S3 (fun x4 F4 S4 => ?_)
          rw [mt_xp_xp] at S4
          have e1 : nI (a + 1 + m) + 1 = nI (a + 1 + (m + 1)) := by rw [nI_1]; congr 1
          rw [e1]
          refine hK2 _ ⟨?_, S4, ?_⟩
          · intro r hr
            rw [F4 r (by omega), r3 r (by omega), Fx2 r (by omega), Fx1 r (by omega)]; exact Fx r hr
          · unfold ch_R at C3 ⊢; rw [F4 60 (by omega)]; exact C3
      · rintro x K2 ⟨Fx, Sx, Cx⟩
        refine ⟨fun _ => hK x ⟨Fx, Sx, Cx⟩, fun hn => absurd ?_ hn⟩
        show x 22 1 ≤ nI (a + 1 + (mt_nt p - (a + 1)))
        rw [y22 _ Fx]; exact (nI_leI (by omega) (by omega)).mpr (by omega)
  · rintro a K ⟨F, S, C⟩
    refine ⟨fun _ => hpost a F C, fun hn => absurd ?_ hn⟩
    show a 22 1 ≤ nI (mt_nt p)
    rw [F 22 (by omega), hS.2.1, hnt.1]; exact (nI_leI (by omega) (by omega)).mpr (Nat.le_refl _)
