/-! The class's course: begun, run; what it answers. -/
theorem mt_cs_none (n : Nat) : mt_cs (fun _ => (-1 : Int32)) n = 0 := by
  induction n with
  | zero => rfl
  | succ n ih => unfold mt_cs; rw [ih]; simp
theorem c_begin {c s : Nat} {p σ : bk_S} {post : bk_S → Prop} (hp : mt_ok p) (hsc : s + 6 < c) (hS : cr_S s p σ) (hpost : ∀ σ', cr_F c σ σ' → cr_R c 0 p (mt_rs (mt_i0 p)) σ' → post σ') : w_X1_begin c s σ post := by
  unfold w_X1_begin
  simp only [bk_lt_iff, pz_clamp0, pz_clamp8]
  have hnt := hp.nt
  refine ⟨by decide, ?_⟩
  refine c_fill (by decide) ?_
  refine c_fill (by decide) ?_
  refine c_fill (by decide) ?_
  refine c_fill (by decide) ?_
  refine c_fill (by decide) ?_
  refine c_fill (by decide) ?_
  refine c_fill (by decide) ?_
  refine c_fill (by decide) ?_
  refine c_fill (by decide) ?_
  refine hpost _ ?_ ?_
  · exact ((((((((((cr_F.rf c σ).w (by omega) (by omega)).w (by omega) (by omega)).w (by omega) (by omega)).w (by omega) (by omega)).w (by omega) (by omega)).w (by omega) (by omega)).w (by omega) (by omega)).w (by omega) (by omega)).w (by omega) (by omega)).w (by omega) (by omega) |>.u (by omega) (by omega)
  · have g1 : mt_rs (mt_i0 p) 1 = fun _ => -1 := by rw [mt_rs_lo _ (by omega)]; rfl
    have g2 : mt_rs (mt_i0 p) 2 = fun _ => -1 := by rw [mt_rs_lo _ (by omega)]; rfl
    have g0 : mt_rs (mt_i0 p) 0 = fun k => if k < mt_nt p then p 3 k else 0 := by rw [mt_rs_lo _ (by omega)]; rfl
    have g3 : mt_rs (mt_i0 p) 3 = fun _ => 0 := by unfold mt_rs; rw [bk_w_n _ _ (by omega), bk_w_n _ _ (by omega), bk_w_s]
    have g4 : mt_rs (mt_i0 p) 4 = fun _ => -1 := by unfold mt_rs; rw [bk_w_n _ _ (by omega), bk_w_s]
    have g5 : mt_rs (mt_i0 p) 5 = fun _ => 0 := by unfold mt_rs; rw [bk_w_s]
    have gE3 : ∀ d t, cr_E p 0 (mt_rs (mt_i0 p)) d 3 t = 0 := fun d t => by
      unfold cr_E; rw [if_neg (Nat.not_lt_zero _)]
      split
      · rw [g3]
      · rfl
    have gE4 : ∀ d t, cr_E p 0 (mt_rs (mt_i0 p)) d 4 t = -1 := fun d t => by
      unfold cr_E; rw [if_neg (Nat.not_lt_zero _)]
      split
      · rw [g4]
      · rfl
    have gE5 : ∀ d t, cr_E p 0 (mt_rs (mt_i0 p)) d 5 t = 0 := fun d t => by
      unfold cr_E; rw [if_neg (Nat.not_lt_zero _)]
      split
      · rw [g5]
      · rfl
    unfold cr_R
    refine ⟨fun t ht => ?_, fun t ht => ?_, fun t ht => ?_, ?_, fun t ht => ?_, fun d t hd ht => ?_, fun d h hd hh => ?_, fun d hd => ?_, fun d hd => ?_, fun d hd => ?_, fun d hd => ?_, fun d t hd => absurd hd (Nat.not_lt_zero _)⟩
    · have h8 : t < 8 := by omega
      rw [g0]
      simp [bk_u_at, bk_w_at, va_cpy_at, h8, ht, hS.2.2.2.2.1 t ht]
    · rw [g1]; simp [bk_u_at, bk_w_at, ht]
    · rw [g2]; simp [bk_u_at, bk_w_at, ht]
    · rw [bk_u_same, g1, mt_cs_none]; rfl
    · rw [g3]; simp [bk_u_at, bk_w_at, ht, mt_sa]
    · rw [gE3]; simp [bk_u_at, bk_w_at, show d * 8 + t < 96 by omega]
    · rw [gE4]; simp [bk_u_at, bk_w_at, show d * 12 + h < 144 by omega]
    · rw [gE5]; simp [bk_u_at, bk_w_at, hd]
    · rw [gE5]; simp [bk_u_at, bk_w_at, hd]
    · rw [gE5]; simp [bk_u_at, bk_w_at, hd]
    · rw [gE5]; simp [bk_u_at, bk_w_at, hd]
theorem cr_R.hu {c e : Nat} {p G σ : bk_S} (hp : mt_ok p) (H : cr_R c e p G σ) (hG : ∀ d r t, 3 ≤ r → cr_E p e (mt_hu (mt_nt p) G) d r t = cr_E p e G d r t) : cr_R c e p (mt_hu (mt_nt p) G) (bk_w σ (c + 1) (fun t => if t < mt_nt p ∧ σ (c + 2) t = -1 ∧ ¬ 9 ≤ σ (c + 1) t then σ (c + 1) t + 1 else σ (c + 1) t)) := by
  have hnt := hp.nt.2
  obtain ⟨a1, a2, a3, a4, a5, a6, a7, a8, a9, a10, a11, a12⟩ := H
  have g : ∀ r, 0 < r → mt_hu (mt_nt p) G r = G r := fun r hr => by unfold mt_hu; exact bk_w_n _ _ (by omega)
  unfold cr_R
  rw [g 1 (by omega), g 2 (by omega), g 3 (by omega)]
  simp only [hG _ 3 _ (by omega), hG _ 4 _ (by omega), hG _ 5 _ (by omega)]
  refine ⟨fun t ht => ?_, ?_, ?_, ?_, ?_, ?_, ?_, ?_, ?_, ?_, ?_, ?_⟩
  · unfold mt_hu
    rw [bk_w_s, bk_w_s]
    show (if t < mt_nt p ∧ σ (c + 2) t = -1 ∧ ¬ 9 ≤ σ (c + 1) t then σ (c + 1) t + 1 else σ (c + 1) t) = (if t < mt_nt p ∧ G 1 t = -1 ∧ ¬ 9 ≤ G 0 t then G 0 t + 1 else G 0 t)
    rw [a1 t ht, a2 t (by omega)]
  all_goals simpa [bk_w_at] using by assumption
theorem cr_E_hu (p : bk_S) (e n : Nat) (G : bk_S) (d r t : Nat) (h : 3 ≤ r) : cr_E p e (mt_hu n G) d r t = cr_E p e G d r t := by
  unfold cr_E
  split
  · rfl
  · split
    · unfold mt_hu; rw [bk_w_n _ _ (by omega)]
    · rfl
theorem cr_R.next {c d : Nat} {p σ : bk_S} (H : cr_R c d p (mt_ev p d) σ) (hb : ∀ t, t < mt_nt p → σ (c + 5) (d * 8 + t) = mt_ev p d 0 t) : cr_R c (d + 1) p (mt_rs (mt_ev p d)) σ := by
  obtain ⟨a1, a2, a3, a4, a5, a6, a7, a8, a9, a10, a11, a12⟩ := H
  have g3 : mt_rs (mt_ev p d) 3 = fun _ => 0 := by unfold mt_rs; rw [bk_w_n _ _ (by omega), bk_w_n _ _ (by omega), bk_w_s]
  have g4 : mt_rs (mt_ev p d) 4 = fun _ => -1 := by unfold mt_rs; rw [bk_w_n _ _ (by omega), bk_w_s]
  have g5 : mt_rs (mt_ev p d) 5 = fun _ => 0 := by unfold mt_rs; rw [bk_w_s]
  have gE : ∀ d' r t, 3 ≤ r → r ≤ 5 → cr_E p (d + 1) (mt_rs (mt_ev p d)) d' r t = cr_E p d (mt_ev p d) d' r t := by
    intro d' r t h3 h5
    unfold cr_E
    by_cases h1 : d' < d
    · rw [if_pos h1, if_pos (by omega)]
    · rw [if_neg h1]
      by_cases h2 : d' = d
      · rw [if_pos h2, if_pos (by omega), h2]
      · rw [if_neg h2, if_neg (by omega)]
        by_cases h4 : d' = d + 1
        · rw [if_pos h4]
          rcases (show r = 3 ∨ r = 4 ∨ r = 5 by omega) with rfl | rfl | rfl
          · rw [g3]; rfl
          · rw [g4]; rfl
          · rw [g5]; rfl
        · rw [if_neg h4]
  unfold cr_R
  simp only [gE _ 3 _ (by omega) (by omega), gE _ 4 _ (by omega) (by omega), gE _ 5 _ (by omega) (by omega)]
  rw [mt_rs_lo _ (show 0 < 3 by omega), mt_rs_lo _ (show 1 < 3 by omega), mt_rs_lo _ (show 2 < 3 by omega), g3]
  refine ⟨a1, a2, a3, a4, fun t ht => ?_, a6, a7, a8, a9, a10, a11, fun d' t hd ht => ?_⟩
  · rw [a5 t ht, mt_sa]; simp
  · rcases Nat.lt_or_ge d' d with h | h
    · exact a12 d' t h ht
    · obtain rfl : d' = d := by omega
      exact hb t ht
/-- a course that has gone through its evenings -/
def cr_Dn (c : Nat) (p σ : bk_S) : Prop :=
  (∀ d t, d < 12 → t < mt_nt p → σ (c + 5) (d * 8 + t) = mt_ev p d 0 t) ∧ (∀ d t, d < 12 → t < 8 → σ (c + 6) (d * 8 + t) = mt_ev p d 3 t) ∧ (∀ d h, d < 12 → h < 12 → σ (c + 7) (d * 12 + h) = mt_ev p d 4 h) ∧
  (∀ d, d < 12 → σ (c + 8) d = mt_ev p d 5 0) ∧ (∀ d, d < 12 → σ (c + 9) d = mt_ev p d 5 1) ∧ (∀ d, d < 12 → σ (c + 10) d = mt_ev p d 5 2) ∧ (∀ d, d < 12 → σ (c + 11) d = mt_ev p d 5 3) ∧
  (∀ t, t < 8 → σ (c + 2) t = mt_ev p 11 1 t) ∧ (∀ t, t < 8 → σ (c + 3) t = mt_ev p 11 2 t) ∧ σ c 11 = nI (mt_cs (mt_ev p 11 1) (mt_nt p)) ∧ (∀ t, t < 8 → σ (c + 4) t = mt_sa p 12 t)
theorem c_run {c s : Nat} {p σ : bk_S} {post : bk_S → Prop} (hp : mt_ok p) (hsc : s + 6 < c) (hS : cr_S s p σ) (hpost : ∀ σ', cr_F c σ σ' → cr_Dn c p σ' → post σ') : w_X1_run c s σ post := by
  unfold w_X1_run
  have hnt := hp.nt
  refine c_begin hp hsc hS (fun σ1 hF1 hR1 => ?_)
  simp only [bk_lt_iff, pz_clamp0, pz_clamp8]
  refine bk_loop_up 12 (fun e (σ' : bk_S) => (nI e, σ')) (fun e σ' => cr_F c σ σ' ∧ cr_R c e p (mt_rs (match e with | 0 => mt_i0 p | d + 1 => mt_ev p d)) σ') (i0 := 0) (b0 := σ1) rfl (Nat.zero_le _) ⟨hF1, hR1⟩ ?_ ?_
  · rintro e σ' K he ⟨hF, hR⟩ hK
    have ce : (nI e).toNatClampNeg = e := nI_clamp (by omega)
    have hv12 : vp_in (nI e) 12 := (pz_in (by omega)).mpr he
    refine ⟨fun hle => absurd ((nI_leI (a := 12) (by omega) (by omega)).mp hle) (by omega), fun _ => ?_⟩
    have hgs := mt_gk.st hp e (by omega)
    simp only [ce, nI_1]
    refine bk_jn_of (fun a => cr_F c σ a ∧ cr_R c e p (mt_rs (mt_st p e)) a) (fun K2 hK2 => ?_) (fun σ2 hq2 => ?_)
    · match e, hR with
      | 0, hR => exact ⟨fun _ => hK2 _ ⟨hF, hR⟩, fun h => absurd (by decide) h⟩
      | d + 1, hR =>
        refine ⟨fun h => absurd ((nI_leI (b := 0) (by omega) (by omega)).mp h) (by omega), fun _ => ?_⟩
        have hS' := hS.F hF (Or.inl hsc)
        show w_X1_heatUp c (σ' s 1) σ' _
        rw [hS'.2.1, hnt.1]
        refine c_heatUp hnt.2 (hK2 _ ⟨hF.w (by omega) (by omega), ?_⟩)
        show cr_R c (d + 1) p (mt_rs (mt_hu (mt_nt p) (mt_ev p d))) _
        rw [mt_rs_hu]
        exact hR.hu hp (fun d r t h => cr_E_hu p _ _ _ d r t h)
    · obtain ⟨hF2, hR2⟩ := hq2
      refine ⟨hv12, ?_⟩
      have hS2 := hS.F hF2 (Or.inl hsc)
      refine bk_jn_of (fun a => cr_F c σ a ∧ cr_R c e p (mt_fr p e (mt_rs (mt_st p e))) a) (fun K3 hK3 => ?_) (fun σ3 hq3 => ?_)
      · rw [hS2.2.2.2.2.2.2.2 e he, hS2.2.1, hnt.1]
        unfold mt_fr at hK3
        refine ⟨fun h => ?_, fun h => ?_⟩
        · rw [if_pos h] at hK3; exact hK3 _ ⟨hF2, hR2⟩
        · rw [if_neg h] at hK3
          exact c_heatUp hnt.2 (hK3 _ ⟨hF2.w (by omega) (by omega), hR2.hu hp (fun d r t h => cr_E_hu p _ _ _ d r t h)⟩)
      · obtain ⟨hF3, hR3⟩ := hq3
        refine ⟨hv12, ?_⟩
        have hS3 := hS.F hF3 (Or.inl hsc)
        refine bk_jn_of (fun a => cr_F c σ a ∧ cr_R c e p (mt_ev p e) a) (fun K4 hK4 => ?_) (fun σ4 hq4 => ?_)
        · rw [hS3.2.2.2.2.2.2.2 e he]
          have hev : mt_ev p e = mt_dd p e (mt_fr p e (mt_rs (mt_st p e))) := rfl
          rw [hev] at hK4
          unfold mt_dd at hK4
          refine ⟨fun h => ?_, fun h => ?_⟩
          · rw [if_neg h] at hK4; exact hK4 _ ⟨hF3, hR3⟩
          · rw [if_pos h] at hK4
            exact c_doHooks hp hsc he hS3 hR3 (hgs.rs.fr e) (fun σ5 hF5 hR5 => hK4 _ ⟨hF3.tr hF5, hR5⟩)
        · obtain ⟨hF4, hR4⟩ := hq4
          have e8 : nI e * 8 = nI (e * 8) := by rw [pz_8, pz_mulr]
          have c8 : (nI (e * 8)).toNatClampNeg = e * 8 := nI_clamp (by omega)
          simp only [e8, c8]
          refine ⟨⟨by decide, nI_pos (by omega), by decide, by decide, by omega⟩, ?_⟩
          have hR5 : cr_R c e p (mt_ev p e) (bk_w σ4 (c + 5) (va_cpy (σ4 (c + 1)) (σ4 (c + 5)) 0 (e * 8) 8)) := by
            obtain ⟨a1, a2, a3, a4, a5, a6, a7, a8, a9, a10, a11, a12⟩ := hR4
            unfold cr_R
            refine ⟨?_, ?_, ?_, ?_, ?_, ?_, ?_, ?_, ?_, ?_, ?_, fun d t hd ht => ?_⟩
            rotate_left 11
            · rw [bk_w_s, va_cpy_at, if_neg (by omega)]; exact a12 d t hd ht
            all_goals simpa [bk_w_at] using by assumption
          refine hK _ ⟨hF4.w (by omega) (by omega), hR5.next (fun t ht => ?_)⟩
          rw [bk_w_s, va_cpy_at, if_pos (by omega), Nat.zero_add, show e * 8 + t - e * 8 = t by omega]
          exact hR4.1 t ht
  · rintro σ' K ⟨hF, hR⟩
    refine ⟨fun _ => hpost σ' hF ?_, fun hn => absurd (by show (12 : Int32) ≤ nI 12; decide) hn⟩
    have hR : cr_R c 12 p (mt_rs (mt_ev p 11)) σ' := hR
    obtain ⟨a1, a2, a3, a4, a5, a6, a7, a8, a9, a10, a11, a12⟩ := hR
    have gE : ∀ d, d < 12 → cr_E p 12 (mt_rs (mt_ev p 11)) d = mt_ev p d := fun d hd => by unfold cr_E; rw [if_pos hd]
    have g3 : mt_rs (mt_ev p 11) 3 = fun _ => 0 := by unfold mt_rs; rw [bk_w_n _ _ (by omega), bk_w_n _ _ (by omega), bk_w_s]
    rw [mt_rs_lo _ (show 1 < 3 by omega)] at a2 a4
    rw [mt_rs_lo _ (show 2 < 3 by omega)] at a3
    rw [g3] at a5
    exact ⟨a12, fun d t hd ht => by rw [a6 d t hd ht, gE d hd], fun d t hd ht => by rw [a7 d t hd ht, gE d hd], fun d hd => by rw [a8 d hd, gE d hd], fun d hd => by rw [a9 d hd, gE d hd], fun d hd => by rw [a10 d hd, gE d hd], fun d hd => by rw [a11 d hd, gE d hd], a2, a3, a4, fun t ht => by rw [a5 t ht]; simp⟩
