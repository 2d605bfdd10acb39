/-! The reference's plans: where it stands, and what a season comes to there. -/
theorem rd_T.same {σ τ τ' : bk_S} (h : rd_T σ τ) (c2 : τ' 0 2 = τ 0 2) (c4 : τ' 0 4 = τ 0 4) (r : ∀ k, k = 4 ∨ k = 6 ∨ k = 7 ∨ k = 8 → τ' k = τ k) : rd_T σ τ' := by
  unfold rd_T at *
  rw [c2, c4, r 4 (by omega), r 6 (by omega), r 7 (by omega), r 8 (by omega)]; exact h
def pL (σ τ p : bk_S) (wh : Nat → Bool) (be bh : Int32) : Prop := rd_T σ τ ∧ τ 0 12 = p 0 1 ∧ τ 0 16 = p 0 0 ∧ (∀ k, k < mt_nt p → τ 14 k = p 2 k) ∧ (∀ k, k < mt_nt p → τ 15 k = p 3 k) ∧ (∀ k, k < mt_nt p → τ 16 k = p 4 k) ∧ τ 0 17 = be ∧ τ 0 18 = bh ∧ (∀ i, i < bs_ne σ → mt_b (τ 0 19) i = !wh i)
def pB (be bh : Int32) (e : Nat) : Int32 := if be = nI e then (1 : Int32) <<< (bh &&& 31) else 0
theorem at_T.L {σ τ : bk_S} (hi : ib σ) (h : at_T σ τ) : pL σ τ (tp σ tA) tA (-1) (-1) := by
  obtain ⟨⟨t1, t2, t3, t4⟩, h12, h16, hr, h17, h18, h19⟩ := h
  refine ⟨⟨t1, t2, t3, t4⟩, h12, h16, fun k hk => ?_, fun k hk => ?_, fun k hk => ?_, h17, h18, fun i hi2 => ?_⟩
  · rw [tp_nt hi] at hk; rw [(hr k hk).1]; exact (t4 k hk).1
  · rw [tp_nt hi] at hk; rw [(hr k hk).2.1]; exact (t4 k hk).2.1
  · rw [tp_nt hi] at hk; rw [(hr k hk).2.2]; exact (t4 k hk).2.2
  · have := hi.2.2.2.2.2.1.1
    rw [h19, mt_b_zero (by omega)]; rfl
theorem pL.P {σ τ p : bk_S} {wh : Nat → Bool} {be bh : Int32} (hi : ib σ) (hb : rb σ τ) (h : pL σ τ p wh be bh) (hn : mt_nh p ≤ tx_hN (bs_n0 σ) (σ 2)) (h1 : p 1 = tp σ tA 1) (h5 : ∀ e, e < 12 → p 5 e = te_l (σ 6) (σ 7) (σ 8) wh e (bs_ne σ) ||| pB be bh e) (h6 : ∀ e, e < 12 → p 6 e = te_s (σ 6) (σ 7) wh e (bs_ne σ)) : rr_P τ p := by
  obtain ⟨t, h12, h16, h14, h15, hm, h17, h18, h19⟩ := h
  refine rr_P.of (wh := wh) hi hb h12 h16 (fun k hk => ?_) h14 h15 hm ⟨h19, fun e he => ?_, h6⟩
  · rw [h1]; exact t.2.2.1 k (by omega)
  · rw [h5 e he]; unfold bf_b pB; rw [h17, h18]
/-- with what is told of events, and nothing besides -/
theorem pL.P0 {σ τ p : bk_S} {wh : Nat → Bool} {bh : Int32} (hi : ib σ) (hb : rb σ τ) (h : pL σ τ p wh (-1) bh) (hn : mt_nh p ≤ tx_hN (bs_n0 σ) (σ 2)) (h1 : p 1 = tp σ tA 1) (h5 : p 5 = tp σ wh 5) (h6 : p 6 = tp σ wh 6) : rr_P τ p := by
  refine h.P hi hb hn h1 (fun e he => ?_) (fun e he => by rw [h6]; rfl)
  have : pB (-1) bh e = 0 := by unfold pB; rw [if_neg (fun q => pz_ne_m1 (show e < 2 ^ 31 by omega) q.symm)]
  rw [this, pz_or_0, h5]; rfl
/-- what a plan leaves of the reference -/
def pf (τ τ' : bk_S) : Prop := ∀ r j, ¬ (r = 0 ∧ ((20 ≤ j ∧ j ≤ 31) ∨ (42 ≤ j ∧ j ≤ 44))) → ¬ (33 ≤ r ∧ r ≤ 42) → r ≠ 46 → r ≠ 51 → τ' r j = τ r j
theorem pf.rf (τ : bk_S) : pf τ τ := fun _ _ _ _ _ _ => rfl
theorem pf.tr {a b c : bk_S} (h : pf a b) (h' : pf b c) : pf a c := fun r j h1 h2 h3 h4 => (h' r j h1 h2 h3 h4).trans (h r j h1 h2 h3 h4)
theorem rr_F.f {a b : bk_S} (h : rr_F a b) : pf a b := fun r j h1 h2 _ _ => h r j (by omega) h2
theorem pf.u {a b : bk_S} (h : pf a b) {k i : Nat} {v : Int32} (hk : (k = 0 ∧ ((20 ≤ i ∧ i ≤ 31) ∨ (42 ≤ i ∧ i ≤ 44))) ∨ k = 46 ∨ k = 51) : pf a (bk_u b k i v) := by
  intro r j h1 h2 h3 h4
  rw [bk_u_at, if_neg (by rintro ⟨rfl, rfl⟩; omega)]; exact h r j h1 h2 h3 h4
theorem pf.q {a b : bk_S} (h : pf a b) : rq a b := ⟨fun r hr => funext fun j => h r j (by omega) (by omega) (by omega) (by omega), h 0 8 (by omega) (by omega) (by omega) (by omega), h 0 46 (by omega) (by omega) (by omega) (by omega), h 0 56 (by omega) (by omega) (by omega) (by omega)⟩
theorem pL.f {σ τ τ' p : bk_S} {wh : Nat → Bool} {be bh : Int32} (h : pL σ τ p wh be bh) (f : pf τ τ') : pL σ τ' p wh be bh := by
  have c : ∀ j, j < 20 → τ' 0 j = τ 0 j := fun j hj => f 0 j (by omega) (by omega) (by omega) (by omega)
  have r : ∀ r, 0 < r → r < 33 → τ' r = τ r := fun r h1 h2 => funext fun j => f r j (by omega) (by omega) (by omega) (by omega)
  unfold pL at *
  rw [c 12 (by omega), c 16 (by omega), c 17 (by omega), c 18 (by omega), c 19 (by omega), r 14 (by omega) (by omega), r 15 (by omega) (by omega), r 16 (by omega) (by omega)]
  exact ⟨h.1.same (c 2 (by omega)) (c 4 (by omega)) (fun k hk => r k (by omega) (by omega)), h.2⟩
theorem rd_T.u {σ τ : bk_S} (h : rd_T σ τ) {k i : Nat} {v : Int32} (hk : (k = 0 ∧ i ≠ 2 ∧ i ≠ 4) ∨ 8 < k) : rd_T σ (bk_u τ k i v) :=
  h.same (by rw [bk_u_at, if_neg (by omega)]) (by rw [bk_u_at, if_neg (by omega)]) (fun r hr => bk_u_row _ (by omega))
theorem pL.u19 {σ τ p : bk_S} {wh wh' : Nat → Bool} {be bh v : Int32} (h : pL σ τ p wh be bh) (hv : ∀ i, i < bs_ne σ → mt_b v i = !wh' i) : pL σ (bk_u τ 0 19 v) p wh' be bh := by
  obtain ⟨t, h12, h16, h14, h15, hm, h17, h18, h19⟩ := h
  refine ⟨t.u (by omega), ?_, ?_, ?_, ?_, ?_, ?_, ?_, ?_⟩
  · rw [bk_u_at, if_neg (by omega)]; exact h12
  · rw [bk_u_at, if_neg (by omega)]; exact h16
  · rw [bk_u_row _ (by omega)]; exact h14
  · rw [bk_u_row _ (by omega)]; exact h15
  · rw [bk_u_row _ (by omega)]; exact hm
  · rw [bk_u_at, if_neg (by omega)]; exact h17
  · rw [bk_u_at, if_neg (by omega)]; exact h18
  · rw [bk_u_same]; exact hv
theorem pL.u18 {σ τ p : bk_S} {wh : Nat → Bool} {be bh v : Int32} (h : pL σ τ p wh be bh) : pL σ (bk_u τ 0 18 v) p wh be v := by
  obtain ⟨t, h12, h16, h14, h15, hm, h17, h18, h19⟩ := h
  refine ⟨t.u (by omega), ?_, ?_, ?_, ?_, ?_, ?_, ?_, ?_⟩
  · rw [bk_u_at, if_neg (by omega)]; exact h12
  · rw [bk_u_at, if_neg (by omega)]; exact h16
  · rw [bk_u_row _ (by omega)]; exact h14
  · rw [bk_u_row _ (by omega)]; exact h15
  · rw [bk_u_row _ (by omega)]; exact hm
  · rw [bk_u_at, if_neg (by omega)]; exact h17
  · rw [bk_u_same]
  · rw [bk_u_at, if_neg (by omega)]; exact h19
theorem pL.u17 {σ τ p : bk_S} {wh : Nat → Bool} {be bh v : Int32} (h : pL σ τ p wh be bh) : pL σ (bk_u τ 0 17 v) p wh v bh := by
  obtain ⟨t, h12, h16, h14, h15, hm, h17, h18, h19⟩ := h
  refine ⟨t.u (by omega), ?_, ?_, ?_, ?_, ?_, ?_, ?_, ?_⟩
  · rw [bk_u_at, if_neg (by omega)]; exact h12
  · rw [bk_u_at, if_neg (by omega)]; exact h16
  · rw [bk_u_row _ (by omega)]; exact h14
  · rw [bk_u_row _ (by omega)]; exact h15
  · rw [bk_u_row _ (by omega)]; exact hm
  · rw [bk_u_same]
  · rw [bk_u_at, if_neg (by omega)]; exact h18
  · rw [bk_u_at, if_neg (by omega)]; exact h19
theorem pL.u16 {σ τ p : bk_S} {wh : Nat → Bool} {be bh v : Int32} (h : pL σ τ p wh be bh) : pL σ (bk_u τ 0 16 v) (bk_u p 0 0 v) wh be bh := by
  obtain ⟨t, h12, h16, h14, h15, hm, h17, h18, h19⟩ := h
  have nt : mt_nt (bk_u p 0 0 v) = mt_nt p := by unfold mt_nt; rw [bk_u_at, if_neg (by omega)]
  unfold pL
  rw [nt]
  refine ⟨t.u (by omega), ?_, ?_, ?_, ?_, ?_, ?_, ?_, ?_⟩
  · rw [bk_u_at, if_neg (by omega), bk_u_at, if_neg (by omega)]; exact h12
  · rw [bk_u_same, bk_u_same]
  · rw [bk_u_row _ (by omega), bk_u_row _ (by omega)]; exact h14
  · rw [bk_u_row _ (by omega), bk_u_row _ (by omega)]; exact h15
  · rw [bk_u_row _ (by omega), bk_u_row _ (by omega)]; exact hm
  · rw [bk_u_at, if_neg (by omega)]; exact h17
  · rw [bk_u_at, if_neg (by omega)]; exact h18
  · rw [bk_u_at, if_neg (by omega)]; exact h19
theorem mt_b_nat (m : Nat) {i : Nat} (hi : i < 32) : mt_b (nI m) i = m.testBit i := by
  rw [mt_b_bv _ hi]
  show (BitVec.ofNat 32 m).getLsbD i = _
  rw [BitVec.getLsbD_ofNat]; simp [hi]
theorem mt_b_compl {n s i : Nat} (hs : s < 2 ^ n) (hi : i < n) (hn : n ≤ 8) : mt_b (nI (2 ^ n - 1 - s)) i = !mt_b (nI s) i := by
  rw [mt_b_nat _ (by omega), mt_b_nat _ (by omega), show 2 ^ n - 1 - s = 2 ^ n - (s + 1) by omega, Nat.testBit_two_pow_sub_succ hs]
  simp [hi]
theorem m_chanceOf {x t : Nat} {r : Int32} {σ τ : bk_S} {post : Int64 → bk_S → Prop} (hi : ib σ) (hb : rb σ τ) (hx : x ≤ 16) (ht : t < tx_tN (bs_n1 σ) (σ 4)) (hpost : ∀ τ', rq τ τ' → rd_T σ τ' → post (ck_v σ x t r) τ') : w_X9_chanceOf (nI x) (nI t) r τ post := by
  obtain ⟨hne, h53⟩ := hi.2.2.2.2.2.1
  have p2 := pz_2le hne
  have hN := (tx_tN_le (f := σ 4) hi.2.1.1).1
  unfold w_X9_chanceOf
  refine m_asTold hi hb (fun τ1 q1 a1 => ?_)
  simp only [bk_lt_iff]
  have P1 := a1.L hi
  have c8 : ∀ a, rq τ a → a 0 8 = nI (bs_ne σ) := fun a q => by rw [q.2.1, hb.2.2.2.2.1]; exact h53
  refine bk_jn_of (fun a => a.1 = qN (ck_s (ck_t σ x t) (2 ^ bs_ne σ)) ∧ rq τ a.2 ∧ rd_T σ a.2) (fun K hK => ?_) (fun a ha => ?_)
  · refine bk_loop_up (2 ^ bs_ne σ) (fun s (a : bk_S) => (qN (ck_s (fun s => ck_t σ x t (2 ^ bs_ne σ - 1 - s)) s), nI s, a)) (fun s a => rq τ a ∧ ∃ wh, pL σ a (tp σ tA) wh (-1) (-1)) (i0 := 0) (b0 := τ1) rfl (Nat.zero_le _) ⟨q1, tA, P1⟩ ?_ ?_
    · rintro s a K2 hs ⟨qa, wh, Pa⟩ hK2
      have ed : ∀ F, ck_s F (s + 1) = ck_s F s + F s := fun _ => rfl
      rw [ed] at hK2
      have hwb : ∀ i, i < bs_ne σ → mt_b (nI (2 ^ bs_ne σ - 1 - s)) i = !mt_b (nI s) i := fun i hi2 => mt_b_compl hs hi2 hne
      simp only [nI_1, c8 a qa, pz_2n _ (show bs_ne σ < 9 by omega)]
      refine ⟨fun hle => absurd ((nI_leI (by omega) (by omega)).mp hle) (by omega), fun _ => ?_⟩
      refine bk_jn_of (fun a11 => a11 = qN (ck_w x (fun i => !mt_b (nI s) i) (bs_ne σ))) (fun K3 hK3 => ?_) (fun a11 h11 => ?_)
      · refine bk_loop_up (bs_ne σ) (fun i (_ : Unit) => (qN (ck_w x (fun i => !mt_b (nI s) i) i), nI i)) (fun _ _ => True) (i0 := 0) (b0 := ()) rfl (Nat.zero_le _) trivial ?_ ?_
        · intro i _ K4 hi2 _ hK4
          have hK4 := hK4 () trivial
          refine ⟨fun hle => absurd ((nI_leI (by omega) (by omega)).mp hle) (by omega), fun _ => ?_⟩
          have e : (16 : Int32) - nI x = nI (16 - x) := pk_sub (a := 16) (b := x) (by omega)
          simp only [e, qN_of (show x < 2 ^ 31 by omega), qN_of (show 16 - x < 2 ^ 31 by omega), nI_1]
          have ed2 : ck_w x (fun i => !mt_b (nI s) i) (i + 1) = ck_w x (fun i => !mt_b (nI s) i) i * (if (!mt_b (nI s) i) = true then x else 16 - x) := rfl
          rw [ed2] at hK4
          refine m_isIn (fun hbit => ?_) (fun hbit => ?_)
          · rw [hbit, if_neg (by decide), ← qN_mul] at hK4; exact hK4
          · rw [hbit, if_pos (by decide), ← qN_mul] at hK4; exact hK4
        · intro _ K4 _
          exact ⟨fun _ => hK3 _ rfl, fun hn => absurd ((nI_leI (by omega) (by omega)).mpr (Nat.le_refl _)) hn⟩
      · subst h11
        have wle := ck_w_lt hx (fun i => !mt_b (nI s) i) hne
        have wc : ck_w x (fun i => !mt_b (nI s) i) (bs_ne σ) = ck_w x (mt_b (nI (2 ^ bs_ne σ - 1 - s))) (bs_ne σ) := ck_w_congr _ (fun i hi2 => (hwb i hi2).symm)
        have o : lg_cmp (qN (ck_w x (fun i => !mt_b (nI s) i) (bs_ne σ))) 0 ≤ 0 ↔ ck_w x (fun i => !mt_b (nI s) i) (bs_ne σ) ≤ 0 := by rw [lg_cmp_le]; exact qN_le (b := 0) (by omega) (by omega)
        rw [o]
        refine ⟨fun hz => ?_, fun hz => ?_⟩
        · have : ck_t σ x t (2 ^ bs_ne σ - 1 - s) = 0 := by unfold ck_t; rw [← wc, show ck_w x (fun i => !mt_b (nI s) i) (bs_ne σ) = 0 by omega]; simp
          have hK2 := hK2 a ⟨qa, wh, Pa⟩
          rw [this, Nat.add_zero] at hK2; exact hK2
        · show w_X9_runs (bk_u a 0 19 (nI s)) _
          have P2 : pL σ (bk_u a 0 19 (nI s)) (tp σ tA) (fun i => !mt_b (nI s) i) (-1) (-1) := Pa.u19 (fun i _ => by simp)
          have q2 : rq τ (bk_u a 0 19 (nI s)) := qa.u (by omega)
          have P3 : pL σ (bk_u a 0 19 (nI s)) (tp σ (fun i => !mt_b (nI s) i)) (fun i => !mt_b (nI s) i) (-1) (-1) := P2
          refine m_runs (tp_ok hi _) (P3.P0 hi (hb.q q2) (by rw [tp_nh hi]; exact Nat.le_refl _) rfl rfl rfl) (fun τ2 F2 D2 => ?_)
          have hse : τ2 36 t = mt_ev (tp σ (mt_b (nI (2 ^ bs_ne σ - 1 - s)))) 11 1 t := by
            rw [D2.2.1 t (by omega), tp_congr (fun i hi2 => (hwb i hi2).symm)]
          have hbit : mt_b (mt_cm (mt_ev (tp σ (mt_b (nI (2 ^ bs_ne σ - 1 - s)))) 11 1) (mt_nt (tp σ tA))) t = !decide (τ2 36 t = -1) := by
            rw [mt_b_cm _ (by omega) _ (by rw [tp_nt hi]; omega), hse, tp_nt hi]; simp [ht]
          have hK2 := hK2 τ2 ⟨q2.tr F2.q, _, P2.f F2.f⟩
          unfold ck_t at hK2
          rw [hbit, ← wc] at hK2
          refine m_isOpen (by omega) (fun ho => ?_) (fun ho => ?_)
          · rw [ho] at hK2
            have hK2 : K2 (qN (ck_s (fun s => ck_t σ x t (2 ^ bs_ne σ - 1 - s)) s + 0), nI (s + 1), τ2) := hK2
            rw [← qN_add] at hK2; exact hK2
          · rw [decide_eq_false ho] at hK2
            have hK2 : K2 (qN (ck_s (fun s => ck_t σ x t (2 ^ bs_ne σ - 1 - s)) s + ck_w x (fun i => !mt_b (nI s) i) (bs_ne σ)), nI (s + 1), τ2) := hK2
            rw [← qN_add] at hK2; exact hK2
    · rintro a K2 ⟨qa, wh, Pa⟩
      simp only [c8 a qa, pz_2n _ (show bs_ne σ < 9 by omega)]
      exact ⟨fun _ => hK _ ⟨by rw [ck_s_rev], qa, Pa.1⟩, fun hn => absurd ((nI_leI (by omega) (by omega)).mpr (Nat.le_refl _)) hn⟩
  · obtain ⟨s, a⟩ := a
    obtain ⟨ha1, ha2, ha3⟩ := ha
    have ha1 : s = qN (ck_s (ck_t σ x t) (2 ^ bs_ne σ)) := ha1
    have ha2 : rq τ a := ha2
    subst ha1
    show w_X9_lowest (qN (ck_s (ck_t σ x t) (2 ^ bs_ne σ))) ((1 : Int64) <<< (Int32.toInt64 ((4 : Int32) * (a 0 8)) &&& 63)) r (fun r27 => post r27 a)
    rw [c8 a ha2, qN_shl _ (by omega)]
    have := ck_t_lt (σ := σ) (x := x) (t := t) hx hne (m := 2 ^ bs_ne σ) (by omega)
    exact m_lowest (by omega) (by omega) (hpost a ha2 ha3)
