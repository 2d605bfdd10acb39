/-! The reference's plans: fit, leave, swap. -/
theorem m_many {σ τ p : bk_S} {post : Int32 → Prop} (hp : mt_ok p) (h12 : τ 0 12 = p 0 1) (hD : rr_D p τ) (h : post (mt_cnt p)) : w_X9_manySettled τ post := by
  have hnt := hp.nt
  refine m_manySettled hnt.2 (by rw [h12]; exact hnt.1) ?_
  rw [mt_cs_congr _ (fun t ht => hD.2.1 t (by omega))]; exact h
theorem m_fitOf {σ τ : bk_S} {post : Int32 → bk_S → Prop} (hi : ib σ) (hb : rb σ τ) (hpost : ∀ τ', rq τ τ' → post (mt_ft (tp σ tA)) τ') : w_X9_fitOf τ post := by
  have hp := tp_ok hi tA
  have hnh := hp.nh
  unfold w_X9_fitOf
  refine m_asTold hi hb (fun τ1 q1 a1 => ?_)
  simp only [bk_lt_iff]
  have P1 := a1.L hi
  refine bk_loop_up (mt_nh (tp σ tA) + 1) (fun k (a : bk_S) => (nI k, a)) (fun k a => rq τ a ∧ (∃ p', pL σ a p' tA (-1) (-1) ∧ ∀ v, bk_u p' 0 0 v = bk_u (tp σ tA) 0 0 v) ∧ mt_ft (tp σ tA) = mt_ff (fun k => mt_allb (bk_u (tp σ tA) 0 0 (nI k))) (mt_nh (tp σ tA) + 1 - k) k) (i0 := 0) (b0 := τ1) rfl (Nat.zero_le _) ⟨q1, ⟨_, P1, fun _ => rfl⟩, rfl⟩ ?_ ?_
  · rintro k a K hk ⟨qa, ⟨p', Pa, hp'⟩, hI⟩ hK
    rw [mt_ff_step hk] at hI
    obtain ⟨ok', nh', nt'⟩ := hp.hk (show k ≤ mt_nh (tp σ tA) by omega)
    have y2 : a 0 2 = nI (mt_nh (tp σ tA)) := by rw [tp_nh hi]; exact Pa.1.1
    have P2 := Pa.u16 (v := nI k)
    rw [hp'] at P2
    have q2 : rq τ (bk_u a 0 16 (nI k)) := qa.u (by omega)
    refine ⟨fun hlt => ?_, fun _ => ?_⟩
    · have hlt : a 0 2 < nI k := hlt
      rw [y2] at hlt; exact absurd ((nI_ltI (by omega) (by omega)).mp hlt) (by omega)
    · show w_X9_runs (bk_u a 0 16 (nI k)) _
      refine m_runs ok' (P2.P0 hi (hb.q q2) (by rw [nh', ← tp_nh hi tA]; omega) (by rw [bk_u_row _ (by omega)]) (by rw [bk_u_row _ (by omega)]) (by rw [bk_u_row _ (by omega)])) (fun τ2 F2 D2 => ?_)
      have P3 := P2.f F2.f
      refine m_many (σ := σ) ok' P3.2.1 D2 ?_
      have y4 : τ2 0 4 = nI (mt_nt (bk_u (tp σ tA) 0 0 (nI k))) := by rw [nt', tp_nt hi]; exact P3.1.2.1
      have hnt := ok'.nt.2
      have hcs := mt_cs_le (mt_ev (bk_u (tp σ tA) 0 0 (nI k)) 11 1) (mt_nt (bk_u (tp σ tA) 0 0 (nI k)))
      rw [y4]
      unfold mt_cnt
      rw [nI_eq (by omega) (by omega)]
      simp only [nI_1]
      refine ⟨fun hne => hK τ2 ⟨q2.tr F2.q, ⟨_, P3, fun v => ?_⟩, ?_⟩, fun heq => ?_⟩
      · funext r j
        rw [bk_u_at, bk_u_at, bk_u_at]
        by_cases h : r = 0 ∧ j = 0
        · rw [if_pos h, if_pos h]
        · rw [if_neg h, if_neg h, if_neg h]
      · rw [hI, if_neg (by unfold mt_allb; simpa using hne)]
      · have := hpost τ2 (q2.tr F2.q)
        rw [hI, if_pos (by unfold mt_allb; simpa using heq)] at this; exact this
  · rintro a K ⟨qa, ⟨p', Pa, hp'⟩, hI⟩
    rw [Nat.sub_self] at hI
    have y2 : a 0 2 = nI (mt_nh (tp σ tA)) := by rw [tp_nh hi]; exact Pa.1.1
    refine ⟨fun _ => ?_, fun hn => absurd ?_ hn⟩
    · have := hpost a qa; rw [hI] at this; exact this
    · show a 0 2 < nI (mt_nh (tp σ tA) + 1)
      rw [y2]; exact nI_lt (by omega) (by omega)
/-- what a trial has found so far -/
def tq (s : mt_Q) (c : Int32) (τ : bk_S) : Prop := τ 0 42 = c ∧ τ 0 43 = s.2.2.1 ∧ τ 0 44 = s.2.2.2
theorem m_tries {x c : Int32} {σ τ p : bk_S} {s : mt_Q} {a b : Int32} {post : bk_S → Prop} (hp : mt_ok p) (hP : rr_P τ p) (h12 : τ 0 12 = p 0 1) (hq : tq s c τ) (hpost : ∀ τ', pf τ τ' → tq (mt_of s a b (mt_cnt p) (mt_hol p)) (if s.2.2.1 < mt_cnt p ∨ (mt_cnt p = s.2.2.1 ∧ s.2.2.2 < mt_hol p) then x else c) τ' → post τ') : w_X9_tries x τ post := by
  unfold w_X9_tries
  refine m_runs hp hP (fun τ1 F1 D1 => ?_)
  have cc : ∀ j, (¬ (20 ≤ j ∧ j ≤ 31)) → τ1 0 j = τ 0 j := fun j hj => F1 0 j (by omega) (by omega)
  refine m_many (σ := σ) hp (by rw [cc 12 (by omega)]; exact h12) D1 ?_
  simp only [bk_lt_iff, bk_jn_iff]
  have e29 : τ1 0 29 = mt_hol p := D1.1.2.2.2.2.2.2.2.1
  have x29 : bk_u (bk_u τ1 0 42 x) 0 43 (mt_cnt p) 0 29 = mt_hol p := by rw [bk_u_at, if_neg (by omega), bk_u_at, if_neg (by omega)]; exact e29
  obtain ⟨h42, h43, h44⟩ := hq
  rw [x29, e29, cc 43 (by omega), cc 44 (by omega), h43, h44]
  have new : (s.2.2.1 < mt_cnt p ∨ (mt_cnt p = s.2.2.1 ∧ s.2.2.2 < mt_hol p)) → post (bk_u (bk_u (bk_u τ1 0 42 x) 0 43 (mt_cnt p)) 0 44 (mt_hol p)) := by
    intro hb
    refine hpost _ (((F1.f.u (by omega)).u (by omega)).u (by omega)) ?_
    unfold mt_of; rw [if_pos hb, if_pos hb]
    refine ⟨?_, ?_, ?_⟩ <;> simp [bk_u_at]
  have old : ¬ (s.2.2.1 < mt_cnt p ∨ (mt_cnt p = s.2.2.1 ∧ s.2.2.2 < mt_hol p)) → post τ1 := by
    intro hb
    refine hpost _ F1.f ?_
    unfold mt_of; rw [if_neg hb, if_neg hb]
    exact ⟨by rw [cc 42 (by omega)]; exact h42, by rw [cc 43 (by omega)]; exact h43, by rw [cc 44 (by omega)]; exact h44⟩
  refine ⟨fun hlt => new (Or.inl hlt), fun hlt => ⟨fun hne => old (fun q => q.elim hlt (fun q => hne q.1)), fun heq => ⟨fun hle => old (fun q => q.elim hlt (fun q => absurd q.2 (Int32.not_lt.mpr hle))), fun hle => new (Or.inr ⟨heq, Int32.not_le.mp hle⟩)⟩⟩⟩
theorem m_starts {σ τ : bk_S} {post : bk_S → Prop} (hi : ib σ) (hb : rb σ τ) (hpost : ∀ τ', rq τ τ' → pL σ τ' (tp σ tA) tA (-1) (-1) → tq mt_q0 (-1) τ' → post τ') : w_X9_starts τ post := by
  unfold w_X9_starts
  refine m_asTold hi hb (fun τ1 q1 a1 => ?_)
  simp only [bk_lt_iff]
  refine hpost _ (((q1.u (by omega)).u (by omega)).u (by omega)) ((a1.L hi).f ((((pf.rf τ1).u (by omega)).u (by omega)).u (by omega))) ?_
  refine ⟨?_, ?_, ?_⟩ <;> simp [bk_u_at, mt_q0]
theorem m_leaveOf {e : Nat} {x : Int32} {σ τ : bk_S} {post : Int32 → bk_S → Prop} (hi : ib σ) (hb : rb σ τ) (he : e < 12) (hpost : ∀ τ', rq τ τ' → rd_T σ τ' → post (if x = 0 then (mt_lv (tp σ tA) e (mt_nh (tp σ tA))).1 else if x = 1 then (mt_lv (tp σ tA) e (mt_nh (tp σ tA))).2.2.1 else (mt_lv (tp σ tA) e (mt_nh (tp σ tA))).2.2.2) τ') : w_X9_leaveOf (nI e) x τ post := by
  have hp := tp_ok hi tA
  have hnh := hp.nh
  unfold w_X9_leaveOf
  refine m_starts hi hb (fun τ1 q1 P1 t1 => ?_)
  simp only [bk_lt_iff]
  refine bk_jn_of (fun a => rq τ a ∧ rd_T σ a ∧ tq (mt_lv (tp σ tA) e (mt_nh (tp σ tA))) (mt_lv (tp σ tA) e (mt_nh (tp σ tA))).1 a) (fun K hK => ?_) (fun a ha => ?_)
  · refine bk_loop_up (mt_nh (tp σ tA)) (fun k (a : bk_S) => (nI k, a)) (fun k a => rq τ a ∧ (∃ bh, pL σ a (tp σ tA) tA (nI e) bh) ∧ tq (mt_lv (tp σ tA) e k) (mt_lv (tp σ tA) e k).1 a) (i0 := 0) (b0 := bk_u τ1 0 17 (nI e)) rfl (Nat.zero_le _) ⟨q1.u (by omega), ⟨_, P1.u17⟩, ?_⟩ ?_ ?_
    · unfold tq at t1 ⊢
      rw [bk_u_at, if_neg (by omega), bk_u_at, if_neg (by omega), bk_u_at, if_neg (by omega)]; exact t1
    · rintro k a K2 hk ⟨qa, ⟨bh, Pa⟩, ta⟩ hK2
      obtain ⟨ok', nh', nt'⟩ := hp.lp e k
      have y2 : a 0 2 = nI (mt_nh (tp σ tA)) := by rw [tp_nh hi]; exact Pa.1.1
      refine ⟨fun hle => ?_, fun _ => ?_⟩
      · have hle : a 0 2 ≤ nI k := hle
        rw [y2] at hle; exact absurd ((nI_leI (by omega) (by omega)).mp hle) (by omega)
      · show w_X9_tries (nI k) (bk_u a 0 18 (nI k)) _
        have P2 := Pa.u18 (v := nI k)
        have q2 : rq τ (bk_u a 0 18 (nI k)) := qa.u (by omega)
        have r : ∀ r, r ≠ 5 → mt_lp (tp σ tA) e k r = tp σ tA r := fun r hr => by unfold mt_lp; exact bk_u_row _ hr
        have P3 : pL σ (bk_u a 0 18 (nI k)) (mt_lp (tp σ tA) e k) tA (nI e) (nI k) := by
          unfold pL at P2 ⊢
          rw [nt', r 0 (by omega), r 2 (by omega), r 3 (by omega), r 4 (by omega)]; exact P2
        have RP := P3.P hi (hb.q q2) (by rw [nh', tp_nh hi]; exact Nat.le_refl _) (r 1 (by omega)) (fun d hd => by
            unfold mt_lp pB
            rw [bk_u_at]
            by_cases h : d = e
            · rw [if_pos ⟨rfl, h⟩, if_pos (by rw [h]), h]; rfl
            · rw [if_neg (by omega), if_neg (fun q => h ((nI_eq (by omega) (by omega)).mp q).symm), pz_or_0]; rfl) (fun d hd => by rw [r 6 (by omega)]; rfl)
        refine m_tries (σ := σ) (s := mt_lv (tp σ tA) e k) (c := (mt_lv (tp σ tA) e k).1) (a := nI k) (b := -1) ok' RP P3.2.1 ?_ (fun τ2 F2 t2 => ?_)
        · unfold tq at ta ⊢
          rw [bk_u_at, if_neg (by omega), bk_u_at, if_neg (by omega), bk_u_at, if_neg (by omega)]; exact ta
        · simp only [nI_1]
          refine hK2 τ2 ⟨q2.tr F2.q, ⟨_, P2.f F2⟩, ?_⟩
          have : (mt_lv (tp σ tA) e (k + 1)).1 = if (mt_lv (tp σ tA) e k).2.2.1 < mt_cnt (mt_lp (tp σ tA) e k) ∨ (mt_cnt (mt_lp (tp σ tA) e k) = (mt_lv (tp σ tA) e k).2.2.1 ∧ (mt_lv (tp σ tA) e k).2.2.2 < mt_hol (mt_lp (tp σ tA) e k)) then nI k else (mt_lv (tp σ tA) e k).1 := by
            rw [mt_lv, mt_of]; split <;> rfl
          rw [this]; exact t2
    · rintro a K2 ⟨qa, ⟨bh, Pa⟩, ta⟩
      refine ⟨fun _ => hK a ⟨qa, Pa.1, ta⟩, fun hn => absurd ?_ hn⟩
      show a 0 2 ≤ nI (mt_nh (tp σ tA))
      have y2 : a 0 2 = nI (mt_nh (tp σ tA)) := by rw [tp_nh hi]; exact Pa.1.1
      rw [y2]; exact (nI_leI (by omega) (by omega)).mpr (Nat.le_refl _)
  · obtain ⟨qa, Ta, t42, t43, t44⟩ := ha
    have := hpost a qa Ta
    rw [t42, t43, t44]
    refine ⟨fun hx => ⟨fun hx1 => ?_, fun hx1 => ?_⟩, fun hx => ?_⟩
    · rwa [if_neg hx, if_neg hx1] at this
    · rwa [if_neg hx, if_pos hx1] at this
    · rwa [if_pos hx] at this
def pu (q p : bk_S) (a b : Nat) : bk_S := fun r j => if (r = 2 ∨ r = 3 ∨ r = 4) ∧ j = a then p r b else q r j
theorem m_puts {a b : Nat} {σ τ q : bk_S} {wh : Nat → Bool} {be bh : Int32} {post : bk_S → Prop} (hi : ib σ) (ha : a < mt_nt (tp σ tA)) (hb : b < mt_nt (tp σ tA)) (h : pL σ τ q wh be bh) (hpost : ∀ τ', (∀ k, k ≠ 14 → k ≠ 15 → k ≠ 16 → τ' k = τ k) → pL σ τ' (pu q (tp σ tA) a b) wh be bh → post τ') : w_X9_puts (nI a) (nI b) τ post := by
  have hnt := (tp_ok hi tA).nt.2
  unfold w_X9_puts
  simp only [bk_lt_iff, nI_clamp (show a < 2 ^ 31 by omega), nI_clamp (show b < 2 ^ 31 by omega)]
  have v9 : vp_in (nI b) 9 := (pz_in (by omega)).mpr (by omega)
  have v8 : vp_in (nI a) 8 := (pz_in (by omega)).mpr (by omega)
  refine ⟨v9, v8, v9, v8, v9, v8, hpost _ (fun k h1 h2 h3 => by rw [bk_u_row _ h3, bk_u_row _ h2, bk_u_row _ h1]) ?_⟩
  obtain ⟨t, h12, h16, h14, h15, hm, h17, h18, h19⟩ := h
  rw [tp_nt hi] at hb
  obtain ⟨t1, t2, t3⟩ := t.2.2.2 b hb
  have nt : mt_nt (pu q (tp σ tA) a b) = mt_nt q := rfl
  rw [bk_u_row (a := 8) (k := 15) _ (by omega), bk_u_row (a := 8) (k := 14) _ (by omega), bk_u_row (a := 7) (k := 14) _ (by omega), t1, t2, t3]
  refine ⟨((t.u (by omega)).u (by omega)).u (by omega), ?_, ?_, fun k hk => ?_, fun k hk => ?_, fun k hk => ?_, ?_, ?_, ?_⟩
  · rw [bk_u_row _ (by omega), bk_u_row _ (by omega), bk_u_row _ (by omega)]; exact h12
  · rw [bk_u_row _ (by omega), bk_u_row _ (by omega), bk_u_row _ (by omega)]; exact h16
  · rw [bk_u_row _ (by omega), bk_u_row _ (by omega), bk_u_at]
    unfold pu
    by_cases e : k = a
    · rw [if_pos ⟨rfl, e⟩, if_pos ⟨Or.inl rfl, e⟩]; rfl
    · rw [if_neg (by omega), if_neg (by omega)]; exact h14 k hk
  · rw [bk_u_row _ (by omega), bk_u_at]
    unfold pu
    by_cases e : k = a
    · rw [if_pos ⟨rfl, e⟩, if_pos ⟨Or.inr (Or.inl rfl), e⟩]; rfl
    · rw [if_neg (by omega), if_neg (by omega), bk_u_row _ (by omega)]; exact h15 k hk
  · rw [bk_u_at]
    unfold pu
    by_cases e : k = a
    · rw [if_pos ⟨rfl, e⟩, if_pos ⟨Or.inr (Or.inr rfl), e⟩]; rfl
    · rw [if_neg (by omega), if_neg (by omega), bk_u_row _ (by omega), bk_u_row _ (by omega)]; exact hm k hk
  · rw [bk_u_row _ (by omega), bk_u_row _ (by omega), bk_u_row _ (by omega)]; exact h17
  · rw [bk_u_row _ (by omega), bk_u_row _ (by omega), bk_u_row _ (by omega)]; exact h18
  · rw [bk_u_row _ (by omega), bk_u_row _ (by omega), bk_u_row _ (by omega)]; exact h19
theorem pu_x (p : bk_S) {a b : Nat} (hab : a ≠ b) : pu (pu p p a b) p b a = mt_xp p a b := by
  funext r j
  unfold pu mt_xp
  by_cases hr : r = 2 ∨ r = 3 ∨ r = 4
  · simp only [hr, true_and, if_true]
    by_cases h1 : j = b
    · rw [if_pos h1, if_neg (by omega), if_pos h1]
    · rw [if_neg h1]
      by_cases h2 : j = a
      · rw [if_pos h2, if_pos h2]
      · rw [if_neg h2, if_neg h2, if_neg h1]
  · simp [hr]
theorem pu_b (p : bk_S) (a b : Nat) : pu (pu (mt_xp p a b) p a a) p b b = p := by
  funext r j
  unfold pu mt_xp
  by_cases hr : r = 2 ∨ r = 3 ∨ r = 4
  · simp only [hr, true_and, if_true]
    by_cases h1 : j = b
    · rw [if_pos h1, h1]
    · rw [if_neg h1]
      by_cases h2 : j = a
      · rw [if_pos h2, h2]
      · rw [if_neg h2, if_neg h2, if_neg h1]
  · simp [hr]
def cq (s : mt_Q) : Int32 := if s.1 = -1 then -1 else 8 * s.1 + s.2.1
theorem pf.p {a b : bk_S} (h : ∀ k, k ≠ 14 → k ≠ 15 → k ≠ 16 → b k = a k) : rq a b := ⟨fun r hr => h r (by omega) (by omega) (by omega), by rw [h 0 (by omega) (by omega) (by omega)], by rw [h 0 (by omega) (by omega) (by omega)], by rw [h 0 (by omega) (by omega) (by omega)]⟩
theorem mt_si_in (p : bk_S) (n a : Nat) (ha : a < n) (s : mt_Q) (hs : (s.1 = -1 ∧ s.2.1 = -1) ∨ ∃ i j, i < n ∧ j < n ∧ s.1 = nI i ∧ s.2.1 = nI j) : ∀ m, a + 1 + m ≤ n → ((mt_si p a s m).1 = -1 ∧ (mt_si p a s m).2.1 = -1) ∨ ∃ i j, i < n ∧ j < n ∧ (mt_si p a s m).1 = nI i ∧ (mt_si p a s m).2.1 = nI j
  | 0, _ => hs
  | m + 1, h => by
    rw [mt_si, mt_of]
    split
    · exact Or.inr ⟨a, a + 1 + m, ha, by omega, rfl, rfl⟩
    · exact mt_si_in p n a ha s hs m (by omega)
theorem mt_so_in (p : bk_S) : ∀ a, a ≤ mt_nt p → ((mt_so p a).1 = -1 ∧ (mt_so p a).2.1 = -1) ∨ ∃ i j, i < mt_nt p ∧ j < mt_nt p ∧ (mt_so p a).1 = nI i ∧ (mt_so p a).2.1 = nI j
  | 0, _ => Or.inl ⟨rfl, rfl⟩
  | a + 1, h => by
    rw [mt_so]
    exact mt_si_in p (mt_nt p) a (by omega) _ (mt_so_in p a (by omega)) _ (by omega)
def sv (s : mt_Q) (x : Int32) : Int32 := if x = 0 then s.1 else if x = 1 then s.2.1 else if x = 2 then s.2.2.1 else s.2.2.2
theorem pz_divmod8 {i j : Nat} (hj : j < 8) (hi : i < 8) : nI (8 * i + j) / 8 = nI i ∧ nI (8 * i + j) - nI (8 * i + j) / 8 * 8 = nI j := by
  have : ∀ i, i < 8 → ∀ j, j < 8 → (nI (8 * i + j) / 8 = nI i ∧ nI (8 * i + j) - nI (8 * i + j) / 8 * 8 = nI j) := by decide +kernel
  exact this i hi j hj
theorem m_swapOf {x : Int32} {σ τ : bk_S} {post : Int32 → bk_S → Prop} (hi : ib σ) (hb : rb σ τ) (hpost : ∀ τ', rq τ τ' → post (if (mt_so (tp σ tA) (mt_nt (tp σ tA))).1 = -1 then -1 else sv (mt_so (tp σ tA) (mt_nt (tp σ tA))) x) τ') : w_X9_swapOf x τ post := by
  have hp := tp_ok hi tA
  have hnt := hp.nt
  unfold w_X9_swapOf
  refine m_starts hi hb (fun τ1 q1 P1 t1 => ?_)
  simp only [bk_lt_iff]
  have y4 : ∀ a q, pL σ a q tA (-1) (-1) → a 0 4 = nI (mt_nt (tp σ tA)) := fun a q Pa => by rw [tp_nt hi]; exact Pa.1.2.1
  refine bk_jn_of (fun a => rq τ a ∧ tq (mt_so (tp σ tA) (mt_nt (tp σ tA))) (cq (mt_so (tp σ tA) (mt_nt (tp σ tA)))) a) (fun K hK => ?_) (fun a ha => ?_)
  · refine bk_loop_up (mt_nt (tp σ tA)) (fun k (a : bk_S) => (nI k, a)) (fun k a => rq τ a ∧ pL σ a (tp σ tA) tA (-1) (-1) ∧ tq (mt_so (tp σ tA) k) (cq (mt_so (tp σ tA) k)) a) (i0 := 0) (b0 := τ1) rfl (Nat.zero_le _) ⟨q1, P1, t1⟩ ?_ ?_
    · rintro a τa K2 ha ⟨qa, Pa, ta⟩ hK2
      refine ⟨fun hle => ?_, fun _ => ?_⟩
      · have hle : τa 0 4 ≤ nI a := hle
        rw [y4 _ _ Pa] at hle; exact absurd ((nI_leI (by omega) (by omega)).mp hle) (by omega)
      · simp only [nI_1]
        refine bk_loop_up (mt_nt (tp σ tA) - (a + 1)) (fun m (y : bk_S) => (nI (a + 1 + m), y)) (fun m y => rq τ y ∧ pL σ y (tp σ tA) tA (-1) (-1) ∧ tq (mt_si (tp σ tA) a (mt_so (tp σ tA) a) m) (cq (mt_si (tp σ tA) a (mt_so (tp σ tA) a) m)) y) (i0 := 0) (b0 := τa) rfl (Nat.zero_le _) ⟨qa, Pa, ta⟩ ?_ ?_
        · rintro m y K3 hm ⟨qy, Py, ty⟩ hK3
          have hbm : a + 1 + m < mt_nt (tp σ tA) := by omega
          obtain ⟨ok', nh', nt'⟩ := hp.xp ha hbm
          refine ⟨fun hle => ?_, fun _ => ?_⟩
          · have hle : y 0 4 ≤ nI (a + 1 + m) := hle
            rw [y4 _ _ Py] at hle; exact absurd ((nI_leI (by omega) (by omega)).mp hle) (by omega)
          · show w_X9_puts (nI a) (nI (a + 1 + m)) y _
            refine m_puts hi ha hbm Py (fun y1 f1 Py1 => ?_)
            refine m_puts hi hbm ha Py1 (fun y2 f2 Py2 => ?_)
            rw [pu_x _ (by omega)] at Py2
            have q2 : rq τ y2 := (qy.tr (pf.p f1)).tr (pf.p f2)
            have ty2 : tq (mt_si (tp σ tA) a (mt_so (tp σ tA) a) m) (cq (mt_si (tp σ tA) a (mt_so (tp σ tA) a) m)) y2 := by
              unfold tq at ty ⊢; rw [f2 0 (by omega) (by omega) (by omega), f1 0 (by omega) (by omega) (by omega)]; exact ty
            have e8 : (8 : Int32) * nI a + nI (a + 1 + m) = nI (8 * a + (a + 1 + m)) := by rw [pz_8, pz_mulr, nI_add]
            rw [e8]
            refine m_tries (σ := σ) (a := nI a) (b := nI (a + 1 + m)) ok' (Py2.P0 hi (hb.q q2) (by rw [nh', tp_nh hi]; exact Nat.le_refl _) rfl rfl rfl) Py2.2.1 ty2 (fun y3 F3 t3 => ?_)
            have Py3 := Py2.f F3
            refine m_puts hi ha ha Py3 (fun y4' f4 Py4 => ?_)
            refine m_puts hi hbm hbm Py4 (fun y5 f5 Py5 => ?_)
            rw [pu_b] at Py5
            have e1 : nI (a + 1 + m) + 1 = nI (a + 1 + (m + 1)) := by rw [nI_1]; congr 1
            rw [e1]
            refine hK3 y5 ⟨((q2.tr F3.q).tr (pf.p f4)).tr (pf.p f5), Py5, ?_⟩
            have t5 : ∀ s c, tq s c y3 → tq s c y5 := fun s c h => by unfold tq at h ⊢; rw [f5 0 (by omega) (by omega) (by omega), f4 0 (by omega) (by omega) (by omega)]; exact h
            have ec : cq (mt_si (tp σ tA) a (mt_so (tp σ tA) a) (m + 1)) = if (mt_si (tp σ tA) a (mt_so (tp σ tA) a) m).2.2.1 < mt_cnt (mt_xp (tp σ tA) a (a + 1 + m)) ∨ (mt_cnt (mt_xp (tp σ tA) a (a + 1 + m)) = (mt_si (tp σ tA) a (mt_so (tp σ tA) a) m).2.2.1 ∧ (mt_si (tp σ tA) a (mt_so (tp σ tA) a) m).2.2.2 < mt_hol (mt_xp (tp σ tA) a (a + 1 + m))) then nI (8 * a + (a + 1 + m)) else cq (mt_si (tp σ tA) a (mt_so (tp σ tA) a) m) := by
              rw [mt_si, mt_of]
              split
              · show (if nI a = -1 then (-1 : Int32) else 8 * nI a + nI (a + 1 + m)) = _
                rw [if_neg (pz_ne_m1 (by omega)), e8]
              · rfl
            rw [ec]
            exact t5 _ _ t3
        · rintro y K3 ⟨qy, Py, ty⟩
          refine ⟨fun _ => hK2 y ⟨qy, Py, ty⟩, fun hn => absurd ?_ hn⟩
          show y 0 4 ≤ nI (a + 1 + (mt_nt (tp σ tA) - (a + 1)))
          rw [y4 _ _ Py]; exact (nI_leI (by omega) (by omega)).mpr (by omega)
    · rintro a K2 ⟨qa, Pa, ta⟩
      refine ⟨fun _ => hK a ⟨qa, ta⟩, fun hn => absurd ?_ hn⟩
      show a 0 4 ≤ nI (mt_nt (tp σ tA))
      rw [y4 _ _ Pa]; exact (nI_leI (by omega) (by omega)).mpr (Nat.le_refl _)
  · obtain ⟨qa, t42, t43, t44⟩ := ha
    have hq := hpost a qa
    have hin := mt_so_in (tp σ tA) _ (Nat.le_refl _)
    generalize mt_so (tp σ tA) (mt_nt (tp σ tA)) = S at *
    rw [t42, t43, t44]
    unfold cq
    rcases hin with ⟨h1, h2⟩ | ⟨i, j, hi2, hj, h1, h2⟩
    · rw [if_pos h1] at hq ⊢
      exact ⟨fun hn => absurd rfl hn, fun _ => hq⟩
    · have n1 : ¬ S.1 = -1 := by rw [h1]; exact pz_ne_m1 (by omega)
      rw [if_neg n1] at hq ⊢
      have e8 : (8 : Int32) * S.1 + S.2.1 = nI (8 * i + j) := by rw [h1, h2, pz_8, pz_mulr, nI_add]
      obtain ⟨d1, d2⟩ := pz_divmod8 (i := i) (j := j) (by omega) (by omega)
      rw [e8, d2, d1]
      have n8 : ¬ (8 : Int32) = 0 := by decide
      unfold sv at hq
      refine ⟨fun _ => ⟨fun hx => ⟨fun hx1 => ⟨fun hx2 => ?_, fun hx2 => ?_⟩, fun hx1 => ⟨n8, ?_⟩⟩, fun hx => ⟨n8, ?_⟩⟩, fun q => absurd q (pz_ne_m1 (by omega))⟩
      · rwa [if_neg hx, if_neg hx1, if_neg hx2] at hq
      · rwa [if_neg hx, if_neg hx1, if_pos hx2] at hq
      · rw [if_neg hx, if_pos hx1, h2] at hq; exact hq
      · rw [if_pos hx, h1] at hq; exact hq
