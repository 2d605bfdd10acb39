/-! Steps: an event, a sight, a finding. -/
def ea (σ : bk_S) (x y z : Int32) : bk_S := nC (bk_u (bk_u (bk_u (bk_u σ 6 (bs_ne σ) x) 7 (bs_ne σ) y) 8 (bs_ne σ) z) 5 3 (nI (bs_ne σ + 1)))
def ra (τ : bk_S) (n : Nat) (x y z : Int32) : bk_S := bk_u (bk_u (bk_u (bk_u τ 10 n x) 11 n y) 12 n z) 0 8 (nI (n + 1))
abbrev eo (x y z : Int32) : Prop := bw x 3 ∧ bw y 12 ∧ bw z 12
theorem c_append5 {x y z : Int32} {σ : bk_S} {n : Nat} {post : bk_S → Prop} (hn : n < 8) (h2 : σ 5 3 = nI n) (h : post (bk_u (bk_u (bk_u (bk_u σ 6 n x) 7 n y) 8 n z) 5 3 (nI (n + 1)))) : w_X7_append 5 x y z σ post := by
  unfold w_X7_append w_X7_isFull
  simp only [bk_lt_iff]
  have hv : vp_in (nI n) 8 := (pz_in (by omega)).mpr hn
  rw [h2, nI_clamp (by omega), bk_u_row (a := 5) _ (by omega), h2, nI_clamp (by omega), bk_u_row (a := 5) (k := 5 + 2) _ (by omega), bk_u_row (a := 5) (k := 5 + 1) _ (by omega), h2, nI_clamp (by omega), bk_u_row (a := 5) (k := 5 + 3) _ (by omega), bk_u_row (a := 5) (k := 5 + 2) _ (by omega), bk_u_row (a := 5) (k := 5 + 1) _ (by omega), h2, nI_1]
  exact ⟨fun _ => ⟨fun _ => ⟨hv, hv, hv, h⟩, fun q => absurd trivial q⟩, fun q => absurd (nI_lt (b := 8) (by omega) (by omega)) q⟩
theorem c_isEvent {x y z : Int32} {post : Int32 → Prop} (h1 : eo x y z → post 1) (h0 : ¬ eo x y z → post 0) : w_X8_isEvent x y z post := by
  unfold w_X8_isEvent
  simp only [bk_jn_iff]
  refine c_isBelow (fun b1 => br1 (c_isEvening (fun b2 => br1 (c_isBelow (fun b3 => br1 (h1 ⟨b1, b2, b3⟩)) (fun b3 => br0 (h0 (fun q => b3 q.2.2))))) (fun b2 => br0 (h0 (fun q => b2 q.2.1))))) (fun b1 => br0 (h0 (fun q => b1 q.1)))
theorem c_event {x y z : Int32} {σ : bk_S} {post : Int32 → bk_S → Prop} (hi : ib σ) (h1 : eo x y z → bs_ne σ < 8 → post (nI (bs_ne σ + 1)) (ea σ x y z)) (h2 : eo x y z → bs_ne σ = 8 → post (-4) σ) (h0 : ¬ eo x y z → post (-2) σ) : w_X8_event x y z σ post := by
  obtain ⟨hn, h53⟩ := hi.2.2.2.2.2.1
  refine c_isEvent (fun b => br1' ?_) (fun b => br0' (h0 b))
  unfold w_X7_isFull
  rw [h53]
  refine ⟨fun lt => ?_, fun ge => ?_⟩
  · have lt : bs_ne σ < 8 := (nI_ltI (b := 8) (by omega) (by omega)).mp lt
    refine br0 (c_append5 lt h53 (c_note ?_))
    rw [nC_row _ (by omega), bk_u_same]; exact h1 b lt
  · have : ¬ bs_ne σ < 8 := fun q => ge (nI_lt (b := 8) q (by omega))
    exact br1 (h2 b (by omega))
theorem m_event {x y z : Int32} {n : Nat} {τ : bk_S} {post : Int32 → bk_S → Prop} (hn : n ≤ 8) (h8 : τ 0 8 = nI n) (h1 : eo x y z → n < 8 → post (nI (n + 1)) (ra τ n x y z)) (h2 : eo x y z → n = 8 → post (-4) τ) (h0 : ¬ eo x y z → post (-2) τ) : w_X9_event x y z τ post := by
  refine m_isThree (fun b1 => br1 (m_isTwelve (fun b2 => br1 (m_isTwelve (fun b3 => br1' ?_) (fun b3 => br0' (h0 (fun q => b3 q.2.2))))) (fun b2 => br0 (h0 (fun q => b2 q.2.1))))) (fun b1 => br0 (h0 (fun q => b1 q.1)))
  simp only [bk_lt_iff]
  have r : ∀ (σ : bk_S) (k i : Nat) (v : Int32), 0 < k → bk_u σ k i v 0 = σ 0 := fun σ k i v hk => bk_u_row _ (by omega)
  simp only [r _ 10 _ _ (by omega), r _ 11 _ _ (by omega), r _ 12 _ _ (by omega), h8, nI_clamp (show n < 2 ^ 31 by omega), nI_1, bk_u_same]
  rw [pz_8, nI_eq (by omega) (by omega)]
  have hv : n < 8 → vp_in (nI n) 8 := fun q => (pz_in (by omega)).mpr q
  exact ⟨fun ne => ⟨hv (by omega), hv (by omega), hv (by omega), h1 ⟨b1, b2, b3⟩ (by omega)⟩, fun e => h2 ⟨b1, b2, b3⟩ e⟩
theorem ea_ok {x y z : Int32} {σ τ : bk_S} (hi : ib σ) (hb : rb σ τ) (o : eo x y z) (lt : bs_ne σ < 8) : cI (ea σ x y z) ∧ rb (ea σ x y z) (ra τ (bs_ne σ) x y z) ∧ bs_ne (ea σ x y z) = bs_ne σ + 1 ∧ (∀ k, 9 ≤ k → ea σ x y z k = σ k) := by
  obtain ⟨o1, o2, o3⟩ := o
  have hne : bs_ne (ea σ x y z) = bs_ne σ + 1 := by
    unfold ea
    rw [bs_ne_E (nC_E _)]
    show Int32.toNatClampNeg (bk_u _ 5 3 (nI (bs_ne σ + 1)) 5 3) = _
    rw [bk_u_same]; exact nI_clamp (by omega)
  have row : ∀ k, ¬ (5 ≤ k ∧ k ≤ 8) → (bk_u (bk_u (bk_u (bk_u σ 6 (bs_ne σ) x) 7 (bs_ne σ) y) 8 (bs_ne σ) z) 5 3 (nI (bs_ne σ + 1))) k = σ k := fun k hk => by
    rw [bk_u_row _ (by omega), bk_u_row _ (by omega), bk_u_row _ (by omega), bk_u_row _ (by omega)]
  have r6 : ∀ i, (bk_u (bk_u (bk_u (bk_u σ 6 (bs_ne σ) x) 7 (bs_ne σ) y) 8 (bs_ne σ) z) 5 3 (nI (bs_ne σ + 1))) 6 i = if i = bs_ne σ then x else σ 6 i := fun i => by
    rw [bk_u_row _ (by omega), bk_u_row _ (by omega), bk_u_row _ (by omega), bk_u_at]; simp
  have r7 : ∀ i, (bk_u (bk_u (bk_u (bk_u σ 6 (bs_ne σ) x) 7 (bs_ne σ) y) 8 (bs_ne σ) z) 5 3 (nI (bs_ne σ + 1))) 7 i = if i = bs_ne σ then y else σ 7 i := fun i => by
    rw [bk_u_row _ (by omega), bk_u_row _ (by omega), bk_u_at, bk_u_row _ (by omega)]; simp
  have r8 : ∀ i, (bk_u (bk_u (bk_u (bk_u σ 6 (bs_ne σ) x) 7 (bs_ne σ) y) 8 (bs_ne σ) z) 5 3 (nI (bs_ne σ + 1))) 8 i = if i = bs_ne σ then z else σ 8 i := fun i => by
    rw [bk_u_row _ (by omega), bk_u_at, bk_u_row _ (by omega), bk_u_row _ (by omega)]; simp
  refine ⟨cI_nC (ib_ev (n := bs_ne σ + 1) hi (fun k _ _ hk => row k hk) (by omega) (bk_u_same _ _ _ _) (fun i hi2 => ?_)), rb.E (rb_ev (n := bs_ne σ + 1) hb (fun k _ _ hk => row k hk) (by rw [row 0 (by omega)]) (by omega) (bk_u_same _ _ _ _) (fun j hj => ?_) (fun k h1 h2 => ?_) ?_ (fun i hi2 => ?_)) (nC_E _), hne, fun k hk => ?_⟩
  · rw [r6, r7, r8]
    by_cases e : i = bs_ne σ
    · rw [if_pos e, if_pos e, if_pos e]
      obtain ⟨a, ha, rfl⟩ := bw_3 o1
      obtain ⟨b, hb2, rfl⟩ := bw_12 o2
      obtain ⟨c, hc, rfl⟩ := bw_12 o3
      refine ⟨?_, ⟨b, hb2, rfl⟩, ⟨c, hc, rfl⟩⟩
      match a, ha with
      | 0, _ => exact Or.inl rfl
      | 1, _ => exact Or.inr (Or.inl rfl)
      | 2, _ => exact Or.inr (Or.inr rfl)
    · rw [if_neg e, if_neg e, if_neg e]; exact hi.2.2.2.2.2.2.1 i (by omega)
  · unfold ra; rw [bk_u_at, if_neg (by omega), bk_u_row _ (by omega), bk_u_row _ (by omega), bk_u_row _ (by omega)]
  · unfold ra; rw [bk_u_row _ (by omega), bk_u_row _ (by omega), bk_u_row _ (by omega), bk_u_row _ (by omega)]
  · unfold ra; rw [bk_u_same, bk_u_same]
  · rw [r6, r7, r8]
    have g10 : ra τ (bs_ne σ) x y z 10 i = if i = bs_ne σ then x else τ 10 i := by
      unfold ra; rw [bk_u_row _ (by omega), bk_u_row _ (by omega), bk_u_row _ (by omega), bk_u_at]; simp
    have g11 : ra τ (bs_ne σ) x y z 11 i = if i = bs_ne σ then y else τ 11 i := by
      unfold ra; rw [bk_u_row _ (by omega), bk_u_row _ (by omega), bk_u_at, bk_u_row _ (by omega)]; simp
    have g12 : ra τ (bs_ne σ) x y z 12 i = if i = bs_ne σ then z else τ 12 i := by
      unfold ra; rw [bk_u_row _ (by omega), bk_u_at, bk_u_row _ (by omega), bk_u_row _ (by omega)]; simp
    rw [g10, g11, g12]
    by_cases e : i = bs_ne σ
    · rw [if_pos e, if_pos e, if_pos e, if_pos e, if_pos e, if_pos e]; exact ⟨rfl, rfl, rfl⟩
    · rw [if_neg e, if_neg e, if_neg e, if_neg e, if_neg e, if_neg e]; exact hb.2.2.2.2.2.1 i (by omega)
  · unfold ea; rw [nC_row _ (by omega), row k (by omega)]
theorem s_event {x y z : Int32} {σ τ : bk_S} (h : RR σ τ) : stp (w_X8_event x y z σ) (w_X9_event x y z τ) := by
  obtain ⟨⟨hi, hT, hE⟩, hb⟩ := h
  obtain ⟨hn, h53⟩ := hi.2.2.2.2.2.1
  have h8 : τ 0 8 = nI (bs_ne σ) := by rw [hb.2.2.2.2.1]; exact h53
  intro P hP
  refine c_event hi (fun o lt => ?_) (fun o e => ?_) (fun o => ?_)
  · obtain ⟨a1, a2, -, -⟩ := ea_ok hi hb o lt
    exact hP _ _ a1 (fun Q hQ => m_event hn h8 (fun _ _ => hQ _ a2) (fun _ e => absurd e (by omega)) (fun n => absurd o n))
  · exact hP _ _ ⟨hi, hT, hE⟩ (fun Q hQ => m_event hn h8 (fun _ lt => absurd lt (by omega)) (fun _ _ => hQ _ hb) (fun n => absurd o n))
  · exact hP _ _ ⟨hi, hT, hE⟩ (fun Q hQ => m_event hn h8 (fun q _ => absurd q o) (fun q _ => absurd q o) (fun _ => hQ _ hb))
/-- what is told, and what came of it, stands -/
theorem cI.same {σ σ' : bk_S} (h : cI σ) (hi : ib σ') (r : ∀ k, (1 ≤ k ∧ k ≤ 8) ∨ (22 ≤ k ∧ k ≤ 28) ∨ (36 ≤ k ∧ k ≤ 47) ∨ k = 64 → σ' k = σ k) (c13 : σ' 0 13 = σ 0 13) (c14 : σ' 0 14 = σ 0 14) : cI σ' := by
  have tpe : ∀ wh, tp σ' wh = tp σ wh := fun wh => by
    unfold tp bs_n0 bs_n1 bs_ne
    rw [r 1 (by omega), r 2 (by omega), r 3 (by omega), r 4 (by omega), r 5 (by omega), r 6 (by omega), r 7 (by omega), r 8 (by omega)]
  refine ⟨hi, fun q => ?_, fun q => ?_⟩
  · rw [c13] at q
    have f := h.2.1 q
    unfold fr_T at f ⊢
    rw [tpe]
    refine ⟨f.1.sub (fun k h1 h2 => r k (by omega)), ?_⟩
    have := f.2
    unfold cr_Dn at this ⊢
    rw [r 36 (by omega), r (36 + 2) (by omega), r (36 + 3) (by omega), r (36 + 4) (by omega), r (36 + 5) (by omega), r (36 + 6) (by omega), r (36 + 7) (by omega), r (36 + 8) (by omega), r (36 + 9) (by omega), r (36 + 10) (by omega), r (36 + 11) (by omega)]
    exact this
  · rw [c14] at q
    intro w hw
    have hw : w < 2 ^ bs_ne σ := by unfold bs_ne at hw ⊢; rwa [r 5 (by omega)] at hw
    rw [tpe, tpe, r 64 (by omega)]; exact h.2.2 q w hw
theorem c_append9 {x y z : Int32} {σ : bk_S} {n : Nat} {post : bk_S → Prop} (hn : n < 8) (h2 : σ 9 3 = nI n) (h : post (bk_u (bk_u (bk_u (bk_u σ 10 n x) 11 n y) 12 n z) 9 3 (nI (n + 1)))) : w_X7_append 9 x y z σ post := by
  unfold w_X7_append w_X7_isFull
  simp only [bk_lt_iff]
  have hv : vp_in (nI n) 8 := (pz_in (by omega)).mpr hn
  rw [h2, nI_clamp (by omega), bk_u_row (a := 9) _ (by omega), h2, nI_clamp (by omega), bk_u_row (a := 9) (k := 9 + 2) _ (by omega), bk_u_row (a := 9) (k := 9 + 1) _ (by omega), h2, nI_clamp (by omega), bk_u_row (a := 9) (k := 9 + 3) _ (by omega), bk_u_row (a := 9) (k := 9 + 2) _ (by omega), bk_u_row (a := 9) (k := 9 + 1) _ (by omega), h2, nI_1]
  exact ⟨fun _ => ⟨fun _ => ⟨hv, hv, hv, h⟩, fun q => absurd trivial q⟩, fun q => absurd (nI_lt (b := 8) (by omega) (by omega)) q⟩
theorem bw_8 {x : Int32} (h : bw x 8) : ∃ j, j < 8 ∧ x = nI j := (bw_in (n := 8) (by omega)).mp h
theorem s_seen {x y z : Int32} {σ τ : bk_S} (h : RR σ τ) : stp (w_X8_seen x y z σ) (w_X9_seen x y z τ) := by
  obtain ⟨⟨hi, hT, hE⟩, hb⟩ := h
  have hR : RR σ τ := ⟨⟨hi, hT, hE⟩, hb⟩
  obtain ⟨hn, h93⟩ := hi.2.2.2.2.2.2.2.1
  have h46 : τ 0 46 = nI (bs_ns σ) := by rw [hb.2.2.2.2.2.2.1]; exact h93
  by_cases b1 : bw x 12
  · by_cases b2 : bw y 8
    · by_cases b3 : bw z 2
      · have r8 : ∀ P : Int32 → bk_S → Prop, (bs_ns σ < 8 → P (nI (bs_ns σ + 1)) (bk_u (bk_u (bk_u (bk_u σ 10 (bs_ns σ) x) 11 (bs_ns σ) y) 12 (bs_ns σ) z) 9 3 (nI (bs_ns σ + 1)))) → (bs_ns σ = 8 → P (-4) σ) → w_X8_seen x y z σ P := fun P h1 h0 => by
          refine c_isEvening (fun _ => br1 (c_isBelow (fun _ => br1 (c_isBelow (fun _ => br1' ?_) (fun q => absurd b3 q))) (fun q => absurd b2 q))) (fun q => absurd b1 q)
          unfold w_X7_isFull
          rw [h93]
          refine ⟨fun lt => br0 (c_append9 ((nI_ltI (b := 8) (by omega) (by omega)).mp lt) h93 ?_), fun ge => br1 (h0 ?_)⟩
          · rw [bk_u_same]; exact h1 ((nI_ltI (b := 8) (by omega) (by omega)).mp lt)
          · have : ¬ bs_ns σ < 8 := fun q => ge (nI_lt (b := 8) q (by omega))
            omega
        have r9 : ∀ Q : Int32 → bk_S → Prop, (bs_ns σ < 8 → Q (nI (bs_ns σ + 1)) (bk_u (bk_u (bk_u (bk_u τ 48 (bs_ns σ) x) 49 (bs_ns σ) y) 50 (bs_ns σ) z) 0 46 (nI (bs_ns σ + 1)))) → (bs_ns σ = 8 → Q (-4) τ) → w_X9_seen x y z τ Q := fun Q h1 h0 => by
          refine m_isTwelve (fun _ => br1 (m_inB (n := 8) (pz_top (n := 8) (m := 7) rfl (by omega)) (fun _ => br1 (m_isTwo (fun _ => br1' ?_) (fun q => absurd b3 q))) (fun q => absurd b2 q))) (fun q => absurd b1 q)
          simp only [bk_lt_iff]
          have r : ∀ (σ : bk_S) (k i : Nat) (v : Int32), 0 < k → bk_u σ k i v 0 = σ 0 := fun σ k i v hk => bk_u_row _ (by omega)
          simp only [r _ 48 _ _ (by omega), r _ 49 _ _ (by omega), r _ 50 _ _ (by omega), h46, nI_clamp (show bs_ns σ < 2 ^ 31 by omega), nI_1, bk_u_same]
          rw [pz_8, nI_eq (by omega) (by omega)]
          have hv : bs_ns σ < 8 → vp_in (nI (bs_ns σ)) 8 := fun q => (pz_in (by omega)).mpr q
          exact ⟨fun ne => ⟨hv (by omega), hv (by omega), hv (by omega), h1 (by omega)⟩, h0⟩
        intro P hP
        refine r8 P (fun lt => ?_) (fun e => hP _ _ hR.1 (fun Q hQ => r9 Q (fun lt => absurd lt (by omega)) (fun _ => hQ _ hb)))
        have row : ∀ k, ¬ (9 ≤ k ∧ k ≤ 12) → (bk_u (bk_u (bk_u (bk_u σ 10 (bs_ns σ) x) 11 (bs_ns σ) y) 12 (bs_ns σ) z) 9 3 (nI (bs_ns σ + 1))) k = σ k := fun k hk => by
          rw [bk_u_row _ (by omega), bk_u_row _ (by omega), bk_u_row _ (by omega), bk_u_row _ (by omega)]
        have r6 : ∀ i, (bk_u (bk_u (bk_u (bk_u σ 10 (bs_ns σ) x) 11 (bs_ns σ) y) 12 (bs_ns σ) z) 9 3 (nI (bs_ns σ + 1))) 10 i = if i = bs_ns σ then x else σ 10 i := fun i => by
          rw [bk_u_row _ (by omega), bk_u_row _ (by omega), bk_u_row _ (by omega), bk_u_at]; simp
        have r7 : ∀ i, (bk_u (bk_u (bk_u (bk_u σ 10 (bs_ns σ) x) 11 (bs_ns σ) y) 12 (bs_ns σ) z) 9 3 (nI (bs_ns σ + 1))) 11 i = if i = bs_ns σ then y else σ 11 i := fun i => by
          rw [bk_u_row _ (by omega), bk_u_row _ (by omega), bk_u_at, bk_u_row _ (by omega)]; simp
        have r8' : ∀ i, (bk_u (bk_u (bk_u (bk_u σ 10 (bs_ns σ) x) 11 (bs_ns σ) y) 12 (bs_ns σ) z) 9 3 (nI (bs_ns σ + 1))) 12 i = if i = bs_ns σ then z else σ 12 i := fun i => by
          rw [bk_u_row _ (by omega), bk_u_at, bk_u_row _ (by omega), bk_u_row _ (by omega)]; simp
        have ib' : ib (bk_u (bk_u (bk_u (bk_u σ 10 (bs_ns σ) x) 11 (bs_ns σ) y) 12 (bs_ns σ) z) 9 3 (nI (bs_ns σ + 1))) := by
          refine ib_sg (n := bs_ns σ + 1) hi (fun k _ _ hk => row k hk) (by omega) (bk_u_same _ _ _ _) (fun i hi2 => ?_)
          rw [r6, r7, r8']
          by_cases e : i = bs_ns σ
          · rw [if_pos e, if_pos e, if_pos e]
            obtain ⟨a, ha, rfl⟩ := bw_12 b1
            obtain ⟨b, hb2, rfl⟩ := bw_8 b2
            obtain ⟨c, hc, rfl⟩ := bw_2 b3
            refine ⟨⟨a, ha, rfl⟩, ⟨b, hb2, rfl⟩, ?_⟩
            match c, hc with
            | 0, _ => exact Or.inl rfl
            | 1, _ => exact Or.inr rfl
          · rw [if_neg e, if_neg e, if_neg e]; exact hi.2.2.2.2.2.2.2.2.1 i (by omega)
        refine hP _ _ (hR.1.same ib' (fun k hk => row k (by omega)) (by rw [row 0 (by omega)]) (by rw [row 0 (by omega)])) (fun Q hQ => r9 Q (fun _ => hQ _ ?_) (fun e => absurd e (by omega)))
        refine rb_sg (n := bs_ns σ + 1) hb (fun k _ _ hk => row k hk) (by rw [row 0 (by omega)]) (by omega) (bk_u_same _ _ _ _) (fun j hj => ?_) (fun k h1 h2 => ?_) (by rw [bk_u_same, bk_u_same]) (fun i hi2 => ?_)
        · rw [bk_u_at, if_neg (by omega), bk_u_row _ (by omega), bk_u_row _ (by omega), bk_u_row _ (by omega)]
        · rw [bk_u_row _ (by omega), bk_u_row _ (by omega), bk_u_row _ (by omega), bk_u_row _ (by omega)]
        · rw [r6, r7, r8']
          generalize hG : bk_u (bk_u (bk_u (bk_u τ 48 (bs_ns σ) x) 49 (bs_ns σ) y) 50 (bs_ns σ) z) 0 46 (nI (bs_ns σ + 1)) = G
          have g10 : G 48 i = if i = bs_ns σ then x else τ 48 i := by
            rw [← hG, bk_u_row _ (by omega), bk_u_row _ (by omega), bk_u_row _ (by omega), bk_u_at]; simp
          have g11 : G 49 i = if i = bs_ns σ then y else τ 49 i := by
            rw [← hG, bk_u_row _ (by omega), bk_u_row _ (by omega), bk_u_at, bk_u_row _ (by omega)]; simp
          have g12 : G 50 i = if i = bs_ns σ then z else τ 50 i := by
            rw [← hG, bk_u_row _ (by omega), bk_u_at, bk_u_row _ (by omega), bk_u_row _ (by omega)]; simp
          rw [g10, g11, g12]
          by_cases e : i = bs_ns σ
          · rw [if_pos e, if_pos e, if_pos e, if_pos e, if_pos e, if_pos e]; exact ⟨rfl, rfl, rfl⟩
          · rw [if_neg e, if_neg e, if_neg e, if_neg e, if_neg e, if_neg e]; exact hb.2.2.2.2.2.2.2.1 i (by omega)
      · exact stp.no (v := -2) hR (fun P hP => c_isEvening (fun _ => br1 (c_isBelow (fun _ => br1 (c_isBelow (fun q => absurd q b3) (fun _ => br0' hP))) (fun q => absurd b2 q))) (fun q => absurd b1 q)) (fun Q hQ => m_isTwelve (fun _ => br1 (m_inB (n := 8) (pz_top (n := 8) (m := 7) rfl (by omega)) (fun _ => br1 (m_isTwo (fun q => absurd q b3) (fun _ => br0' hQ))) (fun q => absurd b2 q))) (fun q => absurd b1 q))
    · exact stp.no (v := -2) hR (fun P hP => c_isEvening (fun _ => br1 (c_isBelow (fun q => absurd q b2) (fun _ => br0 hP))) (fun q => absurd b1 q)) (fun Q hQ => m_isTwelve (fun _ => br1 (m_inB (n := 8) (pz_top (n := 8) (m := 7) rfl (by omega)) (fun q => absurd q b2) (fun _ => br0 hQ))) (fun q => absurd b1 q))
  · exact stp.no (v := -2) hR (fun P hP => c_isEvening (fun q => absurd q b1) (fun _ => br0 hP)) (fun Q hQ => m_isTwelve (fun q => absurd q b1) (fun _ => br0 hQ))
