/-! Steps: the class and the reference do the same thing side by side. -/
def RR (σ τ : bk_S) : Prop := cI σ ∧ rb σ τ
def stp {α : Type} (w8 w9 : (α → bk_S → Prop) → Prop) : Prop := ∀ P, (∀ r σ', cI σ' → (∀ Q, (∀ τ', rb σ' τ' → Q r τ') → w9 Q) → P r σ') → w8 P
theorem stp.q {α : Type} {w8 w9 : (α → bk_S → Prop) → Prop} {σ τ : bk_S} {v : α} (hb : rb σ τ) (h8 : ∀ P, (∀ σ', cQ σ σ' → P v σ') → w8 P) (h9 : ∀ Q, (∀ τ', rq τ τ' → Q v τ') → w9 Q) : stp w8 w9 :=
  fun P hP => h8 P (fun σ' q => hP v σ' q.2 (fun Q hQ => h9 Q (fun τ' r => hQ τ' ((hb.E q.1).q r))))
theorem s_hook {x : Int32} {σ τ : bk_S} (h : RR σ τ) : stp (w_X8_hook x σ) (w_X9_hook x τ) := stp.q h.2 (fun _ => q_hook h.1) (fun _ => r_hook h.1.1 h.2)
theorem s_thing {x y : Int32} {σ τ : bk_S} (h : RR σ τ) : stp (w_X8_thing x y σ) (w_X9_thing x y τ) := stp.q h.2 (fun _ => q_thing h.1) (fun _ => r_thing h.1.1 h.2)
theorem s_heat {x y z : Int32} {σ τ : bk_S} (h : RR σ τ) : stp (w_X8_heat x y z σ) (w_X9_heat x y z τ) := stp.q h.2 (fun _ => q_heat h.1) (fun _ => r_heat h.1.1 h.2)
theorem s_said {x y : Int32} {σ τ : bk_S} (h : RR σ τ) : stp (w_X8_said x y σ) (w_X9_said x y τ) := stp.q h.2 (fun _ => q_said h.1) (fun _ => r_said h.1.1 h.2)
theorem s_at {x y : Int32} {σ τ : bk_S} (h : RR σ τ) : stp (w_X8_at x y σ) (w_X9_at x y τ) := stp.q h.2 (fun _ => q_at h.1) (fun _ => r_at h.1.1 h.2)
theorem s_settled {x : Int32} {σ τ : bk_S} (h : RR σ τ) : stp (w_X8_settled x σ) (w_X9_settled x τ) := stp.q h.2 (fun _ => q_settled h.1) (fun _ => r_settled h.1.1 h.2)
theorem s_highest {x : Int32} {σ τ : bk_S} (h : RR σ τ) : stp (w_X8_highest x σ) (w_X9_highest x τ) := stp.q h.2 (fun _ => q_highest h.1) (fun _ => r_highest h.1.1 h.2)
theorem s_sum {x : Int32} {σ τ : bk_S} (h : RR σ τ) : stp (w_X8_sum x σ) (w_X9_sum x τ) := stp.q h.2 (fun _ => q_sum h.1) (fun _ => r_sum h.1.1 h.2)
theorem s_peace {σ τ : bk_S} (h : RR σ τ) : stp (w_X8_peace σ) (w_X9_peace τ) := stp.q h.2 (fun _ => q_peace h.1) (fun _ => r_peace h.1.1 h.2)
theorem s_longest {σ τ : bk_S} (h : RR σ τ) : stp (w_X8_longest σ) (w_X9_longest τ) := stp.q h.2 (fun _ => q_longest h.1) (fun _ => r_longest h.1.1 h.2)
theorem s_sore {σ τ : bk_S} (h : RR σ τ) : stp (w_X8_sore σ) (w_X9_sore τ) := stp.q h.2 (fun _ => q_sore h.1) (fun _ => r_sore h.1.1 h.2)
theorem s_swap {x : Int32} {σ τ : bk_S} (h : RR σ τ) : stp (w_X8_swap x σ) (w_X9_swap x τ) := stp.q h.2 (fun _ => q_swap h.1) (fun _ => r_swap h.1.1 h.2)
theorem s_fit {σ τ : bk_S} (h : RR σ τ) : stp (w_X8_fit σ) (w_X9_fit τ) := stp.q h.2 (fun _ => q_fit h.1) (fun _ => r_fit h.1.1 h.2)
theorem s_leave {x y : Int32} {σ τ : bk_S} (h : RR σ τ) : stp (w_X8_leave x y σ) (w_X9_leave x y τ) := stp.q h.2 (fun _ => q_leave h.1) (fun _ => r_leave h.1.1 h.2)
theorem s_spare {x : Int32} {σ τ : bk_S} (h : RR σ τ) : stp (w_X8_spare x σ) (w_X9_spare x τ) := stp.q h.2 (fun _ => q_spare h.1) (fun _ => r_spare h.1.1 h.2)
theorem s_never {σ τ : bk_S} (h : RR σ τ) : stp (w_X8_never σ) (w_X9_never τ) := stp.q h.2 (fun _ => q_never h.1) (fun _ => r_never h.1.1 h.2)
theorem s_was {x y : Int32} {σ τ : bk_S} (h : RR σ τ) : stp (w_X8_was x y σ) (w_X9_was x y τ) := stp.q h.2 (fun _ => q_was h.1) (fun _ => r_was h.1.1 h.2)
theorem s_ask {x : Int32} {σ τ : bk_S} (h : RR σ τ) : stp (w_X8_ask x σ) (w_X9_ask x τ) := stp.q h.2 (fun _ => q_ask h.1) (fun _ => r_ask h.1.1 h.2)
theorem s_chance {x y z : Int32} {σ τ : bk_S} (h : RR σ τ) : stp (w_X8_chance x y z σ) (w_X9_chance x y z τ) := stp.q h.2 (fun _ => q_chance h.1) (fun _ => r_chance h.1.1 h.2)
theorem s_seasons {x y z : Int32} {σ τ : bk_S} (h : RR σ τ) : stp (w_X8_seasons x y z σ) (w_X9_seasons x y z τ) := stp.q h.2 (fun _ => q_seasons h.1) (fun _ => r_seasons h.1.1 h.2)
theorem s_count {x : Int32} {σ τ : bk_S} (h : RR σ τ) : stp (w_X8_count x σ) (w_X9_count x τ) := stp.q h.2 (fun _ => q_count h.1) (fun _ => r_count h.1.1 h.2)
theorem s_fault {x : Int32} {σ τ : bk_S} (h : RR σ τ) : stp (fun P => w_X8_fault x σ (fun r => P r σ)) (w_X9_fault x τ) := stp.q h.2 (fun _ hP => q_fault h.1.1 (hP σ (cQ.rf h.1))) (fun _ => r_fault h.1.1 h.2)
/-- nothing is done -/
theorem stp.no {w8 w9 : (Int32 → bk_S → Prop) → Prop} {σ τ : bk_S} {v : Int32} (h : RR σ τ) (h8 : ∀ P : Int32 → bk_S → Prop, P v σ → w8 P) (h9 : ∀ Q : Int32 → bk_S → Prop, Q v τ → w9 Q) : stp w8 w9 := fun P hP => h8 P (hP v σ h.1 (fun Q hQ => h9 Q (hQ τ h.2)))
/-- one thing is done -/
theorem stp.one {w8 w9 : (Int32 → bk_S → Prop) → Prop} {σ τ : bk_S} {v : Int32} (h : RR σ τ) (h8 : ∀ P : Int32 → bk_S → Prop, P v σ → w8 P) (h9 : ∀ Q : Int32 → bk_S → Prop, Q v τ → w9 Q) : stp w8 w9 := stp.no h h8 h9
def nC (σ : bk_S) : bk_S := bk_u (bk_u σ 0 13 1) 0 14 1
theorem nC_row (σ : bk_S) {k : Nat} (h : k ≠ 0) : nC σ k = σ k := by unfold nC; rw [bk_u_row _ h, bk_u_row _ h]
theorem nC_15 (σ : bk_S) : nC σ 0 15 = σ 0 15 := by unfold nC; rw [bk_u_at, if_neg (by omega), bk_u_at, if_neg (by omega)]
theorem nC_E (σ : bk_S) : bs_E σ (nC σ) := ⟨fun k h1 _ => nC_row σ (by omega), nC_15 σ⟩
theorem cI_nC {σ : bk_S} (h : ib σ) : cI (nC σ) := by
  refine ⟨h.E (nC_E σ), fun q => ?_, fun q => ?_⟩
  · unfold nC at q; rw [bk_u_at, if_neg (by omega), bk_u_same] at q; exact absurd q (by decide)
  · unfold nC at q; rw [bk_u_same] at q; exact absurd q (by decide)
theorem c_note {σ : bk_S} {post : bk_S → Prop} (h : post (nC σ)) : w_X8_noteChange σ post := h
theorem ib_t0 {σ σ' : bk_S} {n : Nat} (h : ib σ) (e : ∀ k, 3 ≤ k → k ≤ 21 → σ' k = σ k) (hn : n ≤ 12) (h2 : σ' 1 2 = nI n) (h1 : σ' 1 1 = σ 1 1) : ib σ' := by
  obtain ⟨a1, a2, a3, a4, a5, a6, a7, a8, a9, a10⟩ := h
  have hn' : bs_n0 σ' = n := by unfold bs_n0; rw [h2]; exact nI_clamp (by omega)
  unfold ib
  rw [hn']
  unfold bs_n1 bs_ne bs_ns at *
  rw [e 3 (by omega) (by omega), e 4 (by omega) (by omega), e 5 (by omega) (by omega), e 6 (by omega) (by omega), e 7 (by omega) (by omega), e 8 (by omega) (by omega), e 9 (by omega) (by omega), e 10 (by omega) (by omega), e 11 (by omega) (by omega), e 12 (by omega) (by omega)]
  exact ⟨⟨hn, h2⟩, a2, h1.trans a3, a4, a5, a6, a7, a8, a9, fun s hs => by rw [e (14 + 2 * s) (by omega) (by omega)]; exact a10 s hs⟩
theorem ib_t1 {σ σ' : bk_S} {n : Nat} (h : ib σ) (e : ∀ k, 1 ≤ k → k ≤ 21 → k ≠ 3 → k ≠ 4 → σ' k = σ k) (hn : n ≤ 31) (h2 : σ' 3 2 = nI n) (h1 : σ' 3 1 = σ 3 1) (hb : ∀ j, j < n → ∃ m, m < 256 ∧ σ' 4 j = nI m) : ib σ' := by
  obtain ⟨a1, a2, a3, a4, a5, a6, a7, a8, a9, a10⟩ := h
  have hn' : bs_n1 σ' = n := by unfold bs_n1; rw [h2]; exact nI_clamp (by omega)
  unfold ib
  rw [hn']
  unfold bs_n0 bs_ne bs_ns at *
  rw [e 1 (by omega) (by omega) (by omega) (by omega), e 5 (by omega) (by omega) (by omega) (by omega), e 6 (by omega) (by omega) (by omega) (by omega), e 7 (by omega) (by omega) (by omega) (by omega), e 8 (by omega) (by omega) (by omega) (by omega), e 9 (by omega) (by omega) (by omega) (by omega), e 10 (by omega) (by omega) (by omega) (by omega), e 11 (by omega) (by omega) (by omega) (by omega), e 12 (by omega) (by omega) (by omega) (by omega)]
  exact ⟨a1, ⟨hn, h2⟩, a3, h1.trans a4, hb, a6, a7, a8, a9, fun s hs => by rw [e (14 + 2 * s) (by omega) (by omega) (by omega) (by omega)]; exact a10 s hs⟩
theorem rb_t0 {σ σ' τ τ' : bk_S} {n : Nat} (h : rb σ τ) (e : ∀ k, 3 ≤ k → k ≤ 21 → σ' k = σ k) (e15 : σ' 0 15 = σ 0 15) (hn : n ≤ 12) (h2 : σ' 1 2 = nI n) (c : τ' 0 = τ 0) (r : ∀ k, 3 ≤ k → τ' k = τ k) (g0 : τ' 1 0 = σ' 1 2) (g1 : τ' 1 1 = τ 1 1) (gb : ∀ j, j < n → τ' 2 j = σ' 2 j) (gc : ∀ j, 31 ≤ j → τ' 2 j = τ 2 j) : rb σ' τ' := by
  obtain ⟨a1, a2, a3, a4, a5, a6, a7, a8, a9, a10⟩ := h
  have hn' : bs_n0 σ' = n := by unfold bs_n0; rw [h2]; exact nI_clamp (by omega)
  unfold rb
  rw [hn']
  unfold bs_n1 bs_ne bs_ns at *
  rw [e 3 (by omega) (by omega), e 4 (by omega) (by omega), e 5 (by omega) (by omega), e 6 (by omega) (by omega), e 7 (by omega) (by omega), e 8 (by omega) (by omega), e 9 (by omega) (by omega), e 10 (by omega) (by omega), e 11 (by omega) (by omega), e 12 (by omega) (by omega), c, r 10 (by omega), r 11 (by omega), r 12 (by omega), r 48 (by omega), r 49 (by omega), r 50 (by omega), r 52 (by omega), r 53 (by omega), r 54 (by omega), r 55 (by omega), e15]
  exact ⟨g0, g1.trans a2, gb, fun j hj => (gc _ (by omega)).trans (a4 j hj), a5, a6, a7, a8, fun s hs => by rw [e (14 + 2 * s) (by omega) (by omega), e (14 + 2 * s + 1) (by omega) (by omega)]; exact a9 s hs, a10⟩
theorem rb_t1 {σ σ' τ τ' : bk_S} {n : Nat} (h : rb σ τ) (e : ∀ k, 1 ≤ k → k ≤ 21 → k ≠ 3 → k ≠ 4 → σ' k = σ k) (e15 : σ' 0 15 = σ 0 15) (hn0 : bs_n0 σ ≤ 12) (hn : n ≤ 31) (h2 : σ' 3 2 = nI n) (c : τ' 0 = τ 0) (r : ∀ k, 3 ≤ k → τ' k = τ k) (g0 : τ' 1 1 = σ' 3 2) (g1 : τ' 1 0 = τ 1 0) (gb : ∀ j, j < n → τ' 2 (31 + j) = σ' 4 j) (gc : ∀ j, j < 31 → τ' 2 j = τ 2 j) : rb σ' τ' := by
  obtain ⟨a1, a2, a3, a4, a5, a6, a7, a8, a9, a10⟩ := h
  have hn' : bs_n1 σ' = n := by unfold bs_n1; rw [h2]; exact nI_clamp (by omega)
  unfold rb
  rw [hn']
  unfold bs_n0 bs_ne bs_ns at *
  rw [e 1 (by omega) (by omega) (by omega) (by omega), e 2 (by omega) (by omega) (by omega) (by omega), e 5 (by omega) (by omega) (by omega) (by omega), e 6 (by omega) (by omega) (by omega) (by omega), e 7 (by omega) (by omega) (by omega) (by omega), e 8 (by omega) (by omega) (by omega) (by omega), e 9 (by omega) (by omega) (by omega) (by omega), e 10 (by omega) (by omega) (by omega) (by omega), e 11 (by omega) (by omega) (by omega) (by omega), e 12 (by omega) (by omega) (by omega) (by omega), c, r 10 (by omega), r 11 (by omega), r 12 (by omega), r 48 (by omega), r 49 (by omega), r 50 (by omega), r 52 (by omega), r 53 (by omega), r 54 (by omega), r 55 (by omega), e15]
  exact ⟨g1.trans a1, g0, fun j hj => (gc j (by omega)).trans (a3 j hj), gb, a5, a6, a7, a8, fun s hs => by rw [e (14 + 2 * s) (by omega) (by omega) (by omega) (by omega), e (14 + 2 * s + 1) (by omega) (by omega) (by omega) (by omega)]; exact a9 s hs, a10⟩
theorem vp2 {j : Nat} (h : j < 2) : vp_in (nI j) 2 := (pz_in (by omega)).mpr h
theorem s_wipe {x : Int32} {σ τ : bk_S} (h : RR σ τ) : stp (w_X8_wipe x σ) (w_X9_wipe x τ) := by
  obtain ⟨⟨hi, hT, hE⟩, hb⟩ := h
  by_cases b : bw x 2
  · obtain ⟨j, hj, rfl⟩ := bw_2 b
    intro P hP
    refine c_isText (fun _ => br1' ?_) (fun n => absurd b n)
    unfold w_X8_textOf
    simp only [bk_lt_iff]
    rw [pz_0, nI_eq (by omega) (by omega)]
    have r9 : ∀ Q : Int32 → bk_S → Prop, Q (τ 1 j) (bk_u τ 1 j 0) → w_X9_wipe (nI j) τ Q := fun Q hQ => by
      refine m_isTwo (fun _ => br1' ?_) (fun n => absurd b n)
      simp only [bk_lt_iff, nI_clamp (show j < 2 ^ 31 by omega)]
      exact ⟨vp2 hj, vp2 hj, hQ⟩
    refine ⟨fun n0 => c_note (hP _ _ (cI_nC ?_) (fun Q hQ => r9 Q ?_)), fun e0 => c_note (hP _ _ (cI_nC ?_) (fun Q hQ => r9 Q ?_))⟩
    · exact ib_t1 (n := 0) hi (fun k h1 h2 h3 h4 => bk_u_row _ h3) (by omega) (bk_u_same _ _ _ _) (by rw [bk_u_at, if_neg (by omega)]) (fun j hj => absurd hj (Nat.not_lt_zero _))
    · obtain rfl : j = 1 := by omega
      rw [hb.2.1]
      refine hQ _ (rb.E (rb_t1 (n := 0) hb (fun k h1 h2 h3 h4 => bk_u_row _ h3) (by rw [bk_u_row _ (by omega)]) hi.1.1 (by omega) (bk_u_same _ _ _ _) (bk_u_row _ (by omega)) (fun k hk => bk_u_row _ (by omega)) (by rw [bk_u_same, bk_u_same]; rfl) (by rw [bk_u_at, if_neg (by omega)]) (fun j hj => absurd hj (Nat.not_lt_zero _)) (fun j hj => by rw [bk_u_row _ (by omega)])) (nC_E _))
    · exact ib_t0 (n := 0) hi (fun k h1 h2 => bk_u_row _ (by omega)) (by omega) (bk_u_same _ _ _ _) (by rw [bk_u_at, if_neg (by omega)])
    · obtain rfl : j = 0 := e0
      rw [hb.1]
      refine hQ _ (rb.E (rb_t0 (n := 0) hb (fun k h1 h2 => bk_u_row _ (by omega)) (by rw [bk_u_row _ (by omega)]) (by omega) (bk_u_same _ _ _ _) (bk_u_row _ (by omega)) (fun k hk => bk_u_row _ (by omega)) (by rw [bk_u_same, bk_u_same]; rfl) (by rw [bk_u_at, if_neg (by omega)]) (fun j hj => absurd hj (Nat.not_lt_zero _)) (fun j hj => by rw [bk_u_row _ (by omega)])) (nC_E _))
  · exact stp.no (v := -2) ⟨⟨hi, hT, hE⟩, hb⟩ (fun P hP => c_isText (fun q => absurd q b) (fun _ => br0' hP)) (fun Q hQ => m_isTwo (fun q => absurd q b) (fun _ => br0' hQ))
theorem s_undo {x : Int32} {σ τ : bk_S} (h : RR σ τ) : stp (w_X8_undo x σ) (w_X9_undo x τ) := by
  obtain ⟨⟨hi, hT, hE⟩, hb⟩ := h
  by_cases b : bw x 2
  · obtain ⟨j, hj, rfl⟩ := bw_2 b
    have r9 : ∀ (n : Nat) (Q : Int32 → bk_S → Prop), n ≤ 31 → τ 1 j = nI n → (n ≠ 0 → Q (nI (n - 1)) (bk_u τ 1 j (nI (n - 1)))) → (n = 0 → Q (-3) τ) → w_X9_undo (nI j) τ Q := fun n Q hn e h1 h0 => by
      refine m_isTwo (fun _ => br1' ?_) (fun n => absurd b n)
      simp only [bk_lt_iff, nI_clamp (show j < 2 ^ 31 by omega), e, bk_u_same]
      rw [pz_0, nI_eq (by omega) (by omega)]
      refine ⟨vp2 hj, fun n0 => ⟨vp2 hj, vp2 hj, vp2 hj, ?_⟩, h0⟩
      rw [show nI n - 1 = nI (n - 1) from pk_sub (b := 1) (by omega)]; exact h1 n0
    rcases (show j = 0 ∨ j = 1 by omega) with rfl | rfl
    · obtain ⟨hn, h2⟩ := hi.1
      by_cases n0 : bs_n0 σ = 0
      · refine stp.no (v := -3) ⟨⟨hi, hT, hE⟩, hb⟩ (fun P hP => c_isText (fun _ => br1' ?_) (fun n => absurd b n)) (fun Q hQ => r9 _ Q (by omega) (by rw [hb.1]; exact h2) (fun n => absurd n0 n) (fun _ => hQ))
        have e0 : σ 1 2 = 0 := by rw [h2, n0]; rfl
        exact ⟨fun e => absurd rfl e, fun _ => ⟨fun q => absurd e0 q, fun _ => hP⟩⟩
      · intro P hP
        refine c_isText (fun _ => br1' ?_) (fun n => absurd b n)
        refine ⟨fun e => absurd rfl e, fun _ => ?_⟩
        simp only [bk_lt_iff]
        rw [h2, show nI (bs_n0 σ) - 1 = nI (bs_n0 σ - 1) from pk_sub (b := 1) (by omega)]
        refine ⟨fun _ => c_note ?_, fun e => absurd ((nI_eq (b := 0) (by omega) (by omega)).mp e) n0⟩
        rw [nC_row _ (by omega), bk_u_same]
        refine hP _ _ (cI_nC (ib_t0 (n := bs_n0 σ - 1) hi (fun k h1 h2 => bk_u_row _ (by omega)) (by omega) (bk_u_same _ _ _ _) (by rw [bk_u_at, if_neg (by omega)]))) (fun Q hQ => r9 _ Q (by omega) (by rw [hb.1]; exact h2) (fun _ => hQ _ ?_) (fun n => absurd n n0))
        refine rb.E (rb_t0 (n := bs_n0 σ - 1) hb (fun k h1 h2 => bk_u_row _ (by omega)) (by rw [bk_u_row _ (by omega)]) (by omega) (bk_u_same _ _ _ _) (bk_u_row _ (by omega)) (fun k hk => bk_u_row _ (by omega)) (by rw [bk_u_same, bk_u_same]) (by rw [bk_u_at, if_neg (by omega)]) (fun j hj => ?_) (fun j hj => by rw [bk_u_row _ (by omega)])) (nC_E _)
        rw [bk_u_row _ (by omega), bk_u_row _ (by omega)]; exact hb.2.2.1 j (by omega)
    · obtain ⟨hn, h2⟩ := hi.2.1
      by_cases n0 : bs_n1 σ = 0
      · refine stp.no (v := -3) ⟨⟨hi, hT, hE⟩, hb⟩ (fun P hP => c_isText (fun _ => br1' ?_) (fun n => absurd b n)) (fun Q hQ => r9 _ Q (by omega) (by rw [hb.2.1]; exact h2) (fun n => absurd n0 n) (fun _ => hQ))
        have e0 : σ 3 2 = 0 := by rw [h2, n0]; rfl
        exact ⟨fun _ => ⟨fun q => absurd e0 q, fun _ => hP⟩, fun e => absurd e (by decide)⟩
      · intro P hP
        refine c_isText (fun _ => br1' ?_) (fun n => absurd b n)
        refine ⟨fun _ => ?_, fun e => absurd e (by decide)⟩
        simp only [bk_lt_iff]
        rw [h2, show nI (bs_n1 σ) - 1 = nI (bs_n1 σ - 1) from pk_sub (b := 1) (by omega)]
        refine ⟨fun _ => c_note ?_, fun e => absurd ((nI_eq (b := 0) (by omega) (by omega)).mp e) n0⟩
        rw [nC_row _ (by omega), bk_u_same]
        refine hP _ _ (cI_nC (ib_t1 (n := bs_n1 σ - 1) hi (fun k h1 h2 h3 h4 => bk_u_row _ h3) (by omega) (bk_u_same _ _ _ _) (by rw [bk_u_at, if_neg (by omega)]) (fun j hj => by rw [bk_u_row _ (by omega)]; exact hi.2.2.2.2.1 j (by omega)))) (fun Q hQ => r9 _ Q (by omega) (by rw [hb.2.1]; exact h2) (fun _ => hQ _ ?_) (fun n => absurd n n0))
        refine rb.E (rb_t1 (n := bs_n1 σ - 1) hb (fun k h1 h2 h3 h4 => bk_u_row _ h3) (by rw [bk_u_row _ (by omega)]) hi.1.1 (by omega) (bk_u_same _ _ _ _) (bk_u_row _ (by omega)) (fun k hk => bk_u_row _ (by omega)) (by rw [bk_u_same, bk_u_same]) (by rw [bk_u_at, if_neg (by omega)]) (fun j hj => ?_) (fun j hj => by rw [bk_u_row _ (by omega)])) (nC_E _)
        rw [bk_u_row _ (by omega), bk_u_row _ (by omega)]; exact hb.2.2.2.1 j (by omega)
  · exact stp.no (v := -2) ⟨⟨hi, hT, hE⟩, hb⟩ (fun P hP => c_isText (fun q => absurd q b) (fun _ => br0' hP)) (fun Q hQ => m_isTwo (fun q => absurd q b) (fun _ => br0' hQ))
