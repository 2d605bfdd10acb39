/-! The reference's season. -/
def mt_cm (se : Nat → Int32) : Nat → Int32
  | 0 => 0
  | n + 1 => mt_cm se n ||| (if se n = -1 then 0 else (1 : Int32) <<< (nI n &&& 31))
def mt_pc (p : bk_S) : Nat → Int32
  | 0 => -1
  | e + 1 => if mt_cs (mt_ev p e 1) (mt_nt p) = mt_nt p ∧ mt_pc p e = -1 then nI e else mt_pc p e
def rr_H (e : Nat) (p τ : bk_S) : Prop := (∀ d h, d < e → h < 12 → τ 40 (12 * d + h) = mt_ev p d 4 h) ∧ (∀ d t, d < e → t < mt_nt p → τ 38 (8 * d + t) = mt_ev p d 0 t) ∧ (∀ d t, d < e → t < mt_nt p → τ 39 (8 * d + t) = mt_ev p d 3 t) ∧ (∀ d i, d < e → i < 4 → τ 41 (4 * d + i) = mt_ev p d 5 i) ∧ (∀ d, d < e → τ 42 d = mt_cm (mt_ev p d 1) (mt_nt p)) ∧ (∀ t, t < mt_nt p → τ 35 t = mt_sa p e t) ∧ τ 0 28 = mt_sum (fun d => mt_ev p d 5 0) e ∧ τ 0 29 = mt_sum (fun d => mt_ev p d 5 1) e ∧ τ 0 30 = mt_sum (fun d => mt_ev p d 5 2) e ∧ τ 0 31 = mt_pc p e
def rr_N (τ τ' : bk_S) : Prop := ∀ r j, ¬ (r = 0 ∧ 28 ≤ j ∧ j ≤ 31) → r ≠ 35 → r ≠ 38 → r ≠ 39 → r ≠ 41 → r ≠ 42 → τ' r j = τ r j
theorem rr_N.u {a b : bk_S} (h : rr_N a b) {k i : Nat} {v : Int32} (hk : (k = 0 ∧ 28 ≤ i ∧ i ≤ 31) ∨ k = 35 ∨ k = 38 ∨ k = 39 ∨ k = 41 ∨ k = 42) : rr_N a (bk_u b k i v) := by
  intro r j h1 h2 h3 h4 h5 h6
  rw [bk_u_at, if_neg (by rintro ⟨rfl, rfl⟩; omega)]
  exact h r j h1 h2 h3 h4 h5 h6
theorem rr_H.I {e : Nat} {p τ τ' : bk_S} (h : rr_H e p τ) (hI : rr_I e τ τ') : rr_H e p τ' := by
  obtain ⟨h1, h2, h3, h4, h5, h6, h7, h8, h9, h10⟩ := h
  have c0 : ∀ j, ¬ (20 ≤ j ∧ j ≤ 27) → τ' 0 j = τ 0 j := fun j hj => hI 0 j (by omega) (by omega) (by omega) (by omega) (by omega) (by omega)
  have cr : ∀ r j, 0 < r → r ≠ 33 → r ≠ 34 → r ≠ 36 → r ≠ 37 → r ≠ 40 → τ' r j = τ r j := fun r j q0 q1 q2 q3 q4 q5 => hI r j (by omega) q1 q2 q3 q4 (by omega)
  refine ⟨fun d h hd hh => ?_, fun d t hd ht => ?_, fun d t hd ht => ?_, fun d i hd hi => ?_, fun d hd => ?_, fun t ht => ?_, ?_, ?_, ?_, ?_⟩
  · rw [hI 40 _ (by omega) (by omega) (by omega) (by omega) (by omega) (by omega)]; exact h1 d h hd hh
  · rw [cr 38 _ (by omega) (by omega) (by omega) (by omega) (by omega) (by omega)]; exact h2 d t hd ht
  · rw [cr 39 _ (by omega) (by omega) (by omega) (by omega) (by omega) (by omega)]; exact h3 d t hd ht
  · rw [cr 41 _ (by omega) (by omega) (by omega) (by omega) (by omega) (by omega)]; exact h4 d i hd hi
  · rw [cr 42 _ (by omega) (by omega) (by omega) (by omega) (by omega) (by omega)]; exact h5 d hd
  · rw [cr 35 _ (by omega) (by omega) (by omega) (by omega) (by omega) (by omega)]; exact h6 t ht
  · rw [c0 28 (by omega)]; exact h7
  · rw [c0 29 (by omega)]; exact h8
  · rw [c0 30 (by omega)]; exact h9
  · rw [c0 31 (by omega)]; exact h10
theorem m_notes {e : Nat} {p τ : bk_S} {post : bk_S → Prop} (hp : mt_ok p) (he : e < 12) (h12 : τ 0 12 = p 0 1) (hH : rr_H e p τ) (hG : rr_G e (mt_ev p e) τ) (hpost : ∀ τ', rr_N τ τ' → rr_H (e + 1) p τ' → post τ') : w_X9_notes (nI e) τ post := by
  have hnt := hp.nt
  unfold w_X9_notes
  simp only [bk_lt_iff]
  have ce : (nI e).toNatClampNeg = e := nI_clamp (by omega)
  have hv12 : vp_in (nI e) 12 := (pz_in (by omega)).mpr he
  have e8 : ∀ k, (8 : Int32) * nI e + nI k = nI (8 * e + k) := fun k => by rw [pz_8, pz_mulr, nI_add]
  have e4 : (4 : Int32) * nI e = nI (4 * e) := by rw [pz_4, pz_mulr]
  have e41 : nI (4 * e) + 1 = nI (4 * e + 1) := nI_1 _
  have e42 : nI (4 * e) + 2 = nI (4 * e + 2) := by rw [pz_2, nI_add]
  have e43 : nI (4 * e) + 3 = nI (4 * e + 3) := by rw [pz_3, nI_add]
  simp only [ce, e4, e41, e42, e43, nI_clamp (show 4 * e < 2 ^ 31 by omega), nI_clamp (show 4 * e + 1 < 2 ^ 31 by omega), nI_clamp (show 4 * e + 2 < 2 ^ 31 by omega), nI_clamp (show 4 * e + 3 < 2 ^ 31 by omega)]
  refine ⟨hv12, ?_⟩
  generalize hGe : mt_ev p e = G at hG
  refine bk_jn_of (fun a => rr_N τ a.2 ∧ (∀ r j, r = 41 ∨ r = 0 → a.2 r j = τ r j) ∧ (∀ j, ¬ (8 * e ≤ j ∧ j < 8 * e + 8) → a.2 38 j = τ 38 j ∧ a.2 39 j = τ 39 j) ∧ (∀ d, d ≠ e → a.2 42 d = τ 42 d) ∧ (∀ t, t < mt_nt p → a.2 38 (8 * e + t) = G 0 t ∧ a.2 39 (8 * e + t) = G 3 t ∧ a.2 35 t = mt_sa p e t + G 3 t) ∧ a.2 42 e = mt_cm (G 1) (mt_nt p) ∧ a.1 = nI (mt_nt p - mt_cs (G 1) (mt_nt p))) (fun K hK => ?_) (fun a ha => ?_)
  · refine bk_loop_up (mt_nt p) (fun k (b : Int32 × bk_S) => (b.1, nI k, b.2)) (fun k b => rr_N τ b.2 ∧ (∀ r j, r = 41 ∨ r = 0 → b.2 r j = τ r j) ∧ (∀ j, ¬ (8 * e ≤ j ∧ j < 8 * e + 8) → b.2 38 j = τ 38 j ∧ b.2 39 j = τ 39 j) ∧ (∀ d, d ≠ e → b.2 42 d = τ 42 d) ∧ (∀ t, t < k → b.2 38 (8 * e + t) = G 0 t ∧ b.2 39 (8 * e + t) = G 3 t ∧ b.2 35 t = mt_sa p e t + G 3 t) ∧ (∀ t, k ≤ t → t < mt_nt p → b.2 35 t = mt_sa p e t) ∧ b.2 42 e = mt_cm (G 1) k ∧ b.1 = nI (k - mt_cs (G 1) k)) (i0 := 0) (b0 := (0, bk_u τ 42 e 0)) rfl (Nat.zero_le _) ?_ ?_ ?_
    · refine ⟨?_, fun r j h => ?_, fun j _ => ⟨?_, ?_⟩, fun d hd => ?_, fun t ht => absurd ht (Nat.not_lt_zero _), fun t _ ht => ?_, ?_, rfl⟩
      · exact rr_N.u (fun _ _ _ _ _ _ _ _ => rfl) (by omega)
      · show bk_u τ 42 e 0 r j = τ r j
        rw [bk_u_row _ (by omega)]
      · show bk_u τ 42 e 0 38 j = τ 38 j
        rw [bk_u_row _ (by decide)]
      · show bk_u τ 42 e 0 39 j = τ 39 j
        rw [bk_u_row _ (by decide)]
      · show bk_u τ 42 e 0 42 d = _
        rw [bk_u_at, if_neg (by omega)]
      · show bk_u τ 42 e 0 35 t = _
        rw [bk_u_row _ (by omega)]; exact hH.2.2.2.2.2.1 t ht
      · show bk_u τ 42 e 0 42 e = 0
        exact bk_u_same _ _ _ _
    · rintro k ⟨o, τ1⟩ K2 hk ⟨hN, hr, h38, h42, hlt, hge, hcm, ho⟩ hK2
      dsimp only at hN hr h38 h42 hlt hge hcm ho
      have hvk : vp_in (nI k) 8 := (pz_in (by omega)).mpr (by omega)
      have hv96 : vp_in (nI (8 * e + k)) 96 := (pz_in (by omega)).mpr (by omega)
      have y12 : τ1 0 12 = nI (mt_nt p) := by rw [hr 0 12 (Or.inr rfl), h12, hnt.1]
      have y33 : τ1 33 k = G 0 k := by rw [hN 33 k (by omega) (by omega) (by omega) (by omega) (by omega) (by omega)]; exact hG.1 k (by omega)
      have y34 : τ1 34 k = G 3 k := by rw [hN 34 k (by omega) (by omega) (by omega) (by omega) (by omega) (by omega)]; exact hG.2.2.2.1 k (by omega)
      have y36 : τ1 36 k = G 1 k := by rw [hN 36 k (by omega) (by omega) (by omega) (by omega) (by omega) (by omega)]; exact hG.2.1 k (by omega)
      simp only [e8, nI_clamp (show 8 * e + k < 2 ^ 31 by omega), nI_clamp (show k < 2 ^ 31 by omega), nI_1, y12, y33]
      refine ⟨fun hle => absurd ((nI_leI (by omega) (by omega)).mp hle) (by omega), fun _ => ⟨hvk, hv96, hvk, hv96, hvk, hvk, hvk, ?_⟩⟩
      rw [bk_u_row (a := 34) (k := 38) _ (by omega), bk_u_row (a := 34) (k := 39) _ (by omega), bk_u_row (a := 34) (k := 38) _ (by omega), bk_u_row (a := 35) (k := 39) _ (by omega), bk_u_row (a := 35) (k := 38) _ (by omega), y34, hge k (Nat.le_refl _) hk]
      generalize hS : bk_u (bk_u (bk_u τ1 38 (8 * e + k) (G 0 k)) 39 (8 * e + k) (G 3 k)) 35 k (mt_sa p e k + G 3 k) = τ2
      have z36 : τ2 36 k = G 1 k := by rw [← hS, bk_u_row _ (by omega), bk_u_row _ (by omega), bk_u_row _ (by omega)]; exact y36
      have z42 : τ2 42 e = mt_cm (G 1) k := by rw [← hS, bk_u_row _ (by omega), bk_u_row _ (by omega), bk_u_row _ (by omega)]; exact hcm
      have hcs := mt_cs_le (G 1) k
      have fin : ∀ (a17 a13 : Int32), a17 = (if G 1 k = -1 then 0 else (1 : Int32) <<< (nI k &&& 31)) → a13 = (if G 1 k = -1 then 1 else 0) → K2 (o + a13, nI (k + 1), bk_u τ2 42 e (mt_cm (G 1) k ||| a17)) := by
        intro a17 a13 h17 h13
        refine hK2 (o + a13, bk_u τ2 42 e (mt_cm (G 1) k ||| a17)) ⟨?_, fun r j h => ?_, fun j hj => ⟨?_, ?_⟩, fun d hd => ?_, fun t ht => ?_, fun t ht htn => ?_, ?_, ?_⟩
        · rw [← hS]; exact (((hN.u (by omega)).u (by omega)).u (by omega)).u (by omega)
        · show bk_u τ2 42 e (mt_cm (G 1) k ||| a17) r j = _
          rw [← hS, bk_u_row _ (by omega), bk_u_row _ (by omega), bk_u_row _ (by omega), bk_u_row _ (by omega)]; exact hr r j h
        · show bk_u τ2 42 e (mt_cm (G 1) k ||| a17) 38 j = _
          rw [← hS, bk_u_row _ (by omega), bk_u_row _ (by omega), bk_u_row _ (by omega), bk_u_at, if_neg (by omega)]; exact (h38 j hj).1
        · show bk_u τ2 42 e (mt_cm (G 1) k ||| a17) 39 j = _
          rw [← hS, bk_u_row _ (by omega), bk_u_row _ (by omega), bk_u_at, if_neg (by omega), bk_u_row _ (by omega)]; exact (h38 j hj).2
        · show bk_u τ2 42 e (mt_cm (G 1) k ||| a17) 42 d = _
          rw [bk_u_at, if_neg (by omega), ← hS, bk_u_row _ (by omega), bk_u_row _ (by omega), bk_u_row _ (by omega)]; exact h42 d hd
        · show bk_u τ2 42 e (mt_cm (G 1) k ||| a17) 38 (8 * e + t) = _ ∧ bk_u τ2 42 e (mt_cm (G 1) k ||| a17) 39 (8 * e + t) = _ ∧ bk_u τ2 42 e (mt_cm (G 1) k ||| a17) 35 t = _
          rw [bk_u_row (a := 38) (k := 42) _ (by omega), bk_u_row (a := 39) (k := 42) _ (by omega), bk_u_row (a := 35) (k := 42) _ (by omega), ← hS]
          by_cases htk : t = k
          · subst htk
            refine ⟨?_, ?_, ?_⟩
            · rw [bk_u_row _ (by omega), bk_u_row _ (by omega), bk_u_same]
            · rw [bk_u_row _ (by omega), bk_u_same]
            · rw [bk_u_same]
          · obtain ⟨q1, q2, q3⟩ := hlt t (by omega)
            refine ⟨?_, ?_, ?_⟩
            · rw [bk_u_row _ (by omega), bk_u_row _ (by omega), bk_u_at, if_neg (by omega)]; exact q1
            · rw [bk_u_row _ (by omega), bk_u_at, if_neg (by omega), bk_u_row _ (by omega)]; exact q2
            · rw [bk_u_at, if_neg (by omega), bk_u_row _ (by omega), bk_u_row _ (by omega)]; exact q3
        · show bk_u τ2 42 e (mt_cm (G 1) k ||| a17) 35 t = _
          rw [bk_u_row _ (by omega), ← hS, bk_u_at, if_neg (by omega), bk_u_row _ (by omega), bk_u_row _ (by omega)]; exact hge t (by omega) htn
        · show bk_u τ2 42 e (mt_cm (G 1) k ||| a17) 42 e = _
          rw [bk_u_same, mt_cm, h17]
        · show o + a13 = _
          rw [ho, h13, mt_cs]
          by_cases hq : G 1 k = -1
          · rw [if_pos hq, if_pos hq, nI_1]; congr 1; omega
          · rw [if_neg hq, if_neg hq, Int32.add_zero]; congr 1; omega
      refine m_isOpen (by omega) (fun hs => ?_) (fun hs => ?_)
      · refine ⟨hv12, m_isOpen (by omega) (fun _ => ⟨hv12, ?_⟩) (fun hh => absurd hs hh)⟩
        rw [z36] at hs
        rw [z42]; exact fin _ _ (by rw [if_pos hs, if_neg (by decide)]) (by rw [if_pos hs, if_neg (by decide)])
      · refine ⟨hv12, m_isOpen (by omega) (fun hh => absurd hh hs) (fun _ => ⟨hv12, ?_⟩)⟩
        rw [z36] at hs
        rw [z42]; exact fin _ _ (by rw [if_neg hs, if_pos rfl]) (by rw [if_neg hs, if_pos rfl])
    · rintro ⟨o, τ1⟩ K2 ⟨hN, hr, h38, h42, hlt, hge, hcm, ho⟩
      refine ⟨fun _ => hK (o, τ1) ⟨hN, hr, h38, h42, hlt, hcm, ho⟩, fun hn => absurd ?_ hn⟩
      show τ1 0 12 ≤ nI (mt_nt p)
      have : τ1 0 12 = τ 0 12 := hr 0 12 (Or.inr rfl)
      rw [this, h12, hnt.1]; exact (nI_leI (by omega) (by omega)).mpr (Nat.le_refl _)
  · obtain ⟨o, τ1⟩ := a
    obtain ⟨hN, hr, h38, h42, hlt, hcm, ho⟩ := ha
    dsimp only at hN hr h38 h42 hlt hcm ho ⊢
    have x25 : τ1 0 25 = G 5 0 := by rw [hr 0 25 (Or.inr rfl)]; exact hG.2.2.2.2.2.1
    have x26 : τ1 0 26 = G 5 1 := by rw [hr 0 26 (Or.inr rfl)]; exact hG.2.2.2.2.2.2.1
    have x27 : τ1 0 27 = G 5 2 := by rw [hr 0 27 (Or.inr rfl)]; exact hG.2.2.2.2.2.2.2.1
    have x24 : τ1 0 24 = G 5 3 := by rw [hr 0 24 (Or.inr rfl)]; exact hG.2.2.2.2.2.2.2.2
    obtain ⟨H1, H2, H3, H4, H5, H6, H7, H8, H9, H10⟩ := hH
    have x28 : τ1 0 28 = mt_sum (fun d => mt_ev p d 5 0) e := by rw [hr 0 28 (Or.inr rfl)]; exact H7
    have x29 : τ1 0 29 = mt_sum (fun d => mt_ev p d 5 1) e := by rw [hr 0 29 (Or.inr rfl)]; exact H8
    have x30 : τ1 0 30 = mt_sum (fun d => mt_ev p d 5 2) e := by rw [hr 0 30 (Or.inr rfl)]; exact H9
    have x31 : τ1 0 31 = mt_pc p e := by rw [hr 0 31 (Or.inr rfl)]; exact H10
    have hcs := mt_cs_le (G 1) (mt_nt p)
    have ho0 : o = 0 ↔ mt_cs (G 1) (mt_nt p) = mt_nt p := by
      rw [ho]
      constructor
      · intro h; have := (nI_eq (b := 0) (by omega) (by omega)).mp h; omega
      · intro h; rw [h, Nat.sub_self]; rfl
    generalize hS : bk_u (bk_u (bk_u (bk_u τ1 41 (4 * e) (τ1 0 25)) 41 (4 * e + 1) (bk_u τ1 41 (4 * e) (τ1 0 25) 0 26)) 41 (4 * e + 2) (bk_u (bk_u τ1 41 (4 * e) (τ1 0 25)) 41 (4 * e + 1) (bk_u τ1 41 (4 * e) (τ1 0 25) 0 26) 0 27)) 41 (4 * e + 3) (bk_u (bk_u (bk_u τ1 41 (4 * e) (τ1 0 25)) 41 (4 * e + 1) (bk_u τ1 41 (4 * e) (τ1 0 25) 0 26)) 41 (4 * e + 2) (bk_u (bk_u τ1 41 (4 * e) (τ1 0 25)) 41 (4 * e + 1) (bk_u τ1 41 (4 * e) (τ1 0 25) 0 26) 0 27) 0 24) = τ2
    have r2 : ∀ r, r ≠ 41 → τ2 r = τ1 r := fun r hr => by rw [← hS, bk_u_row _ hr, bk_u_row _ hr, bk_u_row _ hr, bk_u_row _ hr]
    have t2 : ∀ i, i < 4 → τ2 41 (4 * e + i) = G 5 i := by
      intro i hi
      rw [← hS]
      match i, hi with
      | 0, _ => simp [bk_u_at, x25]
      | 1, _ => simp [bk_u_at, x26]
      | 2, _ => simp [bk_u_at, x27]
      | 3, _ => simp [bk_u_at, x24]
    have t2' : ∀ j, ¬ (4 * e ≤ j ∧ j < 4 * e + 4) → τ2 41 j = τ 41 j := by
      intro j hj
      rw [← hS, bk_u_at, if_neg (by omega), bk_u_at, if_neg (by omega), bk_u_at, if_neg (by omega), bk_u_at, if_neg (by omega)]
      exact hr 41 j (Or.inl rfl)
    have N2 : rr_N τ τ2 := by rw [← hS]; exact (((hN.u (by omega)).u (by omega)).u (by omega)).u (by omega)
    clear hS
    refine ⟨(pz_in (by omega)).mpr (by omega), (pz_in (by omega)).mpr (by omega), (pz_in (by omega)).mpr (by omega), (pz_in (by omega)).mpr (by omega), ?_⟩
    generalize hS : bk_u (bk_u (bk_u τ2 0 28 (τ2 0 28 + τ2 0 25)) 0 29 (bk_u τ2 0 28 (τ2 0 28 + τ2 0 25) 0 29 + bk_u τ2 0 28 (τ2 0 28 + τ2 0 25) 0 26)) 0 30 (bk_u (bk_u τ2 0 28 (τ2 0 28 + τ2 0 25)) 0 29 (bk_u τ2 0 28 (τ2 0 28 + τ2 0 25) 0 29 + bk_u τ2 0 28 (τ2 0 28 + τ2 0 25) 0 26) 0 30 + bk_u (bk_u τ2 0 28 (τ2 0 28 + τ2 0 25)) 0 29 (bk_u τ2 0 28 (τ2 0 28 + τ2 0 25) 0 29 + bk_u τ2 0 28 (τ2 0 28 + τ2 0 25) 0 26) 0 27) = τ3
    have q0 := r2 0 (by omega)
    have s28 : τ3 0 28 = mt_sum (fun d => mt_ev p d 5 0) (e + 1) := by rw [← hS]; simp [bk_u_at, q0, x28, x25, mt_sum, hGe]
    have s29 : τ3 0 29 = mt_sum (fun d => mt_ev p d 5 1) (e + 1) := by rw [← hS]; simp [bk_u_at, q0, x29, x26, mt_sum, hGe]
    have s30 : τ3 0 30 = mt_sum (fun d => mt_ev p d 5 2) (e + 1) := by rw [← hS]; simp [bk_u_at, q0, x30, x27, mt_sum, hGe]
    have s31 : τ3 0 31 = mt_pc p e := by rw [← hS]; simp [bk_u_at, q0, x31]
    have r3 : ∀ r, r ≠ 0 → τ3 r = τ2 r := fun r hr => by rw [← hS, bk_u_row _ hr, bk_u_row _ hr, bk_u_row _ hr]
    have N3 : rr_N τ τ3 := by rw [← hS]; exact ((N2.u (by omega)).u (by omega)).u (by omega)
    clear hS
    refine bk_jn_of (fun a => a = mt_pc p (e + 1)) (fun K hK => ?_) (fun a ha => ?_)
    · simp only [bk_jn_iff]
      rw [s31]
      unfold mt_pc at hK
      rw [hGe] at hK
      refine ⟨fun hz => hK _ ?_, fun hz => ⟨fun hm => hK _ ?_, fun hm => hK _ ?_⟩⟩
      · rw [if_neg (fun h => hz (ho0.mpr h.1))]
      · rw [if_neg (fun h => hm h.2)]
      · rw [if_pos ⟨ho0.mp hz, hm⟩]
    · subst ha
      refine hpost _ (N3.u (by omega)) ?_
      have f : ∀ r, r ≠ 0 → bk_u τ3 0 31 (mt_pc p (e + 1)) r = τ2 r := fun r hr => by rw [bk_u_row _ hr, r3 r hr]
      refine ⟨fun d h hd hh => ?_, fun d t hd ht => ?_, fun d t hd ht => ?_, fun d i hd hi => ?_, fun d hd => ?_, fun t ht => ?_, ?_, ?_, ?_, ?_⟩
      · rw [f 40 (by omega), r2 40 (by omega), hN 40 _ (by omega) (by omega) (by omega) (by omega) (by omega) (by omega)]
        rcases Nat.lt_or_ge d e with h1 | h1
        · exact H1 d h h1 hh
        · obtain rfl : d = e := by omega
          rw [hGe]; exact hG.2.2.2.2.1 h hh
      · rw [f 38 (by omega), r2 38 (by omega)]
        rcases Nat.lt_or_ge d e with h1 | h1
        · rw [(h38 _ (by omega)).1]; exact H2 d t h1 ht
        · obtain rfl : d = e := by omega
          rw [hGe]; exact (hlt t ht).1
      · rw [f 39 (by omega), r2 39 (by omega)]
        rcases Nat.lt_or_ge d e with h1 | h1
        · rw [(h38 _ (by omega)).2]; exact H3 d t h1 ht
        · obtain rfl : d = e := by omega
          rw [hGe]; exact (hlt t ht).2.1
      · rw [f 41 (by omega)]
        rcases Nat.lt_or_ge d e with h1 | h1
        · rw [t2' _ (by omega)]; exact H4 d i h1 hi
        · obtain rfl : d = e := by omega
          rw [hGe]; exact t2 i hi
      · rw [f 42 (by omega), r2 42 (by omega)]
        rcases Nat.lt_or_ge d e with h1 | h1
        · rw [h42 d (by omega)]; exact H5 d h1
        · obtain rfl : d = e := by omega
          rw [hGe]; exact hcm
      · rw [f 35 (by omega), r2 35 (by omega), (hlt t ht).2.2, mt_sa, hGe]
      · rw [bk_u_at, if_neg (by omega)]; exact s28
      · rw [bk_u_at, if_neg (by omega)]; exact s29
      · rw [bk_u_at, if_neg (by omega)]; exact s30
      · exact bk_u_same _ _ _ _
def rr_F (τ τ' : bk_S) : Prop := ∀ r j, ¬ (r = 0 ∧ 20 ≤ j ∧ j ≤ 31) → ¬ (33 ≤ r ∧ r ≤ 42) → τ' r j = τ r j
theorem rr_F.rf (τ : bk_S) : rr_F τ τ := fun _ _ _ _ => rfl
theorem rr_F.tr {a b c : bk_S} (h : rr_F a b) (h' : rr_F b c) : rr_F a c := fun r j h1 h2 => (h' r j h1 h2).trans (h r j h1 h2)
theorem rr_I.F {e : Nat} {a b : bk_S} (h : rr_I e a b) : rr_F a b := fun r j h1 h2 => h r j (by omega) (by omega) (by omega) (by omega) (by omega) (by omega)
theorem rr_N.F {a b : bk_S} (h : rr_N a b) : rr_F a b := fun r j h1 h2 => h r j (by omega) (by omega) (by omega) (by omega) (by omega) (by omega)
theorem rr_F.u {a b : bk_S} (h : rr_F a b) {k i : Nat} {v : Int32} (hk : (k = 0 ∧ 20 ≤ i ∧ i ≤ 31) ∨ (33 ≤ k ∧ k ≤ 42)) : rr_F a (bk_u b k i v) := by
  intro r j h1 h2
  rw [bk_u_at, if_neg (by rintro ⟨rfl, rfl⟩; omega)]
  exact h r j h1 h2
theorem rr_F.w {a b : bk_S} (h : rr_F a b) {k : Nat} {g : Nat → Int32} (hk : 33 ≤ k ∧ k ≤ 42) : rr_F a (bk_w b k g) := by
  intro r j h1 h2
  rw [bk_w_at, if_neg (by omega)]
  exact h r j h1 h2
theorem rr_P.F {τ τ' p : bk_S} (h : rr_P τ p) (hJ : rr_F τ τ') : rr_P τ' p := by
  have c0 : ∀ j, ¬ (20 ≤ j ∧ j ≤ 31) → τ' 0 j = τ 0 j := fun j hj => hJ 0 j (by omega) (by omega)
  have cr : ∀ r, 0 < r → r < 33 → τ' r = τ r := fun r h1 h2 => funext fun j => hJ r j (by omega) (by omega)
  obtain ⟨h1, h2, h3, h4, h5, h6, ne, h7, h8, h9⟩ := h
  have hl : ∀ e n, bf_l τ' e n = bf_l τ e n := by
    intro e n
    induction n with
    | zero => unfold bf_l; rw [c0 17 (by omega), c0 18 (by omega)]
    | succ n ih => unfold bf_l bf_ok; rw [ih, cr 11 (by omega) (by omega), cr 10 (by omega) (by omega), cr 12 (by omega) (by omega), c0 19 (by omega)]
  have hk : ∀ e kd n, bf_k τ' e kd n = bf_k τ e kd n := by
    intro e kd n
    induction n with
    | zero => rfl
    | succ n ih => unfold bf_k bf_ok; rw [ih, cr 11 (by omega) (by omega), cr 10 (by omega) (by omega), c0 19 (by omega)]
  unfold rr_P
  rw [c0 12 (by omega), c0 16 (by omega), c0 8 (by omega), cr 4 (by omega) (by omega), cr 14 (by omega) (by omega), cr 15 (by omega) (by omega), cr 16 (by omega) (by omega)]
  refine ⟨h1, h2, h3, h4, h5, h6, ne, h7, h8, fun e he => ?_⟩
  rw [hl, hk, hk]
  exact h9 e he
/-- the reference has gone through a season -/
def rr_D (p τ : bk_S) : Prop := rr_H 12 p τ ∧ (∀ t, t < 8 → τ 36 t = mt_ev p 11 1 t) ∧ (∀ t, t < 8 → τ 37 t = mt_ev p 11 2 t)
theorem m_runs {p τ : bk_S} {post : bk_S → Prop} (hp : mt_ok p) (hP : rr_P τ p) (hpost : ∀ τ', rr_F τ τ' → rr_D p τ' → post τ') : w_X9_runs τ post := by
  have hnt := hp.nt
  unfold w_X9_runs
  simp only [bk_lt_iff]
  generalize hS : bk_u (bk_u (bk_u (bk_u τ 0 28 0) 0 29 0) 0 30 0) 0 31 (-1) = τ1
  have F1 : rr_F τ τ1 := by rw [← hS]; exact ((((rr_F.rf τ).u (by omega)).u (by omega)).u (by omega)).u (by omega)
  have c1 : τ1 0 28 = 0 ∧ τ1 0 29 = 0 ∧ τ1 0 30 = 0 ∧ τ1 0 31 = -1 := by rw [← hS]; simp [bk_u_at]
  clear hS
  refine bk_jn_of (fun a => rr_F τ a ∧ a 0 = τ1 0 ∧ (∀ t, t < 8 → a 33 t = mt_i0 p 0 t ∧ a 35 t = 0 ∧ a 36 t = -1 ∧ a 37 t = -1)) (fun K hK => ?_) (fun τ2 h2 => ?_)
  · refine bk_loop_up 8 (fun i (a : bk_S) => (nI i, a)) (fun i a => rr_F τ a ∧ a 0 = τ1 0 ∧ (∀ t, t < i → a 33 t = mt_i0 p 0 t ∧ a 35 t = 0 ∧ a 36 t = -1 ∧ a 37 t = -1)) (i0 := 0) (b0 := τ1) rfl (Nat.zero_le _) ⟨F1, rfl, fun t ht => absurd ht (Nat.not_lt_zero _)⟩ ?_ ?_
    · rintro i a K2 hi ⟨F, r0, ha⟩ hK2
      have hv : vp_in (nI i) 8 := (pz_in (by omega)).mpr hi
      have Pa := hP.F F
      refine ⟨fun hle => absurd ((nI_leI (a := 8) (by omega) (by omega)).mp hle) (by omega), fun _ => ?_⟩
      refine bk_jn_of (fun v => v = mt_i0 p 0 i) (fun K3 hK3 => ?_) (fun v hv2 => ?_)
      · show (a 0 12 ≤ nI i → K3 0) ∧ (¬ a 0 12 ≤ nI i → vp_in (nI i) 8 ∧ K3 (a 15 (nI i).toNatClampNeg))
        rw [Pa.1, hnt.1, nI_leI (by omega) (by omega), nI_clamp (by omega)]
        refine ⟨fun h => hK3 _ ?_, fun h => ⟨hv, hK3 _ ?_⟩⟩
        · show (0 : Int32) = if i < mt_nt p then p 3 i else 0
          rw [if_neg (by omega)]
        · show a 15 i = if i < mt_nt p then p 3 i else 0
          rw [if_pos (by omega), Pa.2.2.2.2.1 i (by omega)]
      · subst hv2
        simp only [nI_clamp (show i < 2 ^ 31 by omega), nI_1]
        refine ⟨hv, hv, hv, hv, hK2 _ ⟨(((F.u (by omega)).u (by omega)).u (by omega)).u (by omega), ?_, fun t ht => ?_⟩⟩
        · rw [bk_u_row _ (by omega), bk_u_row _ (by omega), bk_u_row _ (by omega), bk_u_row _ (by omega)]; exact r0
        · by_cases hti : t = i
          · subst hti; simp [bk_u_at]
          · have := ha t (by omega)
            simpa [bk_u_at, hti] using this
    · rintro a K2 ⟨F, r0, ha⟩
      exact ⟨fun _ => hK _ ⟨F, r0, ha⟩, fun hn => absurd (by show (8 : Int32) ≤ nI 8; decide) hn⟩
  · obtain ⟨F2, r2, ha2⟩ := h2
    refine bk_loop_up 12 (fun e (a : bk_S) => (nI e, a)) (fun e a => rr_F τ a ∧ rr_H e p a ∧ rr_B (mt_st p e) a) (i0 := 0) (b0 := τ2) rfl (Nat.zero_le _) ?_ ?_ ?_
    · refine ⟨F2, ⟨fun d h hd => absurd hd (Nat.not_lt_zero _), fun d h hd => absurd hd (Nat.not_lt_zero _), fun d h hd => absurd hd (Nat.not_lt_zero _), fun d h hd => absurd hd (Nat.not_lt_zero _), fun d hd => absurd hd (Nat.not_lt_zero _), fun t ht => (ha2 t (by omega)).2.1, ?_, ?_, ?_, ?_⟩, fun t ht => (ha2 t ht).1, fun t ht => (ha2 t ht).2.2.1, fun t ht => (ha2 t ht).2.2.2⟩
      · rw [r2]; exact c1.1
      · rw [r2]; exact c1.2.1
      · rw [r2]; exact c1.2.2.1
      · rw [r2]; exact c1.2.2.2
    · rintro e a K he ⟨F, H, B⟩ hK
      have Pa := hP.F F
      refine ⟨fun hle => absurd ((nI_leI (a := 12) (by omega) (by omega)).mp hle) (by omega), fun _ => ?_⟩
      show w_X9_goesBy (nI e) a _
      refine m_goesBy hp he Pa B (mt_gk.st hp e (by omega)) (fun a1 I1 G1 => ?_)
      have P1 := Pa.I I1
      refine m_notes hp he P1.1 (H.I I1) G1 (fun a2 N2 H2 => ?_)
      have F2 : rr_F τ a2 := (F.tr I1.F).tr N2.F
      have P2 := hP.F F2
      refine m_heatsUp hnt.2 (by rw [P2.1, hnt.1]) ?_
      simp only [nI_1]
      refine hK _ ⟨F2.w (by omega), ?_, ?_⟩
      · obtain ⟨h1, h2, h3, h4, h5, h6, h7, h8, h9, h10⟩ := H2
        refine ⟨?_, ?_, ?_, ?_, ?_, ?_, ?_, ?_, ?_, ?_⟩ <;> simpa [bk_w_at] using by assumption
      · have g : ∀ r, 0 < r → mt_st p (e + 1) r = mt_ev p e r := fun r hr => by
          show mt_hu (mt_nt p) (mt_ev p e) r = _
          unfold mt_hu; exact bk_w_n _ _ (by omega)
        have y33 : ∀ t, t < 8 → a2 33 t = mt_ev p e 0 t := fun t ht => by rw [N2 33 t (by omega) (by omega) (by omega) (by omega) (by omega) (by omega)]; exact G1.1 t ht
        have y36 : ∀ t, t < 8 → a2 36 t = mt_ev p e 1 t := fun t ht => by rw [N2 36 t (by omega) (by omega) (by omega) (by omega) (by omega) (by omega)]; exact G1.2.1 t ht
        refine ⟨fun t ht => ?_, fun t ht => ?_, fun t ht => ?_⟩
        · rw [bk_w_s]
          show _ = mt_hu (mt_nt p) (mt_ev p e) 0 t
          unfold mt_hu
          rw [bk_w_s]
          show (if t < mt_nt p ∧ a2 36 t = -1 ∧ ¬ 9 ≤ a2 33 t then a2 33 t + 1 else a2 33 t) = (if t < mt_nt p ∧ mt_ev p e 1 t = -1 ∧ ¬ 9 ≤ mt_ev p e 0 t then mt_ev p e 0 t + 1 else mt_ev p e 0 t)
          rw [y33 t ht, y36 t ht]
        · rw [bk_w_n _ _ (by omega), g 1 (by omega)]; exact y36 t ht
        · rw [bk_w_n _ _ (by omega), g 2 (by omega), N2 37 t (by omega) (by omega) (by omega) (by omega) (by omega) (by omega)]; exact G1.2.2.1 t ht
    · rintro a K ⟨F, H, B⟩
      have g : ∀ r, 0 < r → mt_st p 12 r = mt_ev p 11 r := fun r hr => by
        show mt_hu (mt_nt p) (mt_ev p 11) r = _
        unfold mt_hu; exact bk_w_n _ _ (by omega)
      refine ⟨fun _ => hpost _ F ⟨H, fun t ht => ?_, fun t ht => ?_⟩, fun hn => absurd (by show (12 : Int32) ≤ nI 12; decide) hn⟩
      · show a 36 t = _
        rw [B.2.1 t ht, g 1 (by omega)]
      · show a 37 t = _
        rw [B.2.2 t ht, g 2 (by omega)]
theorem m_manySettled {n : Nat} {τ : bk_S} {post : Int32 → Prop} (hn : n ≤ 8) (h12 : τ 0 12 = nI n) (h : post (nI (mt_cs (τ 36) n))) : w_X9_manySettled τ post := by
  unfold w_X9_manySettled
  simp only [bk_lt_iff]
  rw [h12]
  refine bk_loop_up n (fun i (_ : Unit) => (nI (mt_cs (τ 36) i), nI i)) (fun _ _ => True) (i0 := 0) (b0 := ()) rfl (Nat.zero_le _) trivial ?_ ?_
  · intro i _ K hi _ hK
    have hK := hK () trivial
    rw [mt_cs] at hK
    refine ⟨fun hle => absurd ((nI_leI (by omega) (by omega)).mp hle) (by omega), fun _ => ?_⟩
    simp only [nI_1]
    refine m_isOpen (by omega) (fun hs => ?_) (fun hs => ?_)
    · rw [if_neg (by decide), Int32.add_zero]; rw [if_pos hs] at hK; exact hK
    · rw [if_pos rfl, nI_1]; rw [if_neg hs] at hK; exact hK
  · intro _ K _
    exact ⟨fun _ => h, fun hn' => absurd ((nI_leI (by omega) (by omega)).mpr (Nat.le_refl _)) hn'⟩
