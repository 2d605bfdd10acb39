/-! The reference reads what is told. -/
theorem m_in {x lo hi : Int32} {post : Int32 → Prop} (h1 : lo ≤ x ∧ x ≤ hi → post 1) (h0 : ¬ (lo ≤ x ∧ x ≤ hi) → post 0) : w_X9_in x lo hi post := by
  unfold w_X9_in
  simp only [bk_jn_iff]
  exact ⟨fun h => h0 (fun q => absurd h (Int32.not_lt.mpr q.1)), fun h => ⟨fun h' => h0 (fun q => absurd h' (Int32.not_lt.mpr q.2)), fun h' => h1 ⟨Int32.not_lt.mp h, Int32.not_lt.mp h'⟩⟩⟩
theorem m_byte0 {n k : Nat} {τ : bk_S} {post : Int32 → Prop} (hn : n ≤ 12) (hk : k < 2 ^ 30) (h1 : τ 1 0 = nI n) (h : post (if k < n then τ 2 k else -1)) : w_X9_byteAt 0 (nI k) τ post := by
  unfold w_X9_byteAt
  have c0 : (31 : Int32) * 0 + nI k = nI k := by simp
  rw [pz_clamp0, h1, c0, nI_leI (by omega) (by omega)]
  refine ⟨by unfold vp_in; decide, fun hle => ?_, fun hle => ⟨(pz_in (by omega)).mpr (by omega), ?_⟩⟩
  · rwa [if_neg (by omega)] at h
  · rw [if_pos (by omega)] at h; rw [nI_clamp (by omega)]; exact h
theorem pz_clamp1 : Int32.toNatClampNeg (1 : Int32) = 1 := by decide
theorem m_byte1 {n k : Nat} {τ : bk_S} {post : Int32 → Prop} (hn : n ≤ 31) (hk : k < 2 ^ 30) (h1 : τ 1 1 = nI n) (h : post (if k < n then τ 2 (31 + k) else -1)) : w_X9_byteAt 1 (nI k) τ post := by
  unfold w_X9_byteAt
  have c0 : (31 : Int32) * 1 + nI k = nI (31 + k) := by rw [show (31 : Int32) * 1 = nI 31 by decide, nI_add]
  rw [pz_clamp1, h1, c0, nI_leI (by omega) (by omega)]
  refine ⟨by unfold vp_in; decide, fun hle => ?_, fun hle => ⟨(pz_in (by omega)).mpr (by omega), ?_⟩⟩
  · rwa [if_neg (by omega)] at h
  · rw [if_pos (by omega)] at h; rw [nI_clamp (by omega)]; exact h
def rd_F (τ τ' : bk_S) : Prop := ∀ r j, ¬ (r = 0 ∧ (j = 2 ∨ j = 4)) → r ≠ 4 → r ≠ 6 → r ≠ 7 → r ≠ 8 → τ' r j = τ r j
theorem rd_F.rf (τ : bk_S) : rd_F τ τ := fun _ _ _ _ _ _ _ => rfl
theorem rd_F.tr {a b c : bk_S} (h : rd_F a b) (h' : rd_F b c) : rd_F a c := fun r j h1 h2 h3 h4 h5 => (h' r j h1 h2 h3 h4 h5).trans (h r j h1 h2 h3 h4 h5)
theorem rd_F.u {a b : bk_S} (h : rd_F a b) {k i : Nat} {v : Int32} (hk : (k = 0 ∧ (i = 2 ∨ i = 4)) ∨ k = 4 ∨ k = 6 ∨ k = 7 ∨ k = 8) : rd_F a (bk_u b k i v) := by
  intro r j h1 h2 h3 h4 h5
  rw [bk_u_at, if_neg (by rintro ⟨rfl, rfl⟩; omega)]
  exact h r j h1 h2 h3 h4 h5
theorem tx_mo_h (b : Int32) (h : b = 104 ∨ b = 115 ∨ b = 103) : (if b = 104 then (1 : Int32) else if b = 115 then 2 else 0) = tx_mo b ∧ ¬ tx_mo b = -1 := by
  rcases h with rfl | rfl | rfl <;> decide
theorem tx_mo_n {b : Int32} (h1 : ¬ b = 104) (h2 : ¬ b = 115) (h3 : ¬ b = 103) : tx_mo b = -1 := by unfold tx_mo; rw [if_neg h3, if_neg h1, if_neg h2]
theorem m_readsHooks {n : Nat} {f : Nat → Int32} {τ : bk_S} {post : Int32 → bk_S → Prop} (hn : n ≤ 12) (h1 : τ 1 0 = nI n) (hf : ∀ j, j < n → τ 2 j = f j) (hpost : ∀ τ', rd_F τ τ' → τ' 0 4 = τ 0 4 → (∀ r, r = 6 ∨ r = 7 ∨ r = 8 → τ' r = τ r) → τ' 0 2 = nI (tx_hN n f) → (∀ h, h < tx_hN n f → τ' 4 h = tx_mo (f h)) → post (tx_hF n f) τ') : w_X9_readsHooks τ post := by
  unfold w_X9_readsHooks
  simp only [bk_lt_iff, pz_clamp0]
  have hv : vp_in 0 2 := by unfold vp_in; decide
  refine bk_jn_of (fun a => rd_F τ a ∧ a 0 4 = τ 0 4 ∧ (∀ r, r = 6 ∨ r = 7 ∨ r = 8 → a r = τ r) ∧ (∀ j, j < n → ¬ tx_mo (f j) = -1) ∧ (∀ h, h < n → a 4 h = tx_mo (f h))) (fun K hK => ?_) (fun a ha => ?_)
  · refine bk_loop_up n (fun i (a : bk_S) => (nI i, a)) (fun i a => rd_F τ a ∧ a 0 4 = τ 0 4 ∧ a 0 2 = 0 ∧ (∀ r, r = 6 ∨ r = 7 ∨ r = 8 → a r = τ r) ∧ (∀ j, j < i → ¬ tx_mo (f j) = -1) ∧ (∀ h, h < i → a 4 h = tx_mo (f h))) (i0 := 0) (b0 := bk_u τ 0 2 0) rfl (Nat.zero_le _) ⟨(rd_F.rf τ).u (by omega), by rw [bk_u_at, if_neg (by omega)], bk_u_same _ _ _ _, fun r hr => bk_u_row _ (by omega), fun j hj => absurd hj (Nat.not_lt_zero _), fun j hj => absurd hj (Nat.not_lt_zero _)⟩ ?_ ?_
    · rintro i a K2 hi ⟨F, q4, q2, qr, qm, q⟩ hK2
      have y1 : a 1 0 = nI n := by rw [F 1 0 (by omega) (by omega) (by omega) (by omega) (by omega)]; exact h1
      have y2 : a 2 i = f i := by rw [F 2 i (by omega) (by omega) (by omega) (by omega) (by omega)]; exact hf i hi
      refine ⟨hv, fun hle => ?_, fun _ => m_byte0 hn (by omega) y1 ?_⟩
      · have hle : a 1 0 ≤ nI i := hle
        rw [y1] at hle; exact absurd ((nI_leI (by omega) (by omega)).mp hle) (by omega)
      · rw [if_pos hi]
        simp only [nI_1, nI_clamp (show i < 2 ^ 31 by omega), y2]
        refine bk_jn_of (fun _ => f i = 104 ∨ f i = 115 ∨ f i = 103) (fun K3 hK3 => ?_) (fun _ hb => ?_)
        · refine ⟨fun e => hK3 _ (Or.inl e), fun n1 => ⟨fun e => hK3 _ (Or.inr (Or.inl e)), fun n2 => ⟨fun e => hK3 _ (Or.inr (Or.inr e)), fun n3 => ?_⟩⟩⟩
          have hbad := tx_mo_n n1 n2 n3
          have hF : tx_hF n f = nI i := mt_ff_at (by omega) hi (by simp [hbad]) (fun j hj => by simp [qm j hj])
          have hN : tx_hN n f = 0 := by unfold tx_hN; rw [hF, if_neg (pz_ne_m1 (by omega))]
          have := hpost a F q4 qr (by rw [hN]; exact q2) (fun h hh => by rw [hN] at hh; omega)
          rw [hF] at this; exact this
        · obtain ⟨e1, e2⟩ := tx_mo_h _ hb
          refine ⟨(pz_in (by omega)).mpr (by omega), ?_⟩
          rw [e1]
          refine hK2 _ ⟨F.u (by omega), ?_, ?_, fun r hr => ?_, fun j hj => ?_, fun h hh => ?_⟩
          · rw [bk_u_row _ (by omega)]; exact q4
          · rw [bk_u_row _ (by omega)]; exact q2
          · rw [bk_u_row _ (by omega)]; exact qr r hr
          · by_cases e : j = i
            · rw [e]; exact e2
            · exact qm j (by omega)
          · rw [bk_u_at]
            by_cases e : h = i
            · rw [if_pos ⟨rfl, e⟩, e]
            · rw [if_neg (by omega)]; exact q h (by omega)
    · rintro a K2 ⟨F, q4, q2, qr, qm, q⟩
      refine ⟨hv, fun _ => hK _ ⟨F, q4, qr, qm, q⟩, fun hn' => absurd ?_ hn'⟩
      show a 1 0 ≤ nI n
      rw [F 1 0 (by omega) (by omega) (by omega) (by omega) (by omega), h1]; exact (nI_leI (by omega) (by omega)).mpr (Nat.le_refl _)
  · obtain ⟨F, q4, qr, qm, q⟩ := ha
    have hF : tx_hF n f = -1 := (mt_ff_m1 (by omega)).mpr (fun j hj => by simp [qm j hj])
    have hN : tx_hN n f = n := by unfold tx_hN; rw [if_pos hF]
    have y1 : a 1 0 = nI n := by rw [F 1 0 (by omega) (by omega) (by omega) (by omega) (by omega)]; exact h1
    refine ⟨hv, ?_⟩
    rw [y1]
    have := hpost (bk_u a 0 2 (nI n)) (F.u (by omega)) (by rw [bk_u_at, if_neg (by omega)]; exact q4) (fun r hr => by rw [bk_u_row _ (by omega)]; exact qr r hr) (by rw [hN]; exact bk_u_same _ _ _ _) (fun h hh => by rw [bk_u_row _ (by omega)]; exact q h (by omega))
    rw [hF] at this; exact this
theorem tx_so_r (b : Int32) : (if b = 109 then (0 : Int32) else if b = 119 then 1 else if b = 113 then 2 else -1) = tx_so b := by
  unfold tx_so
  by_cases h1 : b = 109
  · rw [if_pos h1, if_pos h1]
  · rw [if_neg h1, if_neg h1]
    by_cases h2 : b = 119
    · rw [if_pos h2, if_neg (by rw [h2]; decide), if_pos h2]
    · rw [if_neg h2, if_neg h2]
theorem pz_19 : ∀ m, m < 256 → decide (1 ≤ nI m - 48 ∧ nI m - 48 ≤ 9) = decide (49 ≤ nI m ∧ nI m ≤ 57) := by decide +kernel
theorem pz_09 : ∀ m, m < 256 → decide (0 ≤ nI m - 48 ∧ nI m - 48 ≤ 9) = decide (48 ≤ nI m ∧ nI m ≤ 57) := by decide +kernel
theorem m_readsThing {t n : Nat} {f : Nat → Int32} {τ : bk_S} {post : Int32 → bk_S → Prop} (hn : n ≤ 31) (ht : t < 8) (h1 : τ 1 1 = nI n) (hf : ∀ j, j < n → τ 2 (31 + j) = f j) (hb : ∀ j, j < n → ∃ m, m < 256 ∧ f j = nI m)
    (p0 : ¬ (4 * t < n ∧ tx_ms (4 * t) (f (4 * t)) = true) → post 0 τ)
    (p1 : (4 * t < n ∧ tx_ms (4 * t) (f (4 * t)) = true) → ¬ (4 * t + 1 < n ∧ tx_ms (4 * t + 1) (f (4 * t + 1)) = true) → post 1 τ)
    (p2 : (4 * t < n ∧ tx_ms (4 * t) (f (4 * t)) = true) → (4 * t + 1 < n ∧ tx_ms (4 * t + 1) (f (4 * t + 1)) = true) → ¬ (4 * t + 2 < n ∧ tx_ms (4 * t + 2) (f (4 * t + 2)) = true) → post 2 τ)
    (p3 : (4 * t < n ∧ tx_ms (4 * t) (f (4 * t)) = true) → (4 * t + 1 < n ∧ tx_ms (4 * t + 1) (f (4 * t + 1)) = true) → (4 * t + 2 < n ∧ tx_ms (4 * t + 2) (f (4 * t + 2)) = true) → post 3 (bk_u (bk_u (bk_u τ 6 t (tx_so (f (4 * t)))) 7 t (f (4 * t + 1) - 48)) 8 t (f (4 * t + 2) - 48))) : w_X9_readsThing (nI t) (nI (4 * t)) τ post := by
  have m0 : ∀ b, tx_ms (4 * t) b = !decide (tx_so b = -1) := fun b => by unfold tx_ms; rw [if_pos (by omega)]
  have m1 : ∀ b, tx_ms (4 * t + 1) b = decide (49 ≤ b ∧ b ≤ 57) := fun b => by unfold tx_ms; rw [if_neg (by omega), if_pos (by omega)]
  have m2 : ∀ b, tx_ms (4 * t + 2) b = decide (48 ≤ b ∧ b ≤ 57) := fun b => by unfold tx_ms; rw [if_neg (by omega), if_neg (by omega), if_pos (by omega)]
  unfold w_X9_readsThing
  simp only [bk_lt_iff]
  have e1 : nI (4 * t) + 1 = nI (4 * t + 1) := nI_1 _
  have e2 : nI (4 * t) + 2 = nI (4 * t + 2) := by rw [pz_2, nI_add]
  simp only [e1, e2, nI_clamp (show t < 2 ^ 31 by omega)]
  refine m_byte1 hn (by omega) h1 (m_byte1 hn (by omega) h1 (m_byte1 hn (by omega) h1 ?_))
  have hv : vp_in (nI t) 9 := (pz_in (by omega)).mpr (by omega)
  have n8 : ¬ nI t = 8 := fun h => by have := (nI_eq (a := t) (b := 8) (by omega) (by omega)).mp h; omega
  rw [tx_so_r]
  refine ⟨fun h => absurd h n8, fun _ => ⟨fun hs => ?_, fun hs => ?_⟩⟩
  · have g0 : 4 * t < n ∧ tx_ms (4 * t) (f (4 * t)) = true := by
      by_cases hlt : 4 * t < n
      · rw [if_pos hlt, hf _ hlt] at hs
        exact ⟨hlt, by rw [m0]; simpa using hs⟩
      · rw [if_neg hlt] at hs; exact absurd (by decide) hs
    have b0 : (if 4 * t < n then τ 2 (31 + 4 * t) else -1) = f (4 * t) := by rw [if_pos g0.1, hf _ g0.1]
    rw [b0]
    refine m_in (fun hin => ⟨fun _ => ?_, fun h => absurd h (by decide)⟩) (fun hin => ⟨fun h => absurd rfl h, fun _ => ?_⟩)
    · have g1 : 4 * t + 1 < n ∧ tx_ms (4 * t + 1) (f (4 * t + 1)) = true := by
        by_cases hlt : 4 * t + 1 < n
        · rw [if_pos hlt, hf _ hlt] at hin
          obtain ⟨m, hm, hfm⟩ := hb _ hlt
          refine ⟨hlt, ?_⟩
          rw [m1, hfm, ← pz_19 m hm]; rw [hfm] at hin; exact decide_eq_true hin
        · rw [if_neg hlt] at hin; exact absurd hin (by decide)
      have b1 : (if 4 * t + 1 < n then τ 2 (31 + (4 * t + 1)) else -1) = f (4 * t + 1) := by rw [if_pos g1.1, hf _ g1.1]
      rw [b1]
      refine m_in (fun hin2 => ⟨fun _ => ⟨hv, hv, hv, ?_⟩, fun h => absurd h (by decide)⟩) (fun hin2 => ⟨fun h => absurd rfl h, fun _ => ?_⟩)
      · have g2 : 4 * t + 2 < n ∧ tx_ms (4 * t + 2) (f (4 * t + 2)) = true := by
          by_cases hlt : 4 * t + 2 < n
          · rw [if_pos hlt, hf _ hlt] at hin2
            obtain ⟨m, hm, hfm⟩ := hb _ hlt
            refine ⟨hlt, ?_⟩
            rw [m2, hfm, ← pz_09 m hm]; rw [hfm] at hin2; exact decide_eq_true hin2
          · rw [if_neg hlt] at hin2; exact absurd hin2 (by decide)
        have b2 : (if 4 * t + 2 < n then τ 2 (31 + (4 * t + 2)) else -1) = f (4 * t + 2) := by rw [if_pos g2.1, hf _ g2.1]
        rw [b2]; exact p3 g0 g1 g2
      · refine p2 g0 g1 (fun g2 => hin2 ?_)
        rw [if_pos g2.1, hf _ g2.1]
        obtain ⟨m, hm, hfm⟩ := hb _ g2.1
        have := g2.2
        rw [m2, hfm, ← pz_09 m hm] at this
        rw [hfm]; exact of_decide_eq_true this
    · refine p1 g0 (fun g1 => hin ?_)
      rw [if_pos g1.1, hf _ g1.1]
      obtain ⟨m, hm, hfm⟩ := hb _ g1.1
      have := g1.2
      rw [m1, hfm, ← pz_19 m hm] at this
      rw [hfm]; exact of_decide_eq_true this
  · refine p0 (fun g0 => ?_)
    rw [if_pos g0.1, hf _ g0.1] at hs
    have := g0.2
    rw [m0, hs] at this; simp at this
theorem tx_tF_at {n k : Nat} {f : Nat → Int32} (hn : n ≤ 31) (hk : k < n) (hb : tx_ms k (f k) = false) (hl : ∀ j, j < k → tx_ms j (f j) = true) : tx_tF n f = nI k ∧ tx_tN n f = 0 := by
  have hB : tx_tB n f = nI k := mt_ff_at (by omega) hk (by simp [hb]) (fun j hj => by simp [hl j hj])
  have hF : tx_tF n f = nI k := by unfold tx_tF; rw [hB, if_neg (pz_ne_m1 (by omega))]
  exact ⟨hF, by unfold tx_tN; rw [hF, if_neg (pz_ne_m1 (by omega))]⟩
theorem tx_tF_end {n : Nat} {f : Nat → Int32} (hn : n ≤ 31) (hl : ∀ j, j < n → tx_ms j (f j) = true) : (¬ (n = 0 ∨ n % 4 = 3) → tx_tF n f = nI n ∧ tx_tN n f = 0) ∧ (n = 0 ∨ n % 4 = 3 → tx_tF n f = -1 ∧ tx_tN n f = (n + 1) / 4) := by
  have hB : tx_tB n f = -1 := (mt_ff_m1 (by omega)).mpr (fun j hj => by simp [hl j hj])
  refine ⟨fun h => ?_, fun h => ?_⟩
  · have hF : tx_tF n f = nI n := by unfold tx_tF; rw [if_pos hB, if_neg h]
    exact ⟨hF, by unfold tx_tN; rw [hF, if_neg (pz_ne_m1 (by omega))]⟩
  · have hF : tx_tF n f = -1 := by unfold tx_tF; rw [if_pos hB, if_pos h]
    exact ⟨hF, by unfold tx_tN; rw [if_pos hF]⟩
/-- of a text whose places before k are well and whose place k isn't (or is its end) -/
theorem tx_tF_no {n k : Nat} {f : Nat → Int32} (hn : n ≤ 31) (hk : k ≤ n) (hk3 : k = n → ¬ (n = 0 ∨ n % 4 = 3)) (hb : ¬ (k < n ∧ tx_ms k (f k) = true)) (hl : ∀ j, j < k → tx_ms j (f j) = true) : tx_tF n f = nI k ∧ tx_tN n f = 0 := by
  rcases Nat.lt_or_ge k n with h | h
  · exact tx_tF_at hn h (by cases q : tx_ms k (f k) with | false => rfl | true => exact absurd ⟨h, q⟩ hb) hl
  · obtain rfl : k = n := by omega
    exact (tx_tF_end hn hl).1 (hk3 rfl)
theorem m_readsThings {n : Nat} {f : Nat → Int32} {τ : bk_S} {post : Int32 → bk_S → Prop} (hn : n ≤ 31) (h1 : τ 1 1 = nI n) (hf : ∀ j, j < n → τ 2 (31 + j) = f j) (hb : ∀ j, j < n → ∃ m, m < 256 ∧ f j = nI m) (hpost : ∀ τ', rd_F τ τ' → τ' 0 2 = τ 0 2 → τ' 4 = τ 4 → τ' 0 4 = nI (tx_tN n f) → (∀ t, t < tx_tN n f → τ' 6 t = tx_so (f (4 * t)) ∧ τ' 7 t = f (4 * t + 1) - 48 ∧ τ' 8 t = f (4 * t + 2) - 48) → post (tx_tF n f) τ') : w_X9_readsThings τ post := by
  unfold w_X9_readsThings
  simp only [bk_lt_iff, bk_jn_iff, pz_clamp1]
  have hv : vp_in 1 2 := by unfold vp_in; decide
  refine bk_loop_up 8 (fun t (a : bk_S) => (nI t, nI (4 * t), a)) (fun t a => (4 * t ≤ n) ∧ (∀ j, j < 4 * t → tx_ms j (f j) = true) ∧ rd_F τ a ∧ a 0 2 = τ 0 2 ∧ a 4 = τ 4 ∧ a 0 4 = 0 ∧ (∀ t', t' < t → a 6 t' = tx_so (f (4 * t')) ∧ a 7 t' = f (4 * t' + 1) - 48 ∧ a 8 t' = f (4 * t' + 2) - 48)) (i0 := 0) (b0 := bk_u τ 0 4 0) rfl (Nat.zero_le _) ⟨Nat.zero_le _, fun j hj => absurd hj (Nat.not_lt_zero _), (rd_F.rf τ).u (by omega), by rw [bk_u_at, if_neg (by omega)], bk_u_row _ (by omega), bk_u_same _ _ _ _, fun j hj => absurd hj (Nat.not_lt_zero _)⟩ ?_ ?_
  · rintro t a K ht ⟨hle, hms, F, q2, q4, q04, q⟩ hK
    have y1 : a 1 1 = nI n := by rw [F 1 1 (by omega) (by omega) (by omega) (by omega) (by omega)]; exact h1
    have hf' : ∀ j, j < n → a 2 (31 + j) = f j := fun j hj => by rw [F 2 _ (by omega) (by omega) (by omega) (by omega) (by omega)]; exact hf j hj
    have no : ∀ k, k ≤ n → (k = n → ¬ (n = 0 ∨ n % 4 = 3)) → ¬ (k < n ∧ tx_ms k (f k) = true) → (∀ j, j < k → tx_ms j (f j) = true) → post (nI k) a := by
      intro k hk hk3 hbad hl
      obtain ⟨eF, eN⟩ := tx_tF_no hn hk hk3 hbad hl
      have := hpost a F q2 q4 (by rw [eN]; exact q04) (fun t' ht' => by rw [eN] at ht'; omega)
      rw [eF] at this; exact this
    have main : (0 < 4 * t ∨ 4 * t < n) → w_X9_readsThing (nI t) (nI (4 * t)) a (fun r10 σ11 => (3 ≤ r10 → vp_in 1 2 ∧ (¬ nI (4 * t) + 3 = σ11 1 1 → w_X9_byteAt 1 (nI (4 * t) + 3) σ11 (fun r15 => (r15 = 59 → K (nI t + 1, nI (4 * t) + 3 + 1, σ11)) ∧ (¬ r15 = 59 → post (nI (4 * t) + 3) σ11))) ∧ (nI (4 * t) + 3 = σ11 1 1 → post (-1) (bk_u σ11 0 4 (nI t + 1)))) ∧ (¬ 3 ≤ r10 → post (nI (4 * t) + r10) σ11)) := by
      intro hgo
      have e3 : nI (4 * t) + 3 = nI (4 * t + 3) := by rw [pz_3, nI_add]
      have e31 : nI (4 * t + 3) + 1 = nI (4 * (t + 1)) := by rw [nI_1]; congr 1
      refine m_readsThing hn ht y1 hf' hb (fun g0 => ?_) (fun g0 g1 => ?_) (fun g0 g1 g2 => ?_) (fun g0 g1 g2 => ?_)
      · refine ⟨fun h => absurd h (by decide), fun _ => ?_⟩
        rw [Int32.add_zero]
        exact no (4 * t) hle (by omega) g0 hms
      · refine ⟨fun h => absurd h (by decide), fun _ => ?_⟩
        rw [nI_1]
        refine no (4 * t + 1) (by omega) (by omega) g1 (fun j hj => ?_)
        by_cases e : j = 4 * t
        · rw [e]; exact g0.2
        · exact hms j (by omega)
      · refine ⟨fun h => absurd h (by decide), fun _ => ?_⟩
        rw [pz_2, nI_add]
        refine no (4 * t + 2) (by omega) (by omega) g2 (fun j hj => ?_)
        by_cases e : j = 4 * t
        · rw [e]; exact g0.2
        · by_cases e' : j = 4 * t + 1
          · rw [e']; exact g1.2
          · exact hms j (by omega)
      · refine ⟨fun _ => ⟨hv, ?_⟩, fun h => absurd (by decide) h⟩
        have hms3 : ∀ j, j < 4 * t + 3 → tx_ms j (f j) = true := fun j hj => by
          by_cases e : j = 4 * t
          · rw [e]; exact g0.2
          · by_cases e' : j = 4 * t + 1
            · rw [e']; exact g1.2
            · by_cases e'' : j = 4 * t + 2
              · rw [e'']; exact g2.2
              · exact hms j (by omega)
        generalize hS : bk_u (bk_u (bk_u a 6 t (tx_so (f (4 * t)))) 7 t (f (4 * t + 1) - 48)) 8 t (f (4 * t + 2) - 48) = a1
        have F1 : rd_F τ a1 := by rw [← hS]; exact ((F.u (by omega)).u (by omega)).u (by omega)
        have r1 : ∀ r, r ≠ 6 → r ≠ 7 → r ≠ 8 → a1 r = a r := fun r x1 x2 x3 => by rw [← hS, bk_u_row _ x3, bk_u_row _ x2, bk_u_row _ x1]
        have z1 : a1 1 1 = nI n := by rw [r1 1 (by omega) (by omega) (by omega)]; exact y1
        have qt : ∀ t', t' < t + 1 → a1 6 t' = tx_so (f (4 * t')) ∧ a1 7 t' = f (4 * t' + 1) - 48 ∧ a1 8 t' = f (4 * t' + 2) - 48 := by
          intro t' ht'
          rw [← hS, bk_u_row (a := 6) (k := 8) _ (by omega), bk_u_row (a := 6) (k := 7) _ (by omega), bk_u_row (a := 7) (k := 8) _ (by omega)]
          by_cases e : t' = t
          · subst e; rw [bk_u_same, bk_u_same, bk_u_same]; exact ⟨rfl, rfl, rfl⟩
          · rw [bk_u_at, if_neg (by omega), bk_u_at, if_neg (by omega), bk_u_row (a := 7) (k := 6) _ (by omega), bk_u_at, if_neg (by omega), bk_u_row (a := 8) (k := 7) _ (by omega), bk_u_row (a := 8) (k := 6) _ (by omega)]
            exact q t' (by omega)
        rw [z1, e3, e31, nI_1, nI_eq (by omega) (by omega)]
        refine ⟨fun hne => m_byte1 hn (by omega) z1 ?_, fun heq => ?_⟩
        · have hf1 : a1 2 (31 + (4 * t + 3)) = f (4 * t + 3) := by rw [r1 2 (by omega) (by omega) (by omega)]; exact hf' _ (by omega)
          rw [if_pos (by omega), hf1]
          have ms3 : tx_ms (4 * t + 3) (f (4 * t + 3)) = decide (f (4 * t + 3) = 59) := by unfold tx_ms; rw [if_neg (by omega), if_neg (by omega), if_neg (by omega)]
          refine ⟨fun h59 => hK a1 ⟨by omega, fun j hj => ?_, F1, ?_, ?_, ?_, qt⟩, fun h59 => ?_⟩
          · by_cases e : j = 4 * t + 3
            · rw [e, ms3]; simp [h59]
            · exact hms3 j (by omega)
          · rw [r1 0 (by omega) (by omega) (by omega)]; exact q2
          · rw [r1 4 (by omega) (by omega) (by omega)]; exact q4
          · rw [r1 0 (by omega) (by omega) (by omega)]; exact q04
          · obtain ⟨eF, eN⟩ := tx_tF_at hn (show 4 * t + 3 < n by omega) (by rw [ms3]; simp [h59]) hms3
            have := hpost a1 F1 (by rw [r1 0 (by omega) (by omega) (by omega)]; exact q2) (by rw [r1 4 (by omega) (by omega) (by omega)]; exact q4) (by rw [eN, r1 0 (by omega) (by omega) (by omega)]; exact q04) (fun t' ht' => by rw [eN] at ht'; omega)
            rw [eF] at this; exact this
        · obtain ⟨eF, eN⟩ := (tx_tF_end hn (f := f) (fun j hj => hms3 j (by omega))).2 (Or.inr (by omega))
          have eN : tx_tN n f = t + 1 := by rw [eN]; omega
          have := hpost (bk_u a1 0 4 (nI (t + 1))) (F1.u (by omega)) (by rw [bk_u_at, if_neg (by omega), r1 0 (by omega) (by omega) (by omega)]; exact q2) (by rw [bk_u_row _ (by omega), r1 4 (by omega) (by omega) (by omega)]; exact q4) (by rw [eN]; exact bk_u_same _ _ _ _) (fun t' ht' => by rw [bk_u_row (a := 6) _ (by omega), bk_u_row (a := 7) _ (by omega), bk_u_row (a := 8) _ (by omega)]; exact qt t' (by omega))
          rw [eF] at this; exact this
    show vp_in 1 2 ∧ (nI (4 * t) < a 1 1 → _) ∧ (¬ nI (4 * t) < a 1 1 → (nI (4 * t) ≤ 0 → post (-1) a) ∧ (¬ nI (4 * t) ≤ 0 → _))
    rw [y1]
    refine ⟨hv, fun hlt => main (Or.inr ((nI_ltI (by omega) (by omega)).mp hlt)), fun hlt => ⟨fun hz => ?_, fun hz => main (Or.inl ?_)⟩⟩
    · have ht0 : 4 * t = 0 := by have := (nI_leI (b := 0) (by omega) (by omega)).mp hz; omega
      have hn0 : n = 0 := by
        rcases Nat.eq_zero_or_pos n with h | h
        · exact h
        · exact absurd ((nI_ltI (by omega) (by omega)).mpr (show 4 * t < n by omega)) hlt
      obtain ⟨eF, eN⟩ := (tx_tF_end hn (f := f) (fun j hj => by omega)).2 (Or.inl hn0)
      have eN : tx_tN n f = 0 := by rw [eN]; omega
      have := hpost a F q2 q4 (by rw [eN]; exact q04) (fun t' ht' => by omega)
      rw [eF] at this; exact this
    · rcases Nat.eq_zero_or_pos (4 * t) with h | h
      · rw [h] at hz; exact absurd (by decide) hz
      · exact h
  · rintro a K ⟨hle, _⟩
    omega
/-- the reference's own state, held against the class's -/
def rb (σ τ : bk_S) : Prop :=
  τ 1 0 = σ 1 2 ∧ τ 1 1 = σ 3 2 ∧ (∀ j, j < bs_n0 σ → τ 2 j = σ 2 j) ∧ (∀ j, j < bs_n1 σ → τ 2 (31 + j) = σ 4 j) ∧
  τ 0 8 = σ 5 3 ∧ (∀ i, i < bs_ne σ → τ 10 i = σ 6 i ∧ τ 11 i = σ 7 i ∧ τ 12 i = σ 8 i) ∧
  τ 0 46 = σ 9 3 ∧ (∀ i, i < bs_ns σ → τ 48 i = σ 10 i ∧ τ 49 i = σ 11 i ∧ τ 50 i = σ 12 i) ∧
  (∀ s, s < 4 → (τ 52 s = 0 ∨ τ 52 s = 1) ∧ (τ 52 s = 0 ↔ σ (14 + 2 * s) 1 = -1) ∧ (¬ τ 52 s = 0 → τ 53 s = σ (14 + 2 * s) 0 ∧ τ 54 s = σ (14 + 2 * s) 1 ∧ ∀ j, j < 60 → τ 55 (60 * s + j) = σ (14 + 2 * s + 1) j)) ∧
  τ 0 56 = σ 0 15
/-- what a question leaves as it was -/
def rq (τ τ' : bk_S) : Prop := (∀ r, (r = 1 ∨ r = 2 ∨ r = 10 ∨ r = 11 ∨ r = 12 ∨ r = 48 ∨ r = 49 ∨ r = 50 ∨ r = 52 ∨ r = 53 ∨ r = 54 ∨ r = 55) → τ' r = τ r) ∧ τ' 0 8 = τ 0 8 ∧ τ' 0 46 = τ 0 46 ∧ τ' 0 56 = τ 0 56
theorem rq.rf (τ : bk_S) : rq τ τ := ⟨fun _ _ => rfl, rfl, rfl, rfl⟩
theorem rq.tr {a b c : bk_S} (h : rq a b) (h' : rq b c) : rq a c := ⟨fun r hr => (h'.1 r hr).trans (h.1 r hr), h'.2.1.trans h.2.1, h'.2.2.1.trans h.2.2.1, h'.2.2.2.trans h.2.2.2⟩
theorem rd_F.q {a b : bk_S} (h : rd_F a b) : rq a b := ⟨fun r hr => funext fun j => h r j (by omega) (by omega) (by omega) (by omega) (by omega), h 0 8 (by omega) (by omega) (by omega) (by omega) (by omega), h 0 46 (by omega) (by omega) (by omega) (by omega) (by omega), h 0 56 (by omega) (by omega) (by omega) (by omega) (by omega)⟩
theorem rr_F.q {a b : bk_S} (h : rr_F a b) : rq a b := ⟨fun r hr => funext fun j => h r j (by omega) (by omega), h 0 8 (by omega) (by omega), h 0 46 (by omega) (by omega), h 0 56 (by omega) (by omega)⟩
theorem rq.u {a b : bk_S} (h : rq a b) {k i : Nat} {v : Int32} (hk : (k = 0 ∧ i ≠ 8 ∧ i ≠ 46 ∧ i ≠ 56) ∨ (2 < k ∧ k < 10) ∨ (12 < k ∧ k < 48) ∨ k = 51 ∨ 55 < k) : rq a (bk_u b k i v) := by
  refine ⟨fun r hr => ?_, ?_, ?_, ?_⟩
  · rw [bk_u_row _ (by omega)]; exact h.1 r hr
  · rw [bk_u_at, if_neg (by omega)]; exact h.2.1
  · rw [bk_u_at, if_neg (by omega)]; exact h.2.2.1
  · rw [bk_u_at, if_neg (by omega)]; exact h.2.2.2
theorem rb.q {σ τ τ' : bk_S} (h : rb σ τ) (q : rq τ τ') : rb σ τ' := by
  obtain ⟨a1, a2, a3, a4, a5, a6, a7, a8, a9, a10⟩ := h
  have z := q.1
  unfold rb
  rw [z 1 (by omega), z 2 (by omega), z 10 (by omega), z 11 (by omega), z 12 (by omega), z 48 (by omega), z 49 (by omega), z 50 (by omega), z 52 (by omega), z 53 (by omega), z 54 (by omega), z 55 (by omega), q.2.1, q.2.2.1, q.2.2.2]
  exact ⟨a1, a2, a3, a4, a5, a6, a7, a8, a9, a10⟩
theorem rb.E {σ σ' τ : bk_S} (h : rb σ τ) (e : bs_E σ σ') : rb σ' τ := by
  have q := e.1
  unfold rb bs_n0 bs_n1 bs_ne bs_ns at *
  rw [q 1 (by omega) (by omega), q 2 (by omega) (by omega), q 3 (by omega) (by omega), q 4 (by omega) (by omega), q 5 (by omega) (by omega), q 6 (by omega) (by omega), q 7 (by omega) (by omega), q 8 (by omega) (by omega), q 9 (by omega) (by omega), q 10 (by omega) (by omega), q 11 (by omega) (by omega), q 12 (by omega) (by omega), e.2]
  obtain ⟨a1, a2, a3, a4, a5, a6, a7, a8, a9, a10⟩ := h
  refine ⟨a1, a2, a3, a4, a5, a6, a7, a8, fun s hs => ?_, a10⟩
  rw [q (14 + 2 * s) (by omega) (by omega), q (14 + 2 * s + 1) (by omega) (by omega)]; exact a9 s hs
/-- what the reference has read is what is told -/
def rd_T (σ τ : bk_S) : Prop := τ 0 2 = nI (tx_hN (bs_n0 σ) (σ 2)) ∧ τ 0 4 = nI (tx_tN (bs_n1 σ) (σ 4)) ∧ (∀ h, h < tx_hN (bs_n0 σ) (σ 2) → τ 4 h = tx_mo (σ 2 h)) ∧ (∀ t, t < tx_tN (bs_n1 σ) (σ 4) → τ 6 t = tx_so (σ 4 (4 * t)) ∧ τ 7 t = σ 4 (4 * t + 1) - 48 ∧ τ 8 t = σ 4 (4 * t + 2) - 48)
theorem m_faultOf {x : Int32} {σ τ : bk_S} {post : Int32 → bk_S → Prop} (hi : ib σ) (hb : rb σ τ) (hpost : ∀ τ', rd_F τ τ' → rd_T σ τ' → post (if x = 0 then tx_hF (bs_n0 σ) (σ 2) else tx_tF (bs_n1 σ) (σ 4)) τ') : w_X9_faultOf x τ post := by
  unfold w_X9_faultOf
  simp only [bk_lt_iff]
  refine m_readsHooks (f := σ 2) hi.1.1 (by rw [hb.1]; exact hi.1.2) hb.2.2.1 (fun τ1 F1 q4 qr q2 qm => ?_)
  refine m_readsThings (f := σ 4) hi.2.1.1 (by rw [F1 1 1 (by omega) (by omega) (by omega) (by omega) (by omega), hb.2.1]; exact hi.2.1.2) (fun j hj => by rw [F1 2 _ (by omega) (by omega) (by omega) (by omega) (by omega)]; exact hb.2.2.2.1 j hj) hi.2.2.2.2.1 (fun τ2 F2 p2 p4 p04 pt => ?_)
  have hT : rd_T σ τ2 := ⟨by rw [p2]; exact q2, p04, fun h hh => by rw [p4]; exact qm h hh, pt⟩
  have := hpost τ2 (F1.tr F2) hT
  exact ⟨fun h => by rwa [if_neg h] at this, fun h => by rwa [if_pos h] at this⟩
theorem m_reads {σ τ : bk_S} {post : bk_S → Prop} (hi : ib σ) (hb : rb σ τ) (hpost : ∀ τ', rd_F τ τ' → rd_T σ τ' → post τ') : w_X9_reads τ post := by
  unfold w_X9_reads
  simp only [bk_lt_iff]
  exact m_faultOf hi hb hpost
