/-! What is told: the two texts, the events; the class reads them. -/
def mt_ff (bad : Nat → Bool) : Nat → Nat → Int32
  | 0, _ => -1
  | n + 1, i => if bad i = true then nI i else mt_ff bad n (i + 1)
def tx_mo (b : Int32) : Int32 := if b = 103 then 0 else if b = 104 then 1 else if b = 115 then 2 else -1
def tx_so (b : Int32) : Int32 := if b = 109 then 0 else if b = 113 then 2 else if b = 119 then 1 else -1
def tx_hF (n : Nat) (f : Nat → Int32) : Int32 := mt_ff (fun i => decide (tx_mo (f i) = -1)) n 0
def tx_hN (n : Nat) (f : Nat → Int32) : Nat := if tx_hF n f = -1 then n else 0
def tx_ms (i : Nat) (b : Int32) : Bool := if i % 4 = 0 then !decide (tx_so b = -1) else if i % 4 = 1 then decide (49 ≤ b ∧ b ≤ 57) else if i % 4 = 2 then decide (48 ≤ b ∧ b ≤ 57) else decide (b = 59)
def tx_tB (n : Nat) (f : Nat → Int32) : Int32 := mt_ff (fun i => !tx_ms i (f i)) n 0
def tx_tF (n : Nat) (f : Nat → Int32) : Int32 := if tx_tB n f = -1 then (if n = 0 ∨ n % 4 = 3 then -1 else nI n) else tx_tB n f
def tx_tN (n : Nat) (f : Nat → Int32) : Nat := if tx_tF n f = -1 then (n + 1) / 4 else 0
theorem mt_ff_spec (bad : Nat → Bool) : ∀ n i, i + n < 2 ^ 31 → (mt_ff bad n i = -1 ∧ ∀ j, i ≤ j → j < i + n → bad j = false) ∨ (∃ k, i ≤ k ∧ k < i + n ∧ mt_ff bad n i = nI k ∧ bad k = true ∧ ∀ j, i ≤ j → j < k → bad j = false)
  | 0, i, _ => Or.inl ⟨rfl, fun j h1 h2 => by omega⟩
  | n + 1, i, h => by
    unfold mt_ff
    cases hb : bad i with
    | true => exact Or.inr ⟨i, by omega, by omega, by simp, hb, fun j h1 h2 => by omega⟩
    | false =>
      simp only [Bool.false_eq_true, if_false]
      rcases mt_ff_spec bad n (i + 1) (by omega) with ⟨h1, h2⟩ | ⟨k, h1, h2, h3, h4, h5⟩
      · refine Or.inl ⟨h1, fun j h3 h4 => ?_⟩
        by_cases e : j = i
        · rw [e]; exact hb
        · exact h2 j (by omega) (by omega)
      · refine Or.inr ⟨k, by omega, by omega, h3, h4, fun j h6 h7 => ?_⟩
        by_cases e : j = i
        · rw [e]; exact hb
        · exact h5 j (by omega) h7
theorem mt_ff_m1 {bad : Nat → Bool} {n : Nat} (hn : n < 2 ^ 31) : mt_ff bad n 0 = -1 ↔ ∀ j, j < n → bad j = false := by
  rcases mt_ff_spec bad n 0 (by omega) with ⟨h1, h2⟩ | ⟨k, h1, h2, h3, h4, h5⟩
  · exact ⟨fun _ j hj => h2 j (Nat.zero_le _) (by omega), fun _ => h1⟩
  · exact ⟨fun h => absurd (h3 ▸ h) (pz_ne_m1 (by omega)), fun h => by rw [h k (by omega)] at h4; simp at h4⟩
theorem mt_ff_at {bad : Nat → Bool} {n k : Nat} (hn : n < 2 ^ 31) (hk : k < n) (hb : bad k = true) (hl : ∀ j, j < k → bad j = false) : mt_ff bad n 0 = nI k := by
  rcases mt_ff_spec bad n 0 (by omega) with ⟨h1, h2⟩ | ⟨k', h1, h2, h3, h4, h5⟩
  · rw [h2 k (Nat.zero_le _) (by omega)] at hb; simp at hb
  · rcases Nat.lt_trichotomy k k' with h | h | h
    · rw [h5 k (Nat.zero_le _) h] at hb; simp at hb
    · rw [h]; exact h3
    · rw [hl k' h] at h4; simp at h4
/-- a loop that looks for the first bad place -/
theorem mt_ff_step {bad : Nat → Bool} {n i : Nat} (h : i < n) : mt_ff bad (n - i) i = if bad i = true then nI i else mt_ff bad (n - (i + 1)) (i + 1) := by
  rw [show n - i = (n - (i + 1)) + 1 by omega]; rfl
theorem c_minutesOf {b : Int32} {post : Int32 → Prop} (h : post (tx_mo b)) : w_X6_minutesOf b post := by
  unfold w_X6_minutesOf; unfold tx_mo at h
  refine ⟨fun e => by rwa [if_pos e] at h, fun n1 => ⟨fun e => by rwa [if_neg n1, if_pos e] at h, fun n2 => ⟨fun e => by rwa [if_neg n1, if_neg n2, if_pos e] at h, fun n3 => by rwa [if_neg n1, if_neg n2, if_neg n3] at h⟩⟩⟩
theorem c_sortOf {b : Int32} {post : Int32 → Prop} (h : post (tx_so b)) : w_X6_sortOf b post := by
  unfold w_X6_sortOf; unfold tx_so at h
  refine ⟨fun e => by rwa [if_pos e] at h, fun n1 => ⟨fun e => by rwa [if_neg n1, if_pos e] at h, fun n2 => ⟨fun e => by rwa [if_neg n1, if_neg n2, if_pos e] at h, fun n3 => by rwa [if_neg n1, if_neg n2, if_neg n3] at h⟩⟩⟩
theorem c_faultOfHooks {b n : Nat} {σ : bk_S} {post : Int32 → Prop} (hn : n ≤ 31) (h2 : σ b 2 = nI n) (h : post (tx_hF n (σ (b + 1)))) : w_X6_faultOfHooks b σ post := by
  unfold w_X6_faultOfHooks
  simp only [bk_lt_iff]
  rw [h2]
  refine bk_loop_up n (fun i (_ : Unit) => nI i) (fun i _ => post (mt_ff (fun i => decide (tx_mo (σ (b + 1) i) = -1)) (n - i) i)) (i0 := 0) (b0 := ()) rfl (Nat.zero_le _) h ?_ ?_
  · intro i _ K hi hI hK
    rw [mt_ff_step hi] at hI
    simp only [nI_1, nI_clamp (show i < 2 ^ 31 by omega)]
    refine ⟨fun hle => absurd ((nI_leI (by omega) (by omega)).mp hle) (by omega), fun _ => ⟨(pz_in (by omega)).mpr (by omega), c_minutesOf ⟨fun hne => hK () ?_, fun heq => ?_⟩⟩⟩
    · simpa [hne] using hI
    · simpa [heq] using hI
  · intro _ K hI
    refine ⟨fun _ => ?_, fun hn' => absurd ((nI_leI (by omega) (by omega)).mpr (Nat.le_refl _)) hn'⟩
    rw [Nat.sub_self] at hI; exact hI
theorem pz_mod4 {i : Nat} (h : i < 2 ^ 30) : nI i - nI i / 4 * 4 = nI (i % 4) := pk_rem (a := i) (d := 4) (by omega) (by omega) (by omega)
theorem c_mayStand {i : Nat} {b : Int32} {post : Int32 → Prop} (hi : i < 2 ^ 30) (h1 : tx_ms i b = true → post 1) (h0 : tx_ms i b = false → post 0) : w_X6_mayStand (nI i) b post := by
  unfold w_X6_mayStand
  simp only [bk_jn_iff]
  rw [pz_mod4 hi]
  unfold tx_ms at h1 h0
  have hm : i % 4 < 4 := Nat.mod_lt _ (by omega)
  have q : ∀ k, k < 4 → (nI (i % 4) = nI k ↔ i % 4 = k) := fun k hk => nI_eq (by omega) (by omega)
  refine ⟨by decide, fun e0 => ?_, fun n0 => ⟨fun e1 => ?_, fun n1 => ⟨fun e2 => ?_, fun n2 => ?_⟩⟩⟩
  · have e0 := (q 0 (by omega)).mp e0
    simp only [e0, if_true] at h1 h0
    exact c_sortOf ⟨fun h => h0 (by simp [h]), fun h => h1 (by simp [h])⟩
  · have e1 := (q 1 (by omega)).mp e1
    simp only [e1, if_true, show ¬ (1 : Nat) = 0 by decide, if_false] at h1 h0
    refine ⟨fun h => h0 (by simpa using fun h2 => absurd h (Int32.not_lt.mpr h2)), fun h => ⟨fun h' => h0 (by simpa using fun _ => h'), fun h' => h1 (by simpa using ⟨Int32.not_lt.mp h, Int32.not_lt.mp h'⟩)⟩⟩
  · have e2 := (q 2 (by omega)).mp e2
    simp only [e2, if_true, show ¬ (2 : Nat) = 0 by decide, show ¬ (2 : Nat) = 1 by decide, if_false] at h1 h0
    refine ⟨fun h => h0 (by simpa using fun h2 => absurd h (Int32.not_lt.mpr h2)), fun h => ⟨fun h' => h0 (by simpa using fun _ => h'), fun h' => h1 (by simpa using ⟨Int32.not_lt.mp h, Int32.not_lt.mp h'⟩)⟩⟩
  · have n0 : ¬ i % 4 = 0 := fun h => n0 ((q 0 (by omega)).mpr h)
    have n1 : ¬ i % 4 = 1 := fun h => n1 ((q 1 (by omega)).mpr h)
    have n2 : ¬ i % 4 = 2 := fun h => n2 ((q 2 (by omega)).mpr h)
    simp only [n0, n1, n2, if_false] at h1 h0
    exact ⟨fun h => h0 (by simpa using h), fun h => h1 (by simpa using h)⟩
theorem c_faultOfThings {b n : Nat} {σ : bk_S} {post : Int32 → Prop} (hn : n ≤ 31) (h2 : σ b 2 = nI n) (h : post (tx_tF n (σ (b + 1)))) : w_X6_faultOfThings b σ post := by
  unfold w_X6_faultOfThings
  simp only [bk_lt_iff, bk_jn_iff]
  rw [h2]
  unfold tx_tF tx_tB at h
  refine bk_loop_up n (fun i (_ : Unit) => nI i) (fun i _ => (mt_ff (fun i => !tx_ms i (σ (b + 1) i)) n 0 = mt_ff (fun i => !tx_ms i (σ (b + 1) i)) (n - i) i)) (i0 := 0) (b0 := ()) rfl (Nat.zero_le _) rfl ?_ ?_
  · intro i _ K hi hI hK
    rw [mt_ff_step hi] at hI
    simp only [nI_1, nI_clamp (show i < 2 ^ 31 by omega)]
    refine ⟨fun hle => absurd ((nI_leI (by omega) (by omega)).mp hle) (by omega), fun _ => ⟨(pz_in (by omega)).mpr (by omega), c_mayStand (by omega) (fun hs => ⟨fun _ => hK () ?_, fun h => absurd h (by decide)⟩) (fun hs => ⟨fun h => absurd rfl h, fun _ => ?_⟩)⟩⟩
    · rw [hI]; simp [hs]
    · have hI' : mt_ff (fun i => !tx_ms i (σ (b + 1) i)) n 0 = nI i := by rw [hI]; simp [hs]
      rw [hI'] at h
      rwa [if_neg (pz_ne_m1 (show i < 2 ^ 31 by omega))] at h
  · intro _ K hI
    refine ⟨fun _ => ?_, fun hn' => absurd ((nI_leI (by omega) (by omega)).mpr (Nat.le_refl _)) hn'⟩
    rw [Nat.sub_self] at hI
    rw [hI, mt_ff, if_pos rfl] at h
    rw [pz_mod4 (by omega)]
    refine ⟨fun e0 => ?_, fun n0 => ⟨by decide, fun n3 => ?_, fun e3 => ?_⟩⟩
    · rwa [if_pos (Or.inl ((nI_eq (b := 0) (by omega) (by omega)).mp e0))] at h
    · rwa [if_neg (by rintro (hh | hh); exact n0 (by rw [hh]; rfl); exact n3 (by rw [hh]; rfl))] at h
    · rwa [if_pos (Or.inr ((nI_eq (b := 3) (by omega) (by omega)).mp e3))] at h
def sf_F (s : Nat) (σ σ' : bk_S) : Prop := ∀ k, (k < s ∨ s + 6 < k) → σ' k = σ k
theorem sf_F.rf (s : Nat) (σ : bk_S) : sf_F s σ σ := fun _ _ => rfl
theorem sf_F.tr {s : Nat} {a b c : bk_S} (h : sf_F s a b) (h' : sf_F s b c) : sf_F s a c := fun k hk => (h' k hk).trans (h k hk)
theorem sf_F.u {s : Nat} {a b : bk_S} (h : sf_F s a b) {k j : Nat} {v : Int32} (hk : s ≤ k ∧ k ≤ s + 6) : sf_F s a (bk_u b k j v) := fun r hr => by rw [bk_u_row _ (by omega)]; exact h r hr
theorem sf_F.w {s : Nat} {a b : bk_S} (h : sf_F s a b) {k : Nat} {g : Nat → Int32} (hk : s ≤ k ∧ k ≤ s + 6) : sf_F s a (bk_w b k g) := fun r hr => by rw [bk_w_n _ _ (by omega)]; exact h r hr
theorem c_takeHooks {s b n : Nat} {σ : bk_S} {post : bk_S → Prop} (hn : n ≤ 12) (hbs : b + 1 < s) (h2 : σ b 2 = nI n) (hpost : ∀ σ', (∀ k, k ≠ s + 1 → ¬ k = s → σ' k = σ k) → σ' s 0 = nI (tx_hN n (σ (b + 1))) → (∀ j, j ≠ 0 → σ' s j = σ s j) → (∀ h, h < tx_hN n (σ (b + 1)) → σ' (s + 1) h = tx_mo (σ (b + 1) h)) → post σ') : w_X4_takeHooks s b σ post := by
  unfold w_X4_takeHooks
  refine c_faultOfHooks (by omega) h2 ?_
  simp only [bk_lt_iff]
  have hN : tx_hN n (σ (b + 1)) ≤ 12 := by unfold tx_hN; split <;> omega
  have e0 : (if tx_hF n (σ (b + 1)) = -1 then σ b 2 else 0) = nI (tx_hN n (σ (b + 1))) := by
    unfold tx_hN; rw [h2]; split <;> rfl
  rw [e0]
  generalize tx_hN n (σ (b + 1)) = N at *
  have hfb : ∀ j, bk_u σ s 0 (nI N) (b + 1) j = σ (b + 1) j := fun j => by rw [bk_u_row _ (by omega)]
  refine bk_loop_up N (fun i (a : bk_S) => (nI i, a)) (fun i a => (∀ k, k ≠ s + 1 → ¬ k = s → a k = σ k) ∧ a s 0 = nI N ∧ (∀ j, j ≠ 0 → a s j = σ s j) ∧ (∀ h, h < i → a (s + 1) h = tx_mo (σ (b + 1) h))) (i0 := 0) (b0 := bk_u σ s 0 (nI N)) rfl (Nat.zero_le _) ⟨fun k _ hk => bk_u_row _ hk, bk_u_same _ _ _ _, fun j hj => by rw [bk_u_at, if_neg (by omega)], fun h hh => absurd hh (Nat.not_lt_zero _)⟩ ?_ ?_
  · rintro i a K hi ⟨q1, q2, q3, q4⟩ hK
    simp only [nI_1, nI_clamp (show i < 2 ^ 31 by omega)]
    refine ⟨fun hle => ?_, fun _ => ⟨(pz_in (by omega)).mpr (by omega), c_minutesOf ⟨(pz_in (by omega)).mpr (by omega), hK _ ⟨fun k h1 h2 => ?_, ?_, fun j hj => ?_, fun h hh => ?_⟩⟩⟩⟩
    · rw [q2] at hle; exact absurd ((nI_leI (by omega) (by omega)).mp hle) (by omega)
    · rw [bk_u_row _ h1]; exact q1 k h1 h2
    · rw [bk_u_row _ (by omega)]; exact q2
    · rw [bk_u_row _ (by omega)]; exact q3 j hj
    · rw [bk_u_at]
      by_cases e : h = i
      · rw [if_pos ⟨rfl, e⟩, e, q1 (b + 1) (by omega) (by omega)]
      · rw [if_neg (by omega)]; exact q4 h (by omega)
  · rintro a K ⟨q1, q2, q3, q4⟩
    refine ⟨fun _ => hpost a q1 q2 q3 q4, fun hn' => absurd ?_ hn'⟩
    show a s 0 ≤ nI N
    rw [q2]; exact (nI_leI (by omega) (by omega)).mpr (Nat.le_refl _)
theorem tx_tN_le {n : Nat} {f : Nat → Int32} (hn : n ≤ 31) : tx_tN n f ≤ 8 ∧ (0 < tx_tN n f → 4 * tx_tN n f = n + 1) := by
  unfold tx_tN
  by_cases h : tx_tF n f = -1
  · rw [if_pos h]
    refine ⟨by omega, fun hp => ?_⟩
    unfold tx_tF at h
    by_cases h2 : tx_tB n f = -1
    · rw [if_pos h2] at h
      by_cases h3 : n = 0 ∨ n % 4 = 3
      · omega
      · rw [if_neg h3] at h; exact absurd h (pz_ne_m1 (by omega))
    · rw [if_neg h2] at h; exact absurd h h2
  · rw [if_neg h]; omega
theorem c_takeThings {s b n : Nat} {σ : bk_S} {post : bk_S → Prop} (hn : n ≤ 31) (hbs : b + 1 < s) (h2 : σ b 2 = nI n) (hpost : ∀ σ', (∀ k, ¬ k = s → k ≠ s + 2 → k ≠ s + 3 → k ≠ s + 4 → σ' k = σ k) → σ' s 1 = nI (tx_tN n (σ (b + 1))) → (∀ j, j ≠ 1 → σ' s j = σ s j) → (∀ t, t < tx_tN n (σ (b + 1)) → σ' (s + 2) t = tx_so (σ (b + 1) (4 * t)) ∧ σ' (s + 3) t = σ (b + 1) (4 * t + 1) - 48 ∧ σ' (s + 4) t = σ (b + 1) (4 * t + 2) - 48) → post σ') : w_X4_takeThings s b σ post := by
  unfold w_X4_takeThings
  refine c_faultOfThings hn h2 ?_
  simp only [bk_lt_iff]
  have hN := tx_tN_le (f := σ (b + 1)) hn
  refine bk_jn_of (fun a => a = nI (tx_tN n (σ (b + 1)))) (fun K hK => ?_) (fun a ha => ?_)
  · unfold tx_tN at hK
    refine ⟨fun hf => hK _ (by rw [if_neg hf]; rfl), fun hf => ⟨by decide, hK _ ?_⟩⟩
    rw [if_pos hf, h2, nI_1]
    exact pk_div (d := 4) (by omega) (by omega) (by omega)
  · subst ha
    generalize tx_tN n (σ (b + 1)) = N at *
    refine bk_loop_up N (fun i (a : bk_S) => (nI i, a)) (fun i a => (∀ k, ¬ k = s → k ≠ s + 2 → k ≠ s + 3 → k ≠ s + 4 → a k = σ k) ∧ a s 1 = nI N ∧ (∀ j, j ≠ 1 → a s j = σ s j) ∧ (∀ t, t < i → a (s + 2) t = tx_so (σ (b + 1) (4 * t)) ∧ a (s + 3) t = σ (b + 1) (4 * t + 1) - 48 ∧ a (s + 4) t = σ (b + 1) (4 * t + 2) - 48)) (i0 := 0) (b0 := bk_u σ s 1 (nI N)) rfl (Nat.zero_le _) ⟨fun k hk _ _ _ => bk_u_row _ hk, bk_u_same _ _ _ _, fun j hj => by rw [bk_u_at, if_neg (by omega)], fun h hh => absurd hh (Nat.not_lt_zero _)⟩ ?_ ?_
    · rintro i a K hi ⟨q1, q2, q3, q4⟩ hK
      have e4 : (4 : Int32) * nI i = nI (4 * i) := by rw [pz_4, pz_mulr]
      have e5 : nI (4 * i) + 2 = nI (4 * i + 2) := by rw [pz_2, nI_add]
      have h4n := hN.2 (by omega)
      have hb1 : a (b + 1) = σ (b + 1) := q1 (b + 1) (by omega) (by omega) (by omega) (by omega)
      simp only [e4, nI_1, e5, nI_clamp (show i < 2 ^ 31 by omega), nI_clamp (show 4 * i < 2 ^ 31 by omega), nI_clamp (show 4 * i + 1 < 2 ^ 31 by omega), nI_clamp (show 4 * i + 2 < 2 ^ 31 by omega)]
      have hv8 : vp_in (nI i) 8 := (pz_in (by omega)).mpr (by omega)
      refine ⟨fun hle => ?_, fun _ => ⟨(pz_in (by omega)).mpr (by omega), c_sortOf ⟨hv8, (pz_in (by omega)).mpr (by omega), hv8, (pz_in (by omega)).mpr (by omega), hv8, hK _ ⟨fun k h1 h2 h3 h4 => ?_, ?_, fun j hj => ?_, fun t ht => ?_⟩⟩⟩⟩
      · rw [q2] at hle; exact absurd ((nI_leI (by omega) (by omega)).mp hle) (by omega)
      · rw [bk_u_row _ h4, bk_u_row _ h3, bk_u_row _ h2]; exact q1 k h1 h2 h3 h4
      · rw [bk_u_row _ (by omega), bk_u_row _ (by omega), bk_u_row _ (by omega)]; exact q2
      · rw [bk_u_row _ (by omega), bk_u_row _ (by omega), bk_u_row _ (by omega)]; exact q3 j hj
      · rw [bk_u_row (a := s + 2) (k := s + 4) _ (by omega), bk_u_row (a := s + 2) (k := s + 3) _ (by omega), bk_u_row (a := s + 3) (k := s + 4) _ (by omega), bk_u_row (a := b + 1) (k := s + 3) _ (by omega), bk_u_row (a := b + 1) (k := s + 2) _ (by omega), hb1]
        by_cases e : t = i
        · subst e
          rw [bk_u_same, bk_u_same, bk_u_same]; exact ⟨rfl, rfl, rfl⟩
        · rw [bk_u_at, if_neg (by omega), bk_u_at, if_neg (by omega), bk_u_row (a := s + 3) (k := s + 2) _ (by omega), bk_u_at, if_neg (by omega), bk_u_row (a := s + 4) (k := s + 3) _ (by omega), bk_u_row (a := s + 4) (k := s + 2) _ (by omega)]
          exact q4 t (by omega)
    · rintro a K ⟨q1, q2, q3, q4⟩
      refine ⟨fun _ => hpost a q1 q2 q3 q4, fun hn' => absurd ?_ hn'⟩
      show a s 1 ≤ nI N
      rw [q2]; exact (nI_leI (by omega) (by omega)).mpr (Nat.le_refl _)
