/-! The reference's evening. -/
theorem bf_k01 (τ : bk_S) (e : Nat) (kd : Int32) : ∀ n, bf_k τ e kd n = 0 ∨ bf_k τ e kd n = 1
  | 0 => Or.inl rfl
  | n + 1 => by
    unfold bf_k
    by_cases h : bf_ok τ e n ∧ τ 10 n = kd
    · rw [if_pos h]; exact Or.inr rfl
    · rw [if_neg h]; exact bf_k01 τ e kd n
def bf_S (τ : bk_S) (a b c : Int32) : bk_S := bk_u (bk_u (bk_u τ 0 20 a) 0 21 b) 0 22 c
theorem bf_S_row (τ : bk_S) (a b c : Int32) {r : Nat} (h : 0 < r) : bf_S τ a b c r = τ r := by unfold bf_S; rw [bk_u_row _ (by omega), bk_u_row _ (by omega), bk_u_row _ (by omega)]
theorem bf_S_col (τ : bk_S) (a b c : Int32) {j : Nat} (h : j < 20 ∨ 22 < j) : bf_S τ a b c 0 j = τ 0 j := by unfold bf_S; rw [bk_u_at, bk_u_at, bk_u_at, if_neg (by omega), if_neg (by omega), if_neg (by omega)]
theorem bf_S_20 (τ : bk_S) (a b c : Int32) : bf_S τ a b c 0 20 = a := by simp [bf_S, bk_u_at]
theorem bf_S_21 (τ : bk_S) (a b c : Int32) : bf_S τ a b c 0 21 = b := by simp [bf_S, bk_u_at]
theorem bf_S_22 (τ : bk_S) (a b c : Int32) : bf_S τ a b c 0 22 = c := by simp [bf_S, bk_u_at]
theorem bf_S_u20 (τ : bk_S) (a b c v : Int32) : bk_u (bf_S τ a b c) 0 20 v = bf_S τ v b c := by
  funext r j; simp only [bf_S, bk_u_at]
  by_cases h : r = 0
  · subst h
    by_cases h2 : j = 22
    · subst h2; simp
    · by_cases h1 : j = 21
      · subst h1; simp
      · by_cases h0 : j = 20 <;> simp [h0, h1, h2]
  · simp [h]
theorem bf_S_u21 (τ : bk_S) (a b c v : Int32) : bk_u (bf_S τ a b c) 0 21 v = bf_S τ a v c := by
  funext r j; simp only [bf_S, bk_u_at]
  by_cases h : r = 0
  · subst h
    by_cases h2 : j = 22
    · subst h2; simp
    · by_cases h1 : j = 21
      · subst h1; simp
      · by_cases h0 : j = 20 <;> simp [h0, h1, h2]
  · simp [h]
theorem bf_S_u22 (τ : bk_S) (a b c v : Int32) : bk_u (bf_S τ a b c) 0 22 v = bf_S τ a b v := by
  unfold bf_S; rw [bk_u_u]
theorem m_befalls {e ne : Nat} {τ : bk_S} {post : bk_S → Prop} (he : e < 12) (hne : ne ≤ 8) (h8 : τ 0 8 = nI ne) (hpost : post (bf_S τ (bf_k τ e 0 ne) (bf_k τ e 1 ne) (bf_l τ e ne))) : w_X9_befalls (nI e) τ post := by
  unfold w_X9_befalls
  simp only [bk_lt_iff]
  refine bk_loop_up ne (fun i (_ : Unit) => (nI i, bf_S τ (bf_k τ e 0 i) (bf_k τ e 1 i) (bf_l τ e i))) (fun _ _ => True) (i0 := 0) (b0 := ()) ?_ (Nat.zero_le _) trivial ?_ ?_
  · show (_, _) = (_, _)
    have x17 : bk_u (bk_u τ 0 20 0) 0 21 0 0 17 = τ 0 17 := by simp [bk_u_at]
    have x18 : bk_u (bk_u τ 0 20 0) 0 21 0 0 18 = τ 0 18 := by simp [bk_u_at]
    rw [x17, x18]; rfl
  · intro i _ K hi _ hK
    have hK := hK () trivial
    have hv : vp_in (nI i) 8 := (pz_in (by omega)).mpr (by omega)
    simp only [nI_1, nI_clamp (show i < 2 ^ 31 by omega), bf_S_row _ _ _ _ (show 0 < 10 by omega), bf_S_row _ _ _ _ (show 0 < 11 by omega), bf_S_row _ _ _ _ (show 0 < 12 by omega), bf_S_col _ _ _ _ (show 8 < 20 ∨ 22 < 8 by omega), bf_S_col _ _ _ _ (show 19 < 20 ∨ 22 < 19 by omega), bf_S_u20, bf_S_u21, bf_S_u22, bf_S_20, bf_S_21, bf_S_22, h8]
    refine ⟨fun hle => absurd ((nI_leI (by omega) (by omega)).mp hle) (by omega), fun _ => ⟨hv, fun hn => ?_, fun heq => m_isIn (fun hb => ⟨fun _ => ?_, fun h => absurd h (by decide)⟩) (fun hb => ⟨fun h => absurd rfl h, fun _ => ⟨hv, hv, hv, ?_⟩⟩)⟩⟩
    · rw [bf_k, bf_k, bf_l, if_neg (fun h => hn h.1.1), if_neg (fun h => hn h.1.1), if_neg (fun h => hn h.1.1)] at hK; exact hK
    · have hno : ∀ kd, ¬ (bf_ok τ e i ∧ τ 10 i = kd) := fun kd h => by have := h.1.2; rw [hb] at this; exact absurd this (by decide)
      rw [bf_k, bf_k, bf_l, if_neg (hno _), if_neg (hno _), if_neg (hno _)] at hK; exact hK
    · have hok : bf_ok τ e i := ⟨heq, hb⟩
      refine bk_jn_of (fun a => bf_l τ e i ||| a = bf_l τ e (i + 1)) (fun K2 hK2 => ?_) (fun a ha => ?_)
      · refine ⟨fun n2 => hK2 _ ?_, fun e2 => ⟨hv, hK2 _ ?_⟩⟩
        · rw [bf_l, if_neg (fun h => n2 h.2)]; simp
        · rw [bf_l, if_pos ⟨hok, e2⟩]
      · rw [ha]
        have k0 : bf_k τ e 0 (i + 1) = if τ 10 i = 0 then 1 else bf_k τ e 0 i := by
          rw [bf_k]
          by_cases h : τ 10 i = 0
          · rw [if_pos h, if_pos ⟨hok, h⟩]
          · rw [if_neg h, if_neg (fun hh => h hh.2)]
        have k1 : bf_k τ e 1 (i + 1) = if τ 10 i = 1 then 1 else bf_k τ e 1 i := by
          rw [bf_k]
          by_cases h : τ 10 i = 1
          · rw [if_pos h, if_pos ⟨hok, h⟩]
          · rw [if_neg h, if_neg (fun hh => h hh.2)]
        rw [k0, k1] at hK; exact hK
  · intro _ K _
    refine ⟨fun _ => hpost, fun hn => absurd ?_ hn⟩
    show bf_S τ (bf_k τ e 0 ne) (bf_k τ e 1 ne) (bf_l τ e ne) 0 8 ≤ nI ne
    rw [bf_S_col _ _ _ _ (by omega), h8]; exact (nI_leI (by omega) (by omega)).mpr (Nat.le_refl _)
theorem m_heatsUp {n : Nat} {τ : bk_S} {post : bk_S → Prop} (hn : n ≤ 8) (h12 : τ 0 12 = nI n) (h : post (bk_w τ 33 (fun t => if t < n ∧ τ 36 t = -1 ∧ ¬ 9 ≤ τ 33 t then τ 33 t + 1 else τ 33 t))) : w_X9_heatsUp τ post := by
  unfold w_X9_heatsUp
  simp only [bk_lt_iff]
  have y12 : ∀ g, bk_w τ 33 g 0 12 = nI n := fun g => by rw [bk_w_n _ _ (by decide)]; exact h12
  refine bk_loop_up n (fun i (_ : Unit) => (nI i, bk_w τ 33 (fun t => if t < i ∧ τ 36 t = -1 ∧ ¬ 9 ≤ τ 33 t then τ 33 t + 1 else τ 33 t))) (fun _ _ => True) (i0 := 0) (b0 := ()) ?_ (Nat.zero_le _) trivial ?_ ?_
  · simp [bk_w_self, pz_0]
  · intro i _ K hi _ hK
    have hK := hK () trivial
    have hv : vp_in (nI i) 8 := (pz_in (by omega)).mpr (by omega)
    refine ⟨fun hle => ?_, fun _ => ⟨hv, ?_⟩⟩
    · simp only [y12] at hle
      exact absurd ((nI_leI (by omega) (by omega)).mp hle) (by omega)
    · have fin : ∀ a : Int32, (a = if τ 36 i = -1 ∧ ¬ 9 ≤ τ 33 i then 1 else 0) → K (nI (i + 1), bk_w τ 33 (upd (fun t => if t < i ∧ τ 36 t = -1 ∧ ¬ 9 ≤ τ 33 t then τ 33 t + 1 else τ 33 t) i (τ 33 i + a))) := by
        intro a ha
        refine cast (congrArg (fun g => K (nI (i + 1), bk_w τ 33 g)) ?_) hK
        funext t
        unfold upd
        by_cases ht : t = i
        · subst ht
          rw [if_pos rfl, ha]
          by_cases hc : τ 36 t = -1 ∧ ¬ 9 ≤ τ 33 t
          · rw [if_pos hc, if_pos ⟨by omega, hc⟩]
          · rw [if_neg hc, if_neg (fun hh => hc hh.2), Int32.add_zero]
        · rw [if_neg ht]
          simp only [show (t < i + 1 ↔ t < i) by omega]
      have x36 : ∀ g, bk_w τ 33 g 36 = τ 36 := fun g => bk_w_n _ _ (by decide)
      simp only [nI_1, nI_clamp (show i < 2 ^ 31 by omega), bk_u_w, bk_w_s, Nat.lt_irrefl, false_and, if_false, bk_jn_iff]
      refine m_isOpen (by omega) (fun hs => ?_) (fun hs => ?_)
      · simp only [x36] at hs
        refine ⟨fun hh => absurd hh (by decide), fun _ => ⟨hv, fun h9 => ⟨hv, fin 0 ?_⟩, fun h9 => ⟨hv, fin 1 ?_⟩⟩⟩
        · rw [if_neg (fun hh => hh.2 h9)]
        · rw [if_pos ⟨hs, h9⟩]
      · simp only [x36] at hs
        refine ⟨fun _ => ⟨hv, fin 0 ?_⟩, fun hh => absurd rfl hh⟩
        rw [if_neg (fun hh => hs hh.1)]
  · intro _ K _
    refine ⟨fun _ => h, fun hn' => absurd ?_ hn'⟩
    simp only [y12]; exact (nI_leI (by omega) (by omega)).mpr (Nat.le_refl _)
theorem rr_G.hu {e : Nat} {p G τ : bk_S} (H : rr_G e G τ) : rr_G e (mt_hu (mt_nt p) G) (bk_w τ 33 (fun t => if t < mt_nt p ∧ τ 36 t = -1 ∧ ¬ 9 ≤ τ 33 t then τ 33 t + 1 else τ 33 t)) := by
  obtain ⟨a1, a2, a3, a4, a5, a6, a7, a8, a9⟩ := H
  have g : ∀ r, 0 < r → mt_hu (mt_nt p) G r = G r := fun r hr => by unfold mt_hu; exact bk_w_n _ _ (by omega)
  have g' : ∀ r f, r ≠ 33 → bk_w τ 33 f r = τ r := fun r f hr => bk_w_n _ _ hr
  refine ⟨fun t ht => ?_, fun t ht => ?_, fun t ht => ?_, fun t ht => ?_, fun t ht => ?_, ?_, ?_, ?_, ?_⟩
  · unfold mt_hu
    rw [bk_w_s, bk_w_s]
    show (if t < mt_nt p ∧ τ 36 t = -1 ∧ ¬ 9 ≤ τ 33 t then τ 33 t + 1 else τ 33 t) = (if t < mt_nt p ∧ G 1 t = -1 ∧ ¬ 9 ≤ G 0 t then G 0 t + 1 else G 0 t)
    rw [a1 t ht, a2 t ht]
  · rw [g 1 (by omega), g' 36 _ (by omega)]; exact a2 t ht
  · rw [g 2 (by omega), g' 37 _ (by omega)]; exact a3 t ht
  · rw [g 3 (by omega), g' 34 _ (by omega)]; exact a4 t ht
  · rw [g 4 (by omega), g' 40 _ (by omega)]; exact a5 t ht
  · rw [g 5 (by omega), g' 0 _ (by omega)]; exact a6
  · rw [g 5 (by omega), g' 0 _ (by omega)]; exact a7
  · rw [g 5 (by omega), g' 0 _ (by omega)]; exact a8
  · rw [g 5 (by omega), g' 0 _ (by omega)]; exact a9
/-- what an evening leaves as it was -/
def rr_I (e : Nat) (τ τ' : bk_S) : Prop := ∀ r j, ¬ (r = 0 ∧ 20 ≤ j ∧ j ≤ 27) → r ≠ 33 → r ≠ 34 → r ≠ 36 → r ≠ 37 → ¬ (r = 40 ∧ 12 * e ≤ j ∧ j < 12 * e + 12) → τ' r j = τ r j
theorem rr_I.rf (e : Nat) (τ : bk_S) : rr_I e τ τ := fun _ _ _ _ _ _ _ _ => rfl
theorem rr_I.tr {e : Nat} {a b c : bk_S} (h : rr_I e a b) (h' : rr_I e b c) : rr_I e a c := fun r j h1 h2 h3 h4 h5 h6 => (h' r j h1 h2 h3 h4 h5 h6).trans (h r j h1 h2 h3 h4 h5 h6)
theorem rr_J.I {e : Nat} {a b : bk_S} (h : rr_J e a b) : rr_I e a b := fun r j h1 h2 h3 h4 h5 h6 => h r j (by omega) h2 h3 h4 h5 h6
theorem rr_I.u {e : Nat} {a b : bk_S} (h : rr_I e a b) {k i : Nat} {v : Int32} (hk : (k = 0 ∧ 20 ≤ i ∧ i ≤ 27) ∨ k = 33 ∨ k = 34 ∨ k = 36 ∨ k = 37 ∨ (k = 40 ∧ 12 * e ≤ i ∧ i < 12 * e + 12)) : rr_I e a (bk_u b k i v) := by
  intro r j h1 h2 h3 h4 h5 h6
  rw [bk_u_at, if_neg (by rintro ⟨rfl, rfl⟩; omega)]
  exact h r j h1 h2 h3 h4 h5 h6
theorem rr_I.w {e : Nat} {a b : bk_S} (h : rr_I e a b) {k : Nat} {g : Nat → Int32} (hk : k = 33 ∨ k = 34 ∨ k = 36 ∨ k = 37) : rr_I e a (bk_w b k g) := by
  intro r j h1 h2 h3 h4 h5 h6
  rw [bk_w_at, if_neg (by omega)]
  exact h r j h1 h2 h3 h4 h5 h6
theorem rr_P.I {e : Nat} {τ τ' p : bk_S} (h : rr_P τ p) (hJ : rr_I e τ τ') : rr_P τ' p := by
  have c0 : ∀ j, ¬ (20 ≤ j ∧ j ≤ 27) → τ' 0 j = τ 0 j := fun j hj => hJ 0 j (by omega) (by omega) (by omega) (by omega) (by omega) (by omega)
  have cr : ∀ r, 0 < r → r < 33 → τ' r = τ r := fun r h1 h2 => funext fun j => hJ r j (by omega) (by omega) (by omega) (by omega) (by omega) (by omega)
  obtain ⟨h1, h2, h3, h4, h5, h6, ne, h7, h8, h9⟩ := h
  have hl : ∀ e n, bf_l τ' e n = bf_l τ e n := by
    intro e n
    induction n with
    | zero => unfold bf_l; rw [c0 17 (by omega), c0 18 (by omega)]
    | succ n ih => unfold bf_l bf_ok; rw [ih, cr 11 (by omega) (by omega), cr 10 (by omega) (by omega), cr 12 (by omega) (by omega), c0 19 (by omega)]
  have hk : ∀ e kd n, bf_k τ' e kd n = bf_k τ e kd n := by
    intro e kd n
    induction n with
    | zero => rfl
    | succ n ih => unfold bf_k bf_ok; rw [ih, cr 11 (by omega) (by omega), cr 10 (by omega) (by omega), c0 19 (by omega)]
  unfold rr_P
  rw [c0 12 (by omega), c0 16 (by omega), c0 8 (by omega), cr 4 (by omega) (by omega), cr 14 (by omega) (by omega), cr 15 (by omega) (by omega), cr 16 (by omega) (by omega)]
  refine ⟨h1, h2, h3, h4, h5, h6, ne, h7, h8, fun e he => ?_⟩
  rw [hl, hk, hk]
  exact h9 e he
def rr_B (G τ : bk_S) : Prop := (∀ t, t < 8 → τ 33 t = G 0 t) ∧ (∀ t, t < 8 → τ 36 t = G 1 t) ∧ (∀ t, t < 8 → τ 37 t = G 2 t)
theorem m_goesBy {e : Nat} {p G τ : bk_S} {post : bk_S → Prop} (hp : mt_ok p) (he : e < 12) (hP : rr_P τ p) (hB : rr_B G τ) (hg : mt_gk p G) (hpost : ∀ τ', rr_I e τ τ' → rr_G e (mt_en p e G) τ' → post τ') : w_X9_goesBy (nI e) τ post := by
  have hnt := hp.nt
  unfold w_X9_goesBy
  obtain ⟨-, -, -, -, -, -, ne, hne, h8, hbf⟩ := id hP
  obtain ⟨b5, b6f, b6⟩ := hbf e he
  refine m_befalls he hne h8 ?_
  simp only [bk_lt_iff]
  generalize hS : bk_u (bk_u (bk_u (bk_u (bf_S τ (bf_k τ e 0 ne) (bf_k τ e 1 ne) (bf_l τ e ne)) 0 24 0) 0 25 0) 0 26 0) 0 27 0 = τ1
  have I1 : rr_I e τ τ1 := by
    rw [← hS]
    unfold bf_S
    exact (((((((rr_I.rf e τ).u (by omega)).u (by omega)).u (by omega)).u (by omega)).u (by omega)).u (by omega)).u (by omega)
  have y20 : τ1 0 20 = bf_k τ e 0 ne := by rw [← hS]; simp [bk_u_at, bf_S]
  have y21 : τ1 0 21 = bf_k τ e 1 ne := by rw [← hS]; simp [bk_u_at, bf_S]
  have y22 : τ1 0 22 = p 5 e := by rw [← hS, b5]; simp [bk_u_at, bf_S]
  have y24 : τ1 0 24 = 0 ∧ τ1 0 25 = 0 ∧ τ1 0 26 = 0 ∧ τ1 0 27 = 0 := by rw [← hS]; simp [bk_u_at]
  have yB : rr_B G τ1 := by
    have : ∀ r, 0 < r → τ1 r = τ r := fun r hr => by rw [← hS, bk_u_row _ (by omega), bk_u_row _ (by omega), bk_u_row _ (by omega), bk_u_row _ (by omega), bf_S_row _ _ _ _ hr]
    unfold rr_B; rw [this 33 (by omega), this 36 (by omega), this 37 (by omega)]; exact hB
  clear hS
  refine bk_jn_of (fun a => a = bk_w τ1 34 (fun j => if j < 8 then 0 else τ1 34 j)) (fun K hK => ?_) (fun τ2 h2 => ?_)
  · refine bk_loop_up 8 (fun i (_ : Unit) => (nI i, bk_w τ1 34 (fun j => if j < i then 0 else τ1 34 j))) (fun _ _ => True) (i0 := 0) (b0 := ()) (by simp [bk_w_self, pz_0]) (Nat.zero_le _) trivial ?_ ?_
    · intro i _ K2 hi _ hK2
      have hK2 := hK2 () trivial
      refine ⟨fun hle => absurd ((nI_leI (a := 8) (by omega) (by omega)).mp hle) (by omega), fun _ => ⟨(pz_in (by omega)).mpr hi, ?_⟩⟩
      simp only [nI_1, nI_clamp (show i < 2 ^ 31 by omega), bk_u_w]
      refine cast (congrArg (fun g => K2 (nI (i + 1), bk_w τ1 34 g)) ?_) hK2
      funext t
      unfold upd
      by_cases ht : t = i
      · subst ht; simp
      · rw [if_neg ht]; simp only [show (t < i + 1 ↔ t < i) by omega]
    · intro _ K2 _
      exact ⟨fun _ => hK _ rfl, fun hn => absurd (by show (8 : Int32) ≤ nI 8; decide) hn⟩
  · refine bk_jn_of (fun a => a = bk_w τ2 40 (fun j => if 12 * e ≤ j ∧ j < 12 * e + 12 then -1 else τ2 40 j)) (fun K hK => ?_) (fun τ3 h3 => ?_)
    · refine bk_loop_up 12 (fun i (_ : Unit) => (nI i, bk_w τ2 40 (fun j => if 12 * e ≤ j ∧ j < 12 * e + i then -1 else τ2 40 j))) (fun _ _ => True) (i0 := 0) (b0 := ()) ?_ (Nat.zero_le _) trivial ?_ ?_
      · have : (fun j => if 12 * e ≤ j ∧ j < 12 * e + 0 then (-1 : Int32) else τ2 40 j) = τ2 40 := by funext j; rw [if_neg (by omega)]
        rw [this, bk_w_self]; rfl
      · intro i _ K2 hi _ hK2
        have hK2 := hK2 () trivial
        have e1 : (12 : Int32) * nI e + nI i = nI (12 * e + i) := by rw [pz_12, pz_mulr, nI_add]
        refine ⟨fun hle => absurd ((nI_leI (a := 12) (by omega) (by omega)).mp hle) (by omega), fun _ => ?_⟩
        simp only [nI_1, e1, nI_clamp (show 12 * e + i < 2 ^ 31 by omega), bk_u_w]
        refine ⟨(pz_in (by omega)).mpr (by omega), ?_⟩
        refine cast (congrArg (fun g => K2 (nI (i + 1), bk_w τ2 40 g)) ?_) hK2
        funext t
        unfold upd
        by_cases ht : t = 12 * e + i
        · rw [if_pos ht, if_pos (by omega)]
        · rw [if_neg ht]; simp only [show (12 * e ≤ t ∧ t < 12 * e + (i + 1) ↔ 12 * e ≤ t ∧ t < 12 * e + i) by omega]
      · intro _ K2 _
        exact ⟨fun _ => hK _ rfl, fun hn => absurd (by show (12 : Int32) ≤ nI 12; decide) hn⟩
    · have I2 : rr_I e τ τ2 := by rw [h2]; exact I1.w (by omega)
      have I3 : rr_I e τ τ3 := by
        rw [h3]
        intro r j q1 q2 q3 q4 q5 q6
        rw [bk_w_at]
        by_cases hr : r = 40
        · subst hr; rw [if_pos rfl, if_neg (by omega)]; exact I2 40 j q1 q2 q3 q4 q5 q6
        · rw [if_neg hr]; exact I2 r j q1 q2 q3 q4 q5 q6
      have row0 : τ3 0 = τ1 0 := by rw [h3, bk_w_n _ _ (by decide), h2, bk_w_n _ _ (by decide)]
      have H3 : rr_G e (mt_rs G) τ3 := by
        refine ⟨fun t ht => ?_, fun t ht => ?_, fun t ht => ?_, fun t ht => ?_, fun t ht => ?_, ?_, ?_, ?_, ?_⟩
        · rw [mt_rs_lo _ (by omega), h3, bk_w_n _ _ (by decide), h2, bk_w_n _ _ (by decide)]; exact yB.1 t ht
        · rw [mt_rs_lo _ (by omega), h3, bk_w_n _ _ (by decide), h2, bk_w_n _ _ (by decide)]; exact yB.2.1 t ht
        · rw [mt_rs_lo _ (by omega), h3, bk_w_n _ _ (by decide), h2, bk_w_n _ _ (by decide)]; exact yB.2.2 t ht
        · rw [h3, bk_w_n _ _ (by decide), h2, bk_w_s]; simp [ht, mt_rs, bk_w_at]
        · rw [h3, bk_w_s]; simp [ht, mt_rs, bk_w_at]
        · rw [row0, y24.2.1]; simp [mt_rs, bk_w_at]
        · rw [row0, y24.2.2.1]; simp [mt_rs, bk_w_at]
        · rw [row0, y24.2.2.2]; simp [mt_rs, bk_w_at]
        · rw [row0, y24.1]; simp [mt_rs, bk_w_at]
      have P3 := hP.I I3
      have z20 : τ3 0 20 = bf_k τ e 0 ne := by rw [row0, y20]
      have z21 : τ3 0 21 = bf_k τ e 1 ne := by rw [row0, y21]
      have z22 : τ3 0 22 = p 5 e := by rw [row0, y22]
      clear h3 h2 row0
      refine bk_jn_of (fun a => rr_I e τ a ∧ a 0 = τ3 0 ∧ rr_G e (mt_fr p e (mt_rs G)) a) (fun K hK => ?_) (fun τ4 h4 => ?_)
      · unfold mt_fr at hK
        rw [z21]
        refine ⟨fun hne1 => ?_, fun h1 => ?_⟩
        · have h0 : bf_k τ e 1 ne = 0 := (bf_k01 τ e 1 ne).resolve_right hne1
          rw [if_pos (b6f.mpr h0)] at hK
          exact hK _ ⟨I3, rfl, H3⟩
        · have h0 : ¬ p 6 e &&& 2 = 0 := fun hh => by rw [b6f.mp hh] at h1; exact absurd h1 (by decide)
          rw [if_neg h0] at hK
          exact m_heatsUp hnt.2 (by rw [P3.1, hnt.1]) (hK _ ⟨I3.w (by omega), bk_w_n _ _ (by decide), H3.hu⟩)
      · obtain ⟨I4, r4, H4⟩ := h4
        have P4 := hP.I I4
        have hen : mt_en p e G = mt_dd p e (mt_fr p e (mt_rs G)) := rfl
        rw [hen] at hpost
        unfold mt_dd at hpost
        rw [r4, z20, z21]
        refine ⟨fun hm => ?_, fun hm => ⟨fun hf => ?_, fun hf => ?_⟩⟩
        · rw [if_neg (fun hh => hm (b6.mp hh).1)] at hpost; exact hpost _ I4 H4
        · rw [if_neg (fun hh => hf (b6.mp hh).2)] at hpost; exact hpost _ I4 H4
        · rw [if_pos (b6.mpr ⟨hm, hf⟩)] at hpost
          have w22 : τ4 0 22 = p 5 e := by rw [r4]; exact z22
          refine m_lastOf hp P4 w22 ?_
          have I5 : rr_I e τ (bk_u τ4 0 23 (mt_lh p e)) := I4.u (by omega)
          have H5 : rr_G e (mt_fr p e (mt_rs G)) (bk_u τ4 0 23 (mt_lh p e)) := by
            obtain ⟨a1, a2, a3, a4, a5, a6, a7, a8, a9⟩ := H4
            refine ⟨?_, ?_, ?_, ?_, ?_, ?_, ?_, ?_, ?_⟩ <;> simpa [bk_u_at] using by assumption
          have v22 : bk_u τ4 0 23 (mt_lh p e) 0 22 = p 5 e := by rw [bk_u_at, if_neg (by omega)]; exact w22
          have v23 : bk_u τ4 0 23 (mt_lh p e) 0 23 = mt_lh p e := bk_u_same _ _ _ _
          refine m_does (lf := false) (by simp) hp he (hP.I I5) v22 v23 H5 (hg.rs.fr e) (fun τ6 J6 H6 => ?_)
          have I6 : rr_I e τ τ6 := I5.tr J6.I
          have v22' : τ6 0 22 = p 5 e := by rw [J6 0 22 (by omega) (by omega) (by omega) (by omega) (by omega) (by omega)]; exact v22
          have v23' : τ6 0 23 = mt_lh p e := by rw [J6 0 23 (by omega) (by omega) (by omega) (by omega) (by omega) (by omega)]; exact v23
          exact m_does (lf := true) (by simp) hp he (hP.I I6) v22' v23' H6 ((hg.rs.fr e).ds hp he _) (fun τ7 J7 H7 => hpost _ (I6.tr J7.I) H7)
