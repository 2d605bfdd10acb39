/-! Plain facts for what the methods' predicates say: loops, joins, the state's places, small numbers, bits. -/
theorem bk_loop_inv {α : Type} {F : (α → Prop) → α → Prop} (I : α → Prop) (μ : α → Nat) {a0 : α} (h0 : I a0) (step : ∀ (a : α) (K : α → Prop), I a → (∀ a', I a' → μ a' < μ a → K a') → F K a) : bk_loop F a0 := by
  refine ⟨μ a0 + 1, ?_⟩
  have : ∀ n a, I a → μ a < n → bk_lp F n a := by
    intro n
    induction n with
    | zero => intro a _ h; exact absurd h (Nat.not_lt_zero _)
    | succ n ih => intro a ha hn; exact step a _ ha (fun a' ha' hm => ih a' ha' (by omega))
  exact this _ _ h0 (Nat.lt_succ_self _)
/-- a loop that counts up from i0 to N; the loop's tuple at count i with the rest b is 'at_ i b' -/
theorem bk_loop_up {α β : Type} {F : (α → Prop) → α → Prop} (N : Nat) (at_ : Nat → β → α) (I : Nat → β → Prop) {i0 : Nat} {b0 : β} {a0 : α} (ha : a0 = at_ i0 b0) (hi : i0 ≤ N) (h0 : I i0 b0) (step : ∀ (i : Nat) (b : β) (K : α → Prop), i < N → I i b → (∀ b', I (i + 1) b' → K (at_ (i + 1) b')) → F K (at_ i b)) (done : ∀ (b : β) (K : α → Prop), I N b → F K (at_ N b)) : bk_loop F a0 := by
  subst ha
  refine ⟨N - i0 + 1, ?_⟩
  have : ∀ n i b, i ≤ N → N - i < n → I i b → bk_lp F n (at_ i b) := by
    intro n
    induction n with
    | zero => intro i b _ h _; exact absurd h (Nat.not_lt_zero _)
    | succ n ih =>
      intro i b hi hn hI
      rcases Nat.lt_or_ge i N with h | h
      · exact step i b _ h hI (fun b' hb' => ih (i + 1) b' h (by omega) hb')
      · obtain rfl : i = N := by omega
        exact done b _ hI
  exact this _ _ _ hi (Nat.lt_succ_self _) h0
theorem bk_jn_of {α : Type} {rest : α → Prop} {F : (α → Prop) → Prop} (Q : α → Prop) (hF : ∀ K : α → Prop, (∀ a, Q a → K a) → F K) (hr : ∀ a, Q a → rest a) : bk_jn rest F := hF rest hr
theorem bk_br {c A B : Prop} (h1 : c → A) (h2 : ¬ c → B) : (c → A) ∧ (¬ c → B) := ⟨h1, h2⟩
theorem bk_u_at (σ : bk_S) (k j : Nat) (v : Int32) (a b : Nat) : bk_u σ k j v a b = if a = k ∧ b = j then v else σ a b := by
  unfold bk_u bk_w upd
  by_cases h : a = k
  · subst h; by_cases h2 : b = j <;> simp [h2]
  · simp [h]
theorem bk_u_row (σ : bk_S) {k j : Nat} {v : Int32} {a : Nat} (h : a ≠ k) : bk_u σ k j v a = σ a := by unfold bk_u; exact bk_w_n σ _ h
theorem bk_u_same (σ : bk_S) (k j : Nat) (v : Int32) : bk_u σ k j v k j = v := by rw [bk_u_at]; simp
theorem bk_w_at (σ : bk_S) (k : Nat) (g : Nat → Int32) (a b : Nat) : bk_w σ k g a b = if a = k then g b else σ a b := by
  unfold bk_w
  by_cases h : a = k <;> simp [h]
theorem va_cpy_at {α : Type} (f g : Nat → α) (sp dp n k : Nat) : va_cpy f g sp dp n k = if dp ≤ k ∧ k < dp + n then f (sp + (k - dp)) else g k := rfl
theorem pz_in {n N : Nat} (h : n < 2 ^ 31) : vp_in (nI n) N ↔ n < N := by
  rw [vp_in_iff, nI_toInt h]; omega
theorem pz_m1 : (-1 : Int32) = Int32.ofInt (-1) := by decide
theorem pz_toInt_m1 : (-1 : Int32).toInt = -1 := by decide
theorem pz_ne_m1 {n : Nat} (h : n < 2 ^ 31) : ¬ nI n = -1 := by
  intro e
  have := congrArg Int32.toInt e
  rw [nI_toInt h, pz_toInt_m1] at this
  omega
theorem pz_lit (n : Nat) : (OfNat.ofNat n : Int32) = nI n := rfl
theorem pz_0 : (0 : Int32) = nI 0 := rfl
theorem pz_1 : (1 : Int32) = nI 1 := rfl
theorem pz_2 : (2 : Int32) = nI 2 := rfl
theorem pz_3 : (3 : Int32) = nI 3 := rfl
theorem pz_4 : (4 : Int32) = nI 4 := rfl
theorem pz_7 : (7 : Int32) = nI 7 := rfl
theorem pz_8 : (8 : Int32) = nI 8 := rfl
theorem pz_9 : (9 : Int32) = nI 9 := rfl
theorem pz_11 : (11 : Int32) = nI 11 := rfl
theorem pz_12 : (12 : Int32) = nI 12 := rfl
theorem pz_31 : (31 : Int32) = nI 31 := rfl
theorem pz_60 : (60 : Int32) = nI 60 := rfl
theorem pz_mulr (a b : Nat) : nI a * nI b = nI (a * b) := pk_mul a b
theorem pz_le_iff {a b : Nat} (ha : a < 2 ^ 31) (hb : b < 2 ^ 31) : nI a ≤ nI b ↔ a ≤ b := nI_leI ha hb
theorem pz_toInt (x y : Int32) : x = y ↔ x.toInt = y.toInt := ⟨fun h => by rw [h], fun h => Int32.toInt_inj.mp h⟩
theorem pz_clamp0 : Int32.toNatClampNeg (0 : Int32) = 0 := by decide
theorem pz_clamp8 : Int32.toNatClampNeg (8 : Int32) = 8 := by decide
theorem pz_clamp12 : Int32.toNatClampNeg (12 : Int32) = 12 := by decide
/-- a place of a mask, as the code asks for it -/
theorem pz_and31 {k : Nat} (h : k < 32) : nI k &&& 31 = nI k := by
  have := pk_andN (n := k) (by omega) (m := 31) 5 (by decide)
  rw [this, Nat.mod_eq_of_lt (by omega)]
def mt_b (L : Int32) (k : Nat) : Bool := decide ((L >>> (nI k &&& 31)) &&& 1 = 1)
theorem pz_smod {k : Nat} (h : k < 32) : ((nI k).toBitVec.smod 32).toNat = k := by
  have : ∀ k : Nat, k < 32 → ((nI k).toBitVec.smod 32).toNat = k := by decide +kernel
  exact this k h
theorem pz_shr_bit (L : Int32) {k : Nat} (h : k < 32) : ((L >>> (nI k &&& 31)) &&& 1) = if L.toBitVec.getLsbD k then 1 else 0 := by
  rw [pz_and31 h]
  apply Int32.toBitVec_inj.mp
  apply BitVec.eq_of_getLsbD_eq
  intro i hi
  have e1 : (L >>> nI k).toBitVec = L.toBitVec.sshiftRight k := by
    rw [Int32.toBitVec_shiftRight, BitVec.sshiftRight'] <;> rw [pz_smod h]
  rw [Int32.toBitVec_and, BitVec.getLsbD_and, e1]
  rcases Nat.eq_zero_or_pos i with rfl | hp
  · rw [BitVec.getLsbD_sshiftRight]
    have h1 : (1 : Int32).toBitVec.getLsbD 0 = true := by decide
    by_cases hb : L.toBitVec.getLsbD k
    · rw [if_pos hb, h1, Bool.and_true]; simp [hb, h]
    · rw [if_neg hb, h1, Bool.and_true]; simp [h]; simpa [h] using hb
  · have h1 : (1 : Int32).toBitVec.getLsbD i = false := by
      have : (1 : Int32).toBitVec = 1#32 := rfl
      rw [this, BitVec.getLsbD_one]; simp; omega
    rw [h1, Bool.and_false]
    by_cases hb : L.toBitVec.getLsbD k
    · rw [if_pos hb, h1]
    · rw [if_neg hb]; simp
theorem mt_b_bv (L : Int32) {k : Nat} (h : k < 32) : mt_b L k = L.toBitVec.getLsbD k := by
  unfold mt_b
  rw [pz_shr_bit L h]
  by_cases hb : L.toBitVec.getLsbD k <;> simp [hb]
theorem mt_b_0 (L : Int32) {k : Nat} (h : k < 32) : ((L >>> (nI k &&& 31)) &&& 1 = 0) ↔ mt_b L k = false := by
  rw [mt_b_bv L h, pz_shr_bit L h]
  by_cases hb : L.toBitVec.getLsbD k <;> simp [hb]
theorem mt_b_1 (L : Int32) (k : Nat) : ((L >>> (nI k &&& 31)) &&& 1 = 1) ↔ mt_b L k = true := by
  unfold mt_b; simp
theorem pz_shl1 {k : Nat} (h : k < 32) : ((1 : Int32) <<< (nI k &&& 31)).toBitVec = BitVec.twoPow 32 k := by
  rw [pz_and31 h]
  have : ∀ k : Nat, k < 32 → ((1 : Int32) <<< (nI k)).toBitVec = BitVec.twoPow 32 k := by decide +kernel
  exact this k h
theorem mt_b_zero {k : Nat} (h : k < 32) : mt_b 0 k = false := by rw [mt_b_bv 0 h]; simp
theorem mt_b_shl {j k : Nat} (hj : j < 32) (hk : k < 32) : mt_b ((1 : Int32) <<< (nI k &&& 31)) j = decide (j = k) := by
  rw [mt_b_bv _ hj, pz_shl1 hk, BitVec.getLsbD_twoPow]
  by_cases h : j = k
  · subst h; simp [hj]
  · simp [h]; omega
theorem mt_b_or (A B : Int32) {k : Nat} (h : k < 32) : mt_b (A ||| B) k = (mt_b A k || mt_b B k) := by
  rw [mt_b_bv _ h, mt_b_bv _ h, mt_b_bv _ h, Int32.toBitVec_or, BitVec.getLsbD_or]
theorem mt_b_and (A B : Int32) {k : Nat} (h : k < 32) : mt_b (A &&& B) k = (mt_b A k && mt_b B k) := by
  rw [mt_b_bv _ h, mt_b_bv _ h, mt_b_bv _ h, Int32.toBitVec_and, BitVec.getLsbD_and]
theorem mt_b_ext {A B : Int32} (h : ∀ k, k < 32 → mt_b A k = mt_b B k) : A = B := by
  apply Int32.toBitVec_inj.mp
  apply BitVec.eq_of_getLsbD_eq
  intro i hi
  have := h i hi
  rwa [mt_b_bv _ hi, mt_b_bv _ hi] at this
theorem mt_b_ones {n : Nat} (hn : n ≤ 12) {k : Nat} (h : k < 32) : mt_b (((1 : Int32) <<< (nI n &&& 31)) - 1) k = decide (k < n) := by
  have : ∀ n : Nat, n < 13 → ∀ k : Nat, k < 32 → mt_b (((1 : Int32) <<< (nI n &&& 31)) - 1) k = decide (k < n) := by decide +kernel
  exact this n (by omega) k h
