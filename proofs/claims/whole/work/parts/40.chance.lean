/-! The chance: weights, their sum, and lowest terms. -/
def qN (n : Nat) : Int64 := Int64.ofNat n
theorem qN_toInt {n : Nat} (h : n < 2 ^ 63) : (qN n).toInt = n := lg_ofNat_toInt h
theorem qN_add (a b : Nat) : qN a + qN b = qN (a + b) := (Int64.ofNat_add a b).symm
theorem qN_mul (a b : Nat) : qN a * qN b = qN (a * b) := (Int64.ofNat_mul a b).symm
theorem qN_inj {a b : Nat} (ha : a < 2 ^ 63) (hb : b < 2 ^ 63) : qN a = qN b ↔ a = b := by
  rw [← Int64.toInt_inj, qN_toInt ha, qN_toInt hb]; omega
theorem qN_le {a b : Nat} (ha : a < 2 ^ 63) (hb : b < 2 ^ 63) : qN a ≤ qN b ↔ a ≤ b := by
  rw [Int64.le_iff_toInt_le, qN_toInt ha, qN_toInt hb]; omega
theorem qN_of {n : Nat} (h : n < 2 ^ 31) : Int32.toInt64 (nI n) = qN n := by
  apply Int64.toInt_inj.mp
  rw [Jvm.Kit.i64_of_i32, nI_toInt h, qN_toInt (by omega)]
theorem qN_div {a b : Nat} (ha : a < 2 ^ 63) (hb : b < 2 ^ 63) (h0 : 0 < b) : qN a / qN b = qN (a / b) := by
  apply Int64.toInt_inj.mp
  have := Nat.div_le_self a b
  rw [lg_ldiv_nonneg (by rw [qN_toInt ha]; omega) (by rw [qN_toInt hb]; omega), qN_toInt ha, qN_toInt hb, qN_toInt (by omega)]
  omega
theorem qN_rem {a b : Nat} (ha : a < 2 ^ 63) (hb : b < 2 ^ 63) (h0 : 0 < b) : qN a - qN a / qN b * qN b = qN (a % b) := by
  apply Int64.toInt_inj.mp
  have := Nat.mod_lt a h0
  rw [Jvm.Kit.i64_rem_nonneg (by rw [qN_toInt ha]; omega), qN_toInt ha, qN_toInt hb, qN_toInt (by omega)]
  omega
theorem qN_shl : ∀ n, n < 9 → (1 : Int64) <<< (Int32.toInt64 ((4 : Int32) * nI n) &&& 63) = qN (2 ^ (4 * n)) := by decide +kernel
theorem qN_half {a : Nat} (ha : a < 2 ^ 63) : qN a >>> (Int32.toInt64 (1 : Int32) &&& 63) = qN (a / 2) := by
  apply Int64.toInt_inj.mp
  rw [Jvm.Kit.i64_shr _ _ (k := 1) (by decide), qN_toInt ha, qN_toInt (by omega)]
  omega
theorem qN_odd {a : Nat} (ha : a < 2 ^ 63) : qN a &&& (1 : Int64) = qN (a % 2) := by
  apply Int64.toInt_inj.mp
  rw [Jvm.Kit.i64_mask _ _ (k := 1) (by omega) (by decide), qN_toInt ha, qN_toInt (by omega)]
  omega
def ck_w (x : Nat) (b : Nat → Bool) : Nat → Nat
  | 0 => 1
  | n + 1 => ck_w x b n * (if b n = true then x else 16 - x)
theorem ck_w_le {x : Nat} (hx : x ≤ 16) (b : Nat → Bool) : ∀ n, ck_w x b n ≤ 16 ^ n
  | 0 => Nat.le_refl _
  | n + 1 => by
    rw [ck_w, Nat.pow_succ]
    exact Nat.mul_le_mul (ck_w_le hx b n) (by split <;> omega)
theorem ck_w_lt {x : Nat} (hx : x ≤ 16) (b : Nat → Bool) {n : Nat} (hn : n ≤ 8) : ck_w x b n ≤ 2 ^ 32 :=
  Nat.le_trans (ck_w_le hx b n) (Nat.le_trans (Nat.pow_le_pow_right (by omega) hn) (by decide))
theorem ck_w_congr {x : Nat} {b b' : Nat → Bool} : ∀ n, (∀ i, i < n → b i = b' i) → ck_w x b n = ck_w x b' n
  | 0, _ => rfl
  | n + 1, h => by rw [ck_w, ck_w, ck_w_congr n (fun i hi => h i (by omega)), h n (by omega)]
def ck_s (f : Nat → Nat) : Nat → Nat
  | 0 => 0
  | n + 1 => ck_s f n + f n
theorem ck_s_le {f : Nat → Nat} {B : Nat} (h : ∀ i, f i ≤ B) : ∀ n, ck_s f n ≤ n * B
  | 0 => by simp [ck_s]
  | n + 1 => by rw [ck_s, Nat.add_mul, Nat.one_mul]; exact Nat.add_le_add (ck_s_le h n) (h n)
theorem ck_s_congr {f g : Nat → Nat} : ∀ n, (∀ i, i < n → f i = g i) → ck_s f n = ck_s g n
  | 0, _ => rfl
  | n + 1, h => by rw [ck_s, ck_s, ck_s_congr n (fun i hi => h i (by omega)), h n (by omega)]
theorem ck_s_front (f : Nat → Nat) : ∀ n, ck_s f (n + 1) = f 0 + ck_s (fun i => f (i + 1)) n
  | 0 => by simp [ck_s]
  | n + 1 => by rw [ck_s, ck_s_front f n, ck_s]; omega
theorem ck_s_rev (f : Nat → Nat) : ∀ n, ck_s (fun i => f (n - 1 - i)) n = ck_s f n
  | 0 => rfl
  | n + 1 => by
    rw [ck_s_front]
    have := ck_s_rev f n
    rw [show ck_s f (n + 1) = ck_s f n + f n from rfl, ← this]
    have e : ck_s (fun i => f (n + 1 - 1 - (i + 1))) n = ck_s (fun i => f (n - 1 - i)) n := ck_s_congr n (fun i hi => by rw [show n + 1 - 1 - (i + 1) = n - 1 - i by omega])
    rw [e]
    show f (n + 1 - 1 - 0) + _ = _
    rw [show n + 1 - 1 - 0 = n by omega]; omega
def ck_h : Nat → Nat → Nat × Nat
  | 0, S => (S, 1)
  | m + 1, S => if S % 2 = 0 then ck_h m (S / 2) else (S, 2 ^ (m + 1))
theorem ck_odd {S : Nat} (h : ¬ S % 2 = 0) : ∀ m, Nat.gcd S (2 ^ m) = 1
  | 0 => by simp
  | m + 1 => by
    have c : Nat.Coprime S 2 := by
      rw [Nat.Coprime, Nat.gcd_comm, Nat.gcd_rec, show S % 2 = 1 by omega]; simp
    exact Nat.Coprime.pow_right (m + 1) c
theorem ck_h_gcd : ∀ m S, (ck_h m S) = (S / Nat.gcd S (2 ^ m), 2 ^ m / Nat.gcd S (2 ^ m))
  | 0, S => by simp [ck_h]
  | m + 1, S => by
    rw [ck_h]
    by_cases h : S % 2 = 0
    · rw [if_pos h, ck_h_gcd m (S / 2)]
      have e : S = 2 * (S / 2) := by omega
      have hg : Nat.gcd S (2 ^ (m + 1)) = 2 * Nat.gcd (S / 2) (2 ^ m) := by
        rw [← Nat.gcd_mul_left, ← e, Nat.pow_succ, Nat.mul_comm (2 ^ m) 2]
      rw [hg, Nat.pow_succ, Nat.mul_comm (2 ^ m) 2, Nat.mul_div_mul_left _ _ (by omega)]
      have : S / (2 * Nat.gcd (S / 2) (2 ^ m)) = S / 2 / Nat.gcd (S / 2) (2 ^ m) := (Nat.div_div_eq_div_mul S 2 _).symm
      rw [this]
    · rw [if_neg h, ck_odd h, Nat.div_one, Nat.div_one]
theorem ck_h_le : ∀ m S, (ck_h m S).1 ≤ S ∧ (ck_h m S).2 ≤ 2 ^ m
  | 0, S => ⟨Nat.le_refl _, Nat.le_refl _⟩
  | m + 1, S => by
    rw [ck_h]
    by_cases h : S % 2 = 0
    · rw [if_pos h]
      have := ck_h_le m (S / 2)
      have e : 2 ^ (m + 1) = 2 ^ m * 2 := Nat.pow_succ ..
      omega
    · rw [if_neg h]; exact ⟨Nat.le_refl _, Nat.le_refl _⟩
theorem m_lowest {S m : Nat} {x : Int32} {post : Int64 → Prop} (hS : S < 2 ^ 63) (hm : m ≤ 32) (h : post (if x = 0 then qN (ck_h m S).1 else qN (ck_h m S).2)) : w_X9_lowest (qN S) (qN (2 ^ m)) x post := by
  have p2 : 2 ^ m < 2 ^ 63 := Nat.pow_lt_pow_right (by omega) (by omega)
  have p1 : 0 < 2 ^ m := Nat.two_pow_pos m
  unfold w_X9_lowest
  simp only [bk_lt_iff]
  have gpos : 0 < Nat.gcd S (2 ^ m) := Nat.gcd_pos_of_pos_right S p1
  have gle : Nat.gcd S (2 ^ m) ≤ 2 ^ m := Nat.gcd_le_right S p1
  refine bk_jn_of (fun a => a = qN (Nat.gcd S (2 ^ m))) (fun K hK => ?_) (fun a ha => ?_)
  · refine bk_loop_inv (fun a => ∃ A B, a = (qN A, qN B) ∧ A < 2 ^ 63 ∧ B < 2 ^ 63 ∧ Nat.gcd A B = Nat.gcd S (2 ^ m)) (fun a => a.2.toInt.toNat) ⟨S, 2 ^ m, rfl, hS, p2, rfl⟩ ?_
    rintro a K2 ⟨A, B, rfl, hA, hB, hg⟩ hK2
    have z : (0 : Int64) = qN 0 := rfl
    show (lg_cmp (qN B) 0 = 0 → K (qN A)) ∧ (¬ lg_cmp (qN B) 0 = 0 → ¬ qN B = 0 ∧ K2 (qN B, qN A - qN A / qN B * qN B))
    rw [lg_cmp_eq, z, qN_inj hB (by omega)]
    refine ⟨fun h0 => hK _ ?_, fun h0 => ⟨h0, ?_⟩⟩
    · rw [← hg, h0, Nat.gcd_zero_right]
    · rw [qN_rem hA hB (by omega)]
      have := Nat.mod_lt A (show 0 < B by omega)
      refine hK2 _ ⟨B, A % B, rfl, hB, by omega, ?_⟩ ?_
      · rw [← hg, Nat.gcd_comm B, ← Nat.gcd_rec, Nat.gcd_comm]
      · show (qN (A % B)).toInt.toNat < (qN B).toInt.toNat
        rw [qN_toInt (by omega), qN_toInt hB]; omega
  · subst ha
    have z : (0 : Int64) = qN 0 := rfl
    rw [ck_h_gcd] at h
    rw [z, qN_inj (by omega) (by omega), qN_div hS (by omega) gpos, qN_div p2 (by omega) gpos]
    refine ⟨fun hx => ⟨by omega, ?_⟩, fun hx => ⟨by omega, ?_⟩⟩
    · rwa [if_neg hx] at h
    · rwa [if_pos hx] at h
theorem c_weightOf {x w n : Nat} {σ : bk_S} {post : Int64 → Prop} (hx : x ≤ 16) (hn : n ≤ 8) (h5 : σ 5 3 = nI n) (h : post (qN (ck_w x (mt_b (nI w)) n))) : w_X8_weightOf (nI x) (nI w) σ post := by
  unfold w_X8_weightOf
  simp only [bk_lt_iff]
  rw [h5]
  refine bk_loop_up n (fun i (_ : Unit) => (qN (ck_w x (mt_b (nI w)) i), nI i)) (fun _ _ => True) (i0 := 0) (b0 := ()) rfl (Nat.zero_le _) trivial ?_ ?_
  · intro i _ K hi _ hK
    have hK := hK () trivial
    refine ⟨fun hle => absurd ((nI_leI (by omega) (by omega)).mp hle) (by omega), fun _ => ?_⟩
    show K (qN (ck_w x (mt_b (nI w)) i) * (if ((nI w >>> (nI i &&& 31)) &&& 1) = 1 then Int32.toInt64 (nI x) else Int32.toInt64 (16 - nI x)), nI i + 1)
    have e : (16 : Int32) - nI x = nI (16 - x) := pk_sub (a := 16) (b := x) (by omega)
    rw [e, qN_of (by omega), qN_of (by omega), nI_1]
    have : (if ((nI w >>> (nI i &&& 31)) &&& 1) = 1 then qN x else qN (16 - x)) = qN (if mt_b (nI w) i = true then x else 16 - x) := by
      simp only [mt_b_1]; split <;> rfl
    rw [this, qN_mul]; exact hK
  · intro _ K _
    exact ⟨fun _ => h, fun hn' => absurd ((nI_leI (by omega) (by omega)).mpr (Nat.le_refl _)) hn'⟩
/-- what the weights come to whose evenings end with thing t settled -/
def ck_t (σ : bk_S) (x t w : Nat) : Nat := if mt_b (mt_cm (mt_ev (tp σ (mt_b (nI w))) 11 1) (mt_nt (tp σ tA))) t = true then ck_w x (mt_b (nI w)) (bs_ne σ) else 0
def ck_v (σ : bk_S) (x t : Nat) (r : Int32) : Int64 := if r = 0 then qN (ck_h (4 * bs_ne σ) (ck_s (ck_t σ x t) (2 ^ bs_ne σ))).1 else qN (ck_h (4 * bs_ne σ) (ck_s (ck_t σ x t) (2 ^ bs_ne σ))).2
theorem ck_t_le {σ : bk_S} {x t : Nat} (hx : x ≤ 16) (hn : bs_ne σ ≤ 8) (w : Nat) : ck_t σ x t w ≤ 2 ^ 32 := by
  unfold ck_t; split
  · exact ck_w_lt hx _ hn
  · omega
theorem ck_t_lt {σ : bk_S} {x t : Nat} (hx : x ≤ 16) (hn : bs_ne σ ≤ 8) {m : Nat} (hm : m ≤ 256) : ck_s (ck_t σ x t) m ≤ 2 ^ 40 :=
  Nat.le_trans (ck_s_le (ck_t_le hx hn) m) (Nat.le_trans (Nat.mul_le_mul_right _ hm) (by decide))
theorem c_halve {S m : Nat} {x : Int32} {post : Int64 → Prop} (hS : S < 2 ^ 62) (hm : m ≤ 32) (h : post (if x = 0 then qN (ck_h m S).1 else qN (ck_h m S).2)) (rest : Int64 × Int64 → Prop) (hr : ∀ a, rest a ↔ ((¬ x = 0 → post a.2) ∧ (x = 0 → post a.1))) : bk_loop (α := Int64 × Int64 × Int32) (fun K17 a18 =>
          ((32 : Int32) ≤ a18.2.2 → rest (a18.1, a18.2.1)) ∧ (¬ (32 : Int32) ≤ a18.2.2 → (((lg_cmp a18.2.1 (1 : Int64)) ≤ 0 → rest (a18.1, a18.2.1)) ∧ (¬ (lg_cmp a18.2.1 (1 : Int64)) ≤ 0 → ((¬ (lg_cmp (a18.1 &&& (1 : Int64)) (0 : Int64)) = 0 → rest (a18.1, a18.2.1)) ∧ ((lg_cmp (a18.1 &&& (1 : Int64)) (0 : Int64)) = 0 → (
          K17 (a18.1 >>> (Int32.toInt64 (1 : Int32) &&& 63), a18.2.1 >>> (Int32.toInt64 (1 : Int32) &&& 63), a18.2.2 + (1 : Int32))))))))) (qN S, qN (2 ^ m), 0) := by
  refine bk_loop_up m (fun i (a : Nat) => (qN a, qN (2 ^ (m - i)), nI i)) (fun i a => a < 2 ^ 62 ∧ post (if x = 0 then qN (ck_h (m - i) a).1 else qN (ck_h (m - i) a).2)) (i0 := 0) (b0 := S) rfl (Nat.zero_le _) ⟨hS, h⟩ ?_ ?_
  · rintro i a K hi ⟨ha, hp⟩ hK
    obtain ⟨k, hk⟩ : ∃ k, m - i = k + 1 := ⟨m - i - 1, by omega⟩
    have hk' : m - (i + 1) = k := by omega
    have p2 : 2 ^ (k + 1) < 2 ^ 63 := Nat.pow_lt_pow_right (by omega) (by omega)
    have p1 : 0 < 2 ^ k := Nat.two_pow_pos k
    have e2 : 2 ^ (k + 1) = 2 ^ k * 2 := Nat.pow_succ ..
    rw [hk'] at hK
    rw [hk] at hp ⊢
    show (32 ≤ nI i → rest (qN a, qN (2 ^ (k + 1)))) ∧ (¬ 32 ≤ nI i → (lg_cmp (qN (2 ^ (k + 1))) 1 ≤ 0 → rest (qN a, qN (2 ^ (k + 1)))) ∧ (¬ lg_cmp (qN (2 ^ (k + 1))) 1 ≤ 0 → (¬ lg_cmp (qN a &&& 1) 0 = 0 → rest (qN a, qN (2 ^ (k + 1)))) ∧ (lg_cmp (qN a &&& 1) 0 = 0 → K (qN a >>> (Int32.toInt64 (1 : Int32) &&& 63), qN (2 ^ (k + 1)) >>> (Int32.toInt64 (1 : Int32) &&& 63), nI i + 1))))
    have z : (0 : Int64) = qN 0 := rfl
    have o : lg_cmp (qN (2 ^ (k + 1))) 1 ≤ 0 ↔ 2 ^ (k + 1) ≤ 1 := by rw [lg_cmp_le]; exact qN_le (b := 1) p2 (by omega)
    rw [lg_cmp_eq, qN_odd (by omega), z, qN_inj (by omega) (by omega), qN_half (by omega), qN_half p2, nI_1, o]
    refine ⟨fun hle => absurd ((nI_leI (a := 32) (by omega) (by omega)).mp hle) (by omega), fun _ => ⟨fun hle => by omega, fun _ => ⟨fun hodd => (hr _).mpr ?_, fun hev => ?_⟩⟩⟩
    · rw [ck_h, if_neg hodd] at hp
      exact ⟨fun hx => by rwa [if_neg hx] at hp, fun hx => by rwa [if_pos hx] at hp⟩
    · rw [ck_h, if_pos hev] at hp
      rw [show 2 ^ (k + 1) / 2 = 2 ^ k by omega]
      exact hK (a / 2) ⟨by omega, hp⟩
  · rintro a K ⟨ha, hp⟩
    rw [Nat.sub_self] at hp ⊢
    have hp : post (if x = 0 then qN a else qN 1) := hp
    have R : rest (qN a, qN 1) := (hr _).mpr ⟨fun hx => by rwa [if_neg hx] at hp, fun hx => by rwa [if_pos hx] at hp⟩
    have o : lg_cmp (qN (2 ^ 0)) 1 ≤ 0 := by rw [lg_cmp_le]; exact (qN_le (a := 1) (b := 1) (by omega) (by omega)).mpr (by omega)
    exact ⟨fun _ => R, fun _ => ⟨fun _ => R, fun hn => absurd o hn⟩⟩
theorem c_chanceOf {x t : Nat} {r : Int32} {σ : bk_S} {post : Int64 → Prop} (hi : ib σ) (hx : x ≤ 16) (ht : t < 8) (hE : fr_E σ) (h : post (ck_v σ x t r)) : w_X8_chanceOf (nI x) (nI t) r σ post := by
  obtain ⟨hne, h53⟩ := hi.2.2.2.2.2.1
  have p2 := pz_2le hne
  unfold w_X8_chanceOf w_X8_allEvents
  simp only [bk_lt_iff]
  rw [h53, pz_2n1 _ (by omega), qN_shl _ (by omega)]
  refine bk_jn_of (fun a => a = qN (ck_s (ck_t σ x t) (2 ^ bs_ne σ))) (fun K hK => ?_) (fun a ha => ?_)
  · refine bk_loop_up (2 ^ bs_ne σ) (fun w (_ : Unit) => (qN (ck_s (ck_t σ x t) w), nI w)) (fun _ _ => True) (i0 := 0) (b0 := ()) rfl (Nat.zero_le _) trivial ?_ ?_
    · intro w _ K2 hw _ hK2
      have hK2 := hK2 () trivial
      simp only [nI_1, nI_clamp (show w < 2 ^ 31 by omega)]
      rw [mt_b_1, hE w hw]
      have ed : ck_s (ck_t σ x t) (w + 1) = ck_s (ck_t σ x t) w + ck_t σ x t w := rfl
      rw [ed] at hK2
      unfold ck_t at hK2 ⊢
      refine ⟨fun hlt => absurd ((nI_ltI (by omega) (by omega)).mp hlt) (by omega), fun _ => ⟨(pz_in (by omega)).mpr (by omega), fun hb => ?_, fun hb => c_weightOf hx hne h53 ?_⟩⟩
      · rw [if_neg hb, Nat.add_zero] at hK2; exact hK2
      · rw [if_pos hb] at hK2; rw [qN_add]; exact hK2
    · intro _ K2 _
      exact ⟨fun _ => hK _ rfl, fun hn => absurd (nI_lt (by omega) (by omega)) hn⟩
  · subst ha
    have := ck_t_lt (σ := σ) (x := x) (t := t) hx hne (m := 2 ^ bs_ne σ) (by omega)
    simp only [bk_jn_iff]
    exact c_halve (x := r) (post := post) (by omega) (by omega) h _ (fun a => Iff.rfl)
