/-! The class: the evening to ask, ends, what to spare, a season by a seed. -/
def mt_lk (fit : Int32) (S : Nat → Nat → Int32) (v e : Nat) : Nat → Nat
  | 0 => 0
  | o + 1 => mt_lk fit S v e o + (if 1 ≤ o ∧ mt_b fit o = true ∧ S o e = S v e then 1 else 0)
def mt_gl (fit : Int32) (S : Nat → Nat → Int32) (e : Nat) : Nat → Nat
  | 0 => 0
  | v + 1 => if 1 ≤ v ∧ mt_b fit v = true then max (mt_gl fit S e v) (mt_lk fit S v e 10) else mt_gl fit S e v
def mt_ak (g : Nat → Nat) : Nat → Nat × Nat
  | 0 => (0, g 0)
  | n + 1 => if g (n + 1) < (mt_ak g n).2 then (n + 1, g (n + 1)) else mt_ak g n
theorem mt_lk_le (fit : Int32) (S : Nat → Nat → Int32) (v e : Nat) : ∀ n, mt_lk fit S v e n ≤ n
  | 0 => Nat.le_refl _
  | n + 1 => by have := mt_lk_le fit S v e n; unfold mt_lk; split <;> omega
theorem mt_gl_le (fit : Int32) (S : Nat → Nat → Int32) (e : Nat) : ∀ n, mt_gl fit S e n ≤ 10
  | 0 => by unfold mt_gl; omega
  | n + 1 => by
    have := mt_gl_le fit S e n
    have := mt_lk_le fit S n e 10
    unfold mt_gl; split <;> omega
theorem mt_ak_in (g : Nat → Nat) (hg : ∀ e, g e ≤ 10) : ∀ n, (mt_ak g n).1 ≤ n ∧ (mt_ak g n).2 ≤ 10
  | 0 => ⟨Nat.le_refl _, hg 0⟩
  | n + 1 => by
    have := mt_ak_in g hg n
    unfold mt_ak; split
    · exact ⟨Nat.le_refl _, hg _⟩
    · exact ⟨by omega, this.2⟩
theorem mt_lk_congr {fit : Int32} {S S' : Nat → Nat → Int32} {v e : Nat} (h : ∀ o, 1 ≤ o → o < 10 → S o e = S' o e) (hv : 1 ≤ v ∧ v < 10) : ∀ n, n ≤ 10 → mt_lk fit S v e n = mt_lk fit S' v e n
  | 0, _ => rfl
  | n + 1, hn => by
    unfold mt_lk
    rw [mt_lk_congr h hv n (by omega), h v hv.1 hv.2]
    by_cases q : 1 ≤ n
    · rw [h n q (by omega)]
    · rw [if_neg (fun x => q x.1), if_neg (fun x => q x.1)]
theorem mt_gl_congr {fit : Int32} {S S' : Nat → Nat → Int32} {e : Nat} (h : ∀ o, 1 ≤ o → o < 10 → S o e = S' o e) : ∀ n, n ≤ 10 → mt_gl fit S e n = mt_gl fit S' e n
  | 0, _ => rfl
  | n + 1, hn => by
    unfold mt_gl
    rw [mt_gl_congr h n (by omega)]
    by_cases q : 1 ≤ n ∧ mt_b fit n = true
    · rw [if_pos q, if_pos q, mt_lk_congr h ⟨q.1, by omega⟩ 10 (by omega)]
    · rw [if_neg q, if_neg q]
theorem mt_ak_congr {g g' : Nat → Nat} : ∀ n, (∀ e, e ≤ n → g e = g' e) → mt_ak g n = mt_ak g' n
  | 0, h => by unfold mt_ak; rw [h 0 (by omega)]
  | n + 1, h => by unfold mt_ak; rw [mt_ak_congr n (fun e he => h e (by omega)), h (n + 1) (by omega)]
theorem c_likenessOf {v e : Nat} {σ : bk_S} {post : Int32 → Prop} (hv : 1 ≤ v ∧ v ≤ 9) (he : e < 12) (h : post (nI (mt_lk (σ 61 0) (fun o d => σ 62 (o * 12 + d)) v e 10))) : w_X2_likenessOf 61 (nI v) (nI e) σ post := by
  unfold w_X2_likenessOf
  have e12 : ∀ o, nI o * 12 + nI e = nI (o * 12 + e) := fun o => by rw [pz_12, pz_mulr, nI_add]
  simp only [bk_lt_iff, e12, nI_clamp (show v * 12 + e < 2 ^ 31 by omega)]
  refine ⟨(pz_in (by omega)).mpr (by omega), ?_⟩
  generalize hL : mt_lk (σ 61 0) (fun o d => σ 62 (o * 12 + d)) v e = L at h
  have L1 : L 1 = 0 := by rw [← hL]; simp [mt_lk]
  have Ls : ∀ o, L (o + 1) = L o + (if 1 ≤ o ∧ mt_b (σ 61 0) o = true ∧ σ 62 (o * 12 + e) = σ 62 (v * 12 + e) then 1 else 0) := fun o => by rw [← hL]; rfl
  refine bk_loop_up 10 (fun o (_ : Unit) => (nI (L o), nI o)) (fun o _ => 1 ≤ o) (i0 := 1) (b0 := ()) (by rw [L1]; rfl) (by omega) (Nat.le_refl _) ?_ ?_
  · intro o _ K ho ho1 hK
    have hK := hK () (by omega)
    rw [Ls] at hK
    simp only [nI_1, e12, nI_clamp (show o * 12 + e < 2 ^ 31 by omega), mt_b_1]
    refine ⟨fun hlt => absurd ((nI_ltI (a := 9) (by omega) (by omega)).mp hlt) (by omega), fun _ => ⟨fun hb => ?_, fun hb => ⟨(pz_in (by omega)).mpr (by omega), fun hne => ?_, fun heq => ?_⟩⟩⟩
    · rw [if_neg (fun x => hb x.2.1)] at hK; exact hK
    · rw [if_neg (fun x => hne x.2.2)] at hK; exact hK
    · rw [if_pos ⟨ho1, hb, heq⟩] at hK; exact hK
  · intro _ K _
    exact ⟨fun _ => h, fun hn => absurd (by show (9 : Int32) < nI 10; decide) hn⟩
theorem c_greatestLikeness {e : Nat} {σ : bk_S} {post : Int32 → Prop} (he : e < 12) (h : post (nI (mt_gl (σ 61 0) (fun o d => σ 62 (o * 12 + d)) e 10))) : w_X2_greatestLikeness 61 (nI e) σ post := by
  unfold w_X2_greatestLikeness
  simp only [bk_lt_iff]
  have bnd := mt_gl_le (σ 61 0) (fun o d => σ 62 (o * 12 + d)) e
  have bnd2 := fun v => mt_lk_le (σ 61 0) (fun o d => σ 62 (o * 12 + d)) v e 10
  generalize hL : mt_gl (σ 61 0) (fun o d => σ 62 (o * 12 + d)) e = L at h bnd
  have L1 : L 1 = 0 := by rw [← hL]; simp [mt_gl]
  have Ls : ∀ v, L (v + 1) = if 1 ≤ v ∧ mt_b (σ 61 0) v = true then max (L v) (mt_lk (σ 61 0) (fun o d => σ 62 (o * 12 + d)) v e 10) else L v := fun v => by rw [← hL]; rfl
  refine bk_loop_up 10 (fun o (_ : Unit) => (nI (L o), nI o)) (fun o _ => 1 ≤ o) (i0 := 1) (b0 := ()) (by rw [L1]; rfl) (by omega) (Nat.le_refl _) ?_ ?_
  · intro v _ K hv hv1 hK
    have hK := hK () (by omega)
    rw [Ls] at hK
    simp only [nI_1, mt_b_1]
    refine ⟨fun hlt => absurd ((nI_ltI (a := 9) (by omega) (by omega)).mp hlt) (by omega), fun _ => ⟨fun hb => ?_, fun hb => c_likenessOf (by omega) he ?_⟩⟩
    · rw [if_neg (fun x => hb x.2)] at hK; exact hK
    · rw [if_pos ⟨hv1, hb⟩] at hK
      have b1 := bnd v
      have b2 := bnd2 v
      generalize mt_lk (σ 61 0) (fun o d => σ 62 (o * 12 + d)) v e 10 = M at *
      have : (if nI (L v) < nI M then nI M else nI (L v)) = nI (max (L v) M) := by
        by_cases q : L v < M
        · rw [if_pos (nI_lt q (by omega)), Nat.max_eq_right (by omega)]
        · rw [if_neg (nI_nlt (by omega) (by omega)), Nat.max_eq_left (by omega)]
      rw [this]; exact hK
  · intro _ K _
    exact ⟨fun _ => h, fun hn => absurd (by show (9 : Int32) < nI 10; decide) hn⟩
theorem c_eveningToAsk {σ : bk_S} {post : Int32 → Prop} (h : post (nI (mt_ak (fun e => mt_gl (σ 61 0) (fun o d => σ 62 (o * 12 + d)) e 10) 11).1)) : w_X2_eveningToAsk 61 σ post := by
  unfold w_X2_eveningToAsk
  simp only [bk_lt_iff]
  have bnd : ∀ e, (fun e => mt_gl (σ 61 0) (fun o d => σ 62 (o * 12 + d)) e 10) e ≤ 10 := fun e => mt_gl_le (σ 61 0) (fun o d => σ 62 (o * 12 + d)) e 10
  have hcall : ∀ e, e < 12 → ∀ q : Int32 → Prop, q (nI ((fun e => mt_gl (σ 61 0) (fun o d => σ 62 (o * 12 + d)) e 10) e)) → w_X2_greatestLikeness 61 (nI e) σ q := fun e he q hq => c_greatestLikeness he hq
  generalize (fun e => mt_gl (σ 61 0) (fun o d => σ 62 (o * 12 + d)) e 10) = g at h hcall bnd
  refine hcall 0 (by omega) _ ?_
  have aI := mt_ak_in g bnd
  generalize hA : mt_ak g = A at h aI
  have A0 : A 0 = (0, g 0) := by rw [← hA]; rfl
  have As : ∀ n, A (n + 1) = if g (n + 1) < (A n).2 then (n + 1, g (n + 1)) else A n := fun n => by rw [← hA]; rfl
  refine bk_loop_up 12 (fun e (_ : Unit) => (nI (A (e - 1)).1, nI (A (e - 1)).2, nI e)) (fun e _ => 1 ≤ e) (i0 := 1) (b0 := ()) (by rw [Nat.sub_self, A0]; rfl) (by omega) (Nat.le_refl _) ?_ ?_
  · intro e _ K he he1 hK
    have hK := hK () (by omega)
    obtain ⟨n, rfl⟩ : ∃ n, e = n + 1 := ⟨e - 1, by omega⟩
    rw [Nat.add_sub_cancel] at hK ⊢
    rw [As] at hK
    refine ⟨fun hle => absurd ((nI_leI (a := 12) (by omega) (by omega)).mp hle) (by omega), fun _ => hcall (n + 1) he _ ?_⟩
    have := (aI n).2
    have := bnd (n + 1)
    simp only [nI_1]
    refine ⟨fun hle => ?_, fun hle => ?_⟩
    · have := (nI_leI (by omega) (by omega)).mp hle
      rw [if_neg (by omega)] at hK; exact hK
    · have : ¬ (A n).2 ≤ g (n + 1) := fun q => hle ((nI_leI (by omega) (by omega)).mpr q)
      rw [if_pos (by omega)] at hK; exact hK
  · intro _ K _
    exact ⟨fun _ => h, fun hn => absurd (by show (12 : Int32) ≤ nI 12; decide) hn⟩
theorem pz_2n : ∀ n, n < 9 → (1 : Int32) <<< (nI n &&& 31) = nI (2 ^ n) := by decide +kernel
theorem pz_2n1 : ∀ n, n < 9 → ((1 : Int32) <<< (nI n &&& 31)) - 1 = nI (2 ^ n - 1) := by decide +kernel
theorem pz_2le {n : Nat} (h : n ≤ 8) : 2 ^ n ≤ 256 ∧ 1 ≤ 2 ^ n := ⟨by have := Nat.pow_le_pow_right (n := 2) (by omega) h; simpa using this, Nat.one_le_two_pow⟩
theorem pz_w (X : Int32) {n : Nat} (hn : n ≤ 8) (h : ∀ k, n ≤ k → k < 32 → mt_b X k = false) : ∃ w, w < 2 ^ n ∧ X = nI w := by
  have e : X &&& (((1 : Int32) <<< (nI n &&& 31)) - 1) = X := mt_b_ext fun k hk => by
    rw [mt_b_and _ _ hk, mt_b_ones (by omega) hk]
    by_cases q : k < n
    · simp [q]
    · rw [h k (by omega) hk]; simp
  obtain ⟨w, h1, h2⟩ := pk_andE X (m := ((1 : Int32) <<< (nI n &&& 31)) - 1) n (by
    rw [pz_2n1 n (by omega)]
    have := pz_2le hn
    exact pk_tn (by omega))
  exact ⟨w, h1, by rw [← e]; exact h2⟩
def c_E (σ : bk_S) : Prop := σ 0 14 = 0 → ∀ w, w < 2 ^ bs_ne σ → σ 64 w = mt_cm (mt_ev (tp σ (mt_b (nI w))) 11 1) (mt_nt (tp σ tA))
def fr_E (σ : bk_S) : Prop := ∀ w, w < 2 ^ bs_ne σ → σ 64 w = mt_cm (mt_ev (tp σ (mt_b (nI w))) 11 1) (mt_nt (tp σ tA))
theorem c_refreshEnds {σ : bk_S} {post : bk_S → Prop} (hi : ib σ) (hS : cr_S 22 (tp σ tA) σ) (hE : c_E σ) (hpost : ∀ σ', (∀ k, (k < 29 ∧ 0 < k) ∨ (36 ≤ k ∧ k ≤ 47) → σ' k = σ k) → (∀ j, j ≠ 14 → σ' 0 j = σ 0 j) → σ' 0 14 = 0 → fr_E σ' → post σ') : w_X8_refreshEnds σ post := by
  obtain ⟨hne, h53⟩ := hi.2.2.2.2.2.1
  have hp := tp_ok hi tA
  have p2 := pz_2le hne
  unfold w_X8_refreshEnds
  refine ⟨fun _ => ?_, fun h0 => hpost σ (fun _ _ => rfl) (fun _ _ => rfl) h0 (hE h0)⟩
  refine c_copyFrom hp hS (fun σ1 F1 S1 => ?_)
  unfold w_X8_allEvents
  simp only [bk_lt_iff]
  have y5 : σ1 5 3 = nI (bs_ne σ) := by rw [F1 5 (by omega)]; exact h53
  rw [y5, pz_2n1 _ (by omega)]
  refine bk_jn_of (fun a => (∀ k, (k < 29) ∨ (36 ≤ k ∧ k ≤ 47) → a k = σ k) ∧ (∀ w, w < 2 ^ bs_ne σ → a 64 w = mt_cm (mt_ev (tp σ (mt_b (nI w))) 11 1) (mt_nt (tp σ tA)))) (fun K hK => ?_) (fun a ha => ?_)
  · refine bk_loop_up (2 ^ bs_ne σ) (fun w (a : bk_S) => (nI w, a)) (fun w a => (∀ k, (k < 29) ∨ (36 ≤ k ∧ k ≤ 47) → a k = σ k) ∧ cr_S4 29 (tp σ tA) a ∧ (∀ v, v < w → a 64 v = mt_cm (mt_ev (tp σ (mt_b (nI v))) 11 1) (mt_nt (tp σ tA)))) (i0 := 0) (b0 := σ1) rfl (Nat.zero_le _) ⟨fun k hk => F1 k (by omega), S1.four, fun v hv => absurd hv (Nat.not_lt_zero _)⟩ ?_ ?_
    · rintro w a K2 hw ⟨F, S, q⟩ hK2
      refine ⟨fun hlt => absurd ((nI_ltI (by omega) (by omega)).mp hlt) (by omega), fun _ => ?_⟩
      have ok1 := tp_ok hi (mt_b (nI w))
      have r : ∀ k, k < 29 → a k = σ k := fun k hk => F k (Or.inl hk)
      show w_X4_takeEvents 29 5 (nI w) a _
      refine c_takeEvents (s := 29) (b := 5) (ne := bs_ne σ) (by omega) hne (by rw [r 5 (by omega)]; exact h53) (fun i hi2 => by rw [r 7 (by omega)]; exact (hi.2.2.2.2.2.2.1 i hi2).2.1) (fun a1 f1 f2 => ?_)
      have g : cr_S4 29 (tp σ tA) a1 := S.sub (fun k h1 h2 => f1 k (by omega) (by omega))
      have S1 : cr_S 29 (tp σ (mt_b (nI w))) a1 := by
        refine ⟨g.1, g.2.1, g.2.2.1, g.2.2.2.1, g.2.2.2.2.1, g.2.2.2.2.2, fun e he => ?_, fun e he => ?_⟩
        · rw [(f2 e he).1]
          show te_l (a 6) (a 7) (a 8) (mt_b (nI w)) e (bs_ne σ) = te_l (σ 6) (σ 7) (σ 8) (mt_b (nI w)) e (bs_ne σ)
          rw [r 6 (by omega), r 7 (by omega), r 8 (by omega)]
        · rw [(f2 e he).2]
          show te_s (a 6) (a 7) (mt_b (nI w)) e (bs_ne σ) = te_s (σ 6) (σ 7) (mt_b (nI w)) e (bs_ne σ)
          rw [r 6 (by omega), r 7 (by omega)]
      refine c_run ok1 (by omega) S1 (fun a2 F2 D2 => ?_)
      refine c_settledBehind (e := 11) ok1 (by omega) D2.2.2.2.2.2.2.2.1 ?_
      simp only [nI_1, nI_clamp (show w < 2 ^ 31 by omega)]
      refine ⟨(pz_in (by omega)).mpr (by omega), hK2 _ ⟨fun k hk => ?_, ?_, fun v hv => ?_⟩⟩
      · rw [bk_u_row _ (by omega), F2 k (by omega), f1 k (by omega) (by omega)]; exact F k hk
      · exact g.sub (fun k h1 h2 => by rw [bk_u_row _ (by omega), F2 k (by omega)])
      · rw [bk_u_at]
        by_cases e : v = w
        · subst e; rw [if_pos ⟨rfl, rfl⟩]; rfl
        · rw [if_neg (by omega), F2 64 (by omega), f1 64 (by omega) (by omega)]; exact q v (by omega)
    · rintro a K2 ⟨F, S, q⟩
      exact ⟨fun _ => hK _ ⟨F, q⟩, fun hn => absurd (nI_lt (by omega) (by omega)) hn⟩
  · obtain ⟨F, q⟩ := ha
    have hE' : bs_E σ (bk_u a 0 14 0) := ⟨fun k h1 h2 => by rw [bk_u_row _ (by omega)]; exact F k (by omega), by rw [bk_u_at, if_neg (by omega), F 0 (by omega)]⟩
    refine hpost _ (fun k hk => by rw [bk_u_row _ (by omega)]; exact F k (by omega)) (fun j hj => by rw [bk_u_at, if_neg (by omega), F 0 (by omega)]) (bk_u_same _ _ _ _) ?_
    unfold fr_E
    intro w hw
    rw [bs_ne_E hE'] at hw
    rw [tp_E hE', tp_E hE', bk_u_row _ (by omega)]
    exact q w hw
def tM2 (a b : Nat) : Nat → Bool := fun j => !decide (j = a) && !decide (j = b)
def sp_1 (σ : bk_S) : Int32 := mt_ff (fun a => mt_allb (tp σ (tM a))) (bs_ne σ) 0
def sp_in (σ : bk_S) (a : Nat) : Int32 := mt_ff (fun b => mt_allb (tp σ (tM2 a b))) (bs_ne σ - (a + 1)) (a + 1)
def sp_o (σ : bk_S) : Int32 := mt_ff (fun a => !decide (sp_in σ a = -1)) (bs_ne σ) 0
def sp (σ : bk_S) : Int32 × Int32 × Int32 := if mt_allb (tp σ tA) = true then (0, -1, -1) else if sp_1 σ = -1 then (if sp_o σ = -1 then (-1, -1, -1) else (2, sp_o σ, sp_in σ (sp_o σ).toNatClampNeg)) else (1, sp_1 σ, -1)
def sp_R (s : Int32 × Int32 × Int32) (σ : bk_S) : Prop := σ 60 1 = s.2.1 ∧ σ 60 2 = s.2.2 ∧ (σ 60 0 = 0 → s.1 = -1) ∧ (¬ σ 60 0 = 0 → s.1 = (if s.2.1 = -1 then 0 else 1) + (if s.2.2 = -1 then 0 else 1))
theorem sp_end {σ : bk_S} (hi : ib σ) (hE : fr_E σ) {X : Int32} {wh : Nat → Bool} (hX : ∀ k, k < 32 → mt_b X k = (decide (k < bs_ne σ) && wh k)) : vp_in X 256 ∧ (σ 64 X.toNatClampNeg = ((1 : Int32) <<< (nI (mt_nt (tp σ tA)) &&& 31)) - 1 ↔ mt_allb (tp σ wh) = true) := by
  obtain ⟨hne, -⟩ := hi.2.2.2.2.2.1
  have p2 := pz_2le hne
  obtain ⟨w, hw, rfl⟩ := pz_w X hne (fun k h1 h2 => by rw [hX k h2]; simp [show ¬ k < bs_ne σ by omega])
  refine ⟨(pz_in (by omega)).mpr (by omega), ?_⟩
  rw [nI_clamp (by omega), hE w hw, tp_congr (w' := wh) (fun i hi2 => by rw [hX i (by omega)]; simp [hi2])]
  have hnt := (tp_ok hi tA).nt.2
  have e : mt_nt (tp σ tA) = mt_nt (tp σ wh) := rfl
  rw [e] at hnt ⊢
  rw [mt_cm_full _ hnt]
  unfold mt_allb; simp
theorem c_chooseSpared {σ : bk_S} {post : bk_S → Prop} (hi : ib σ) (hS : cr_S 22 (tp σ tA) σ) (hE : fr_E σ) (hpost : ∀ σ', (∀ k, k ≠ 60 → σ' k = σ k) → sp_R (sp σ) σ' → post σ') : w_X8_chooseSpared σ post := by
  obtain ⟨hne, h53⟩ := hi.2.2.2.2.2.1
  have hp := tp_ok hi tA
  unfold w_X8_chooseSpared
  refine c_clear (fun σ1 r1 z1 C1 => ?_)
  unfold w_X4_allThings w_X8_allEvents
  simp only [bk_lt_iff]
  have y22 : σ1 22 1 = nI (mt_nt (tp σ tA)) := by rw [r1 22 (by omega), hS.2.1]; exact hp.nt.1
  have y5 : σ1 5 3 = nI (bs_ne σ) := by rw [r1 5 (by omega)]; exact h53
  have y64 : σ1 64 = σ 64 := r1 64 (by omega)
  rw [y22, y5, y64]
  have hev : ∀ k, k < 32 → mt_b (((1 : Int32) <<< (nI (bs_ne σ) &&& 31)) - 1) k = decide (k < bs_ne σ) := fun k hk => mt_b_ones (by omega) hk
  have E0 := sp_end hi hE (X := ((1 : Int32) <<< (nI (bs_ne σ) &&& 31)) - 1) (wh := tA) (fun k hk => by rw [hev k hk]; simp [tA])
  have E1 : ∀ a, a < bs_ne σ → _ := fun a ha => sp_end hi hE (X := (((1 : Int32) <<< (nI (bs_ne σ) &&& 31)) - 1) &&& (((1 : Int32) <<< (nI a &&& 31)) ^^^ -1)) (wh := tM a) (fun k hk => by
    rw [mt_b_and _ _ hk, hev k hk, mt_b_not _ hk, mt_b_shl hk (by omega)]; rfl)
  have E2 : ∀ a b, a < bs_ne σ → b < bs_ne σ → _ := fun a b ha hb => sp_end hi hE (X := (((1 : Int32) <<< (nI (bs_ne σ) &&& 31)) - 1) &&& ((((1 : Int32) <<< (nI a &&& 31)) ||| ((1 : Int32) <<< (nI b &&& 31))) ^^^ -1)) (wh := tM2 a b) (fun k hk => by
    rw [mt_b_and _ _ hk, hev k hk, mt_b_not _ hk, mt_b_or _ _ hk, mt_b_shl hk (by omega), mt_b_shl hk (by omega)]
    unfold tM2; rw [Bool.not_or])
  generalize ((1 : Int32) <<< (nI (bs_ne σ) &&& 31)) - 1 = V at *
  generalize ((1 : Int32) <<< (nI (mt_nt (tp σ tA)) &&& 31)) - 1 = A at *
  have off : ∀ (a b : Int32) (n : Int32), n = (if a = -1 then 0 else 1) + (if b = -1 then 0 else 1) → sp σ = (n, a, b) → w_X0_offer 60 a b 0 0 σ1 (fun σ25 => post σ25) := by
    intro a b n hn hs
    refine c_offer (by decide) C1 (fun σ2 r2 m2 C2 => hpost σ2 (fun k hk => by rw [r2 k hk, r1 k hk]) ?_)
    rw [hs]
    unfold mt_of at C2
    rw [if_pos (by left; decide)] at C2
    exact ⟨C2.2.2.1, C2.2.2.2.1, fun h => by rw [m2] at h; exact absurd h (by decide), fun _ => hn⟩
  refine ⟨E0.1, fun h0 => ?_, fun h0 => ?_⟩
  · have n0 : ¬ mt_allb (tp σ tA) = true := fun q => h0 (E0.2.mpr q)
    refine bk_jn_of (fun _ => sp_1 σ = -1) (fun K hK => ?_) (fun _ hs1 => ?_)
    · simp only [bk_jn_iff]
      refine bk_loop_up (bs_ne σ) (fun i (_ : Unit) => nI i) (fun i _ => sp_1 σ = mt_ff (fun a => mt_allb (tp σ (tM a))) (bs_ne σ - i) i) (i0 := 0) (b0 := ()) rfl (Nat.zero_le _) rfl ?_ ?_
      · intro a _ K2 ha hI hK2
        rw [mt_ff_step ha] at hI
        refine ⟨fun hle => absurd ((nI_leI (by omega) (by omega)).mp hle) (by omega), fun _ => ⟨(E1 a ha).1, fun hne2 => ?_, fun heq => ?_⟩⟩
        · rw [nI_1]; exact hK2 () (by rw [hI, if_neg (fun q => hne2 ((E1 a ha).2.mpr q))])
        · have q := (E1 a ha).2.mp heq
          rw [if_pos q] at hI
          refine off (nI a) (-1) 1 (by rw [if_neg (pz_ne_m1 (by omega))]; decide) ?_
          unfold sp; rw [if_neg n0, if_neg (by rw [hI]; exact pz_ne_m1 (by omega)), hI]
      · intro _ K2 hI
        refine ⟨fun _ => hK _ (by rw [hI, Nat.sub_self]; rfl), fun hn => absurd ((nI_leI (by omega) (by omega)).mpr (Nat.le_refl _)) hn⟩
    · refine bk_jn_of (fun ab => sp σ = (2, ab.1, ab.2) ∧ ¬ ab.1 = -1 ∧ ¬ ab.2 = -1) (fun K hK => ?_) (fun ab hab => ?_)
      · refine bk_loop_up (bs_ne σ) (fun i (_ : Unit) => nI i) (fun i _ => sp_o σ = mt_ff (fun a => !decide (sp_in σ a = -1)) (bs_ne σ - i) i) (i0 := 0) (b0 := ()) rfl (Nat.zero_le _) rfl ?_ ?_
        · intro a _ K2 ha hI hK2
          rw [mt_ff_step ha] at hI
          refine ⟨fun hle => absurd ((nI_leI (by omega) (by omega)).mp hle) (by omega), fun _ => ?_⟩
          simp only [nI_1]
          refine bk_loop_up (bs_ne σ - (a + 1)) (fun m (_ : Unit) => nI (a + 1 + m)) (fun m _ => sp_in σ a = mt_ff (fun b => mt_allb (tp σ (tM2 a b))) (bs_ne σ - (a + 1) - m) (a + 1 + m)) (i0 := 0) (b0 := ()) rfl (Nat.zero_le _) rfl ?_ ?_
          · intro m _ K3 hm hI3 hK3
            have hb : a + 1 + m < bs_ne σ := by omega
            rw [show bs_ne σ - (a + 1) - m = (bs_ne σ - (a + 1) - (m + 1)) + 1 by omega, mt_ff] at hI3
            refine ⟨fun hle => absurd ((nI_leI (by omega) (by omega)).mp hle) (by omega), fun _ => ⟨(E2 a _ ha hb).1, fun hne2 => ?_, fun heq => ?_⟩⟩
            · have e1 : nI (a + 1 + m) + 1 = nI (a + 1 + (m + 1)) := by rw [nI_1]; congr 1
              rw [e1]
              exact hK3 () (by rw [hI3, if_neg (fun q => hne2 ((E2 a _ ha hb).2.mpr q))]; rfl)
            · have q := (E2 a _ ha hb).2.mp heq
              rw [if_pos q] at hI3
              have ho : sp_o σ = nI a := by rw [hI, if_pos (by rw [hI3]; simp [pz_ne_m1 (show a + 1 + m < 2 ^ 31 by omega)])]
              refine hK (nI a, nI (a + 1 + m)) ⟨?_, pz_ne_m1 (by omega), pz_ne_m1 (by omega)⟩
              unfold sp
              rw [if_neg n0, if_pos hs1, if_neg (by rw [ho]; exact pz_ne_m1 (by omega)), ho, nI_clamp (by omega), hI3]
          · intro _ K3 hI3
            rw [Nat.sub_self, mt_ff] at hI3
            refine ⟨fun _ => ?_, fun hn => absurd ((nI_leI (by omega) (by omega)).mpr (by omega)) hn⟩
            exact hK2 () (by rw [hI, if_neg (by rw [hI3]; simp)])
        · intro _ K2 hI
          rw [Nat.sub_self, mt_ff] at hI
          refine ⟨fun _ => ?_, fun hn => absurd ((nI_leI (by omega) (by omega)).mpr (Nat.le_refl _)) hn⟩
          refine hpost σ1 r1 ?_
          unfold sp
          rw [if_neg n0, if_pos hs1, if_pos hI]
          exact ⟨C1.2.2.1, C1.2.2.2.1, fun _ => rfl, fun h => absurd z1 h⟩
      · exact off _ _ 2 (by rw [if_neg hab.2.1, if_neg hab.2.2]; decide) hab.1
  · refine off (-1) (-1) 0 (by decide) ?_
    unfold sp; rw [if_pos (E0.2.mp h0)]
def sd_l (s : Int32) : Int32 := 1103515245 * s + 12345
def sd_s (seed : Int32) : Nat → Int32
  | 0 => seed
  | n + 1 => sd_l (sd_s seed n)
def sd_u (s : Int32) : Int32 := (Int32.toUInt32 s >>> (Int32.toUInt32 (16 : Int32) &&& Int32.toUInt32 31)).toInt32
def sd_r (s m : Int32) : Int32 := sd_u s - sd_u s / m * m
def sd_p (p : bk_S) (seed : Int32) (n : Nat) : bk_S := fun r j => match r with
  | 0 => if j = 0 then p 0 0 else nI n
  | 2 => sd_r (sd_s seed (3 * j + 1)) 3
  | 3 => sd_r (sd_s seed (3 * j + 2)) 9 + 1
  | 4 => sd_r (sd_s seed (3 * j + 3)) 10
  | r => p r j
theorem sd_r_in (s : Int32) {m : Nat} (hm : 0 < m ∧ m < 100) : ∃ k, k < m ∧ sd_r s (nI m) = nI k := by
  have h1 : sd_u s = nI (s.toBitVec.toNat / 2 ^ 16) := by
    apply Int32.toBitVec_inj.mp
    apply BitVec.eq_of_toNat_eq
    have := pk_ushr s 16 16 (by decide)
    have hlt : s.toBitVec.toNat < 2 ^ 32 := s.toBitVec.isLt
    rw [pk_tn (by omega)]; exact this
  have hlt : s.toBitVec.toNat < 2 ^ 32 := s.toBitVec.isLt
  refine ⟨s.toBitVec.toNat / 2 ^ 16 % m, Nat.mod_lt _ hm.1, ?_⟩
  unfold sd_r; rw [h1]
  exact pk_rem (by omega) hm.1 (by omega)
theorem sd_p_ok {p : bk_S} (h : mt_ok p) (seed : Int32) {n : Nat} (hn : n ≤ 8) : mt_ok (sd_p p seed n) ∧ mt_nt (sd_p p seed n) = n := by
  have e2 : mt_nt (sd_p p seed n) = n := by unfold mt_nt; show Int32.toNatClampNeg (nI n) = n; exact nI_clamp (by omega)
  refine ⟨⟨h.1, ⟨n, hn, rfl⟩, h.2.2.1, fun t ht => ⟨?_, ?_⟩⟩, e2⟩
  · obtain ⟨k, hk, hr⟩ := sd_r_in (sd_s seed (3 * t + 1)) (m := 3) (by omega)
    have : sd_p p seed n 2 t = nI k := hr
    rw [this]
    match k, hk with
    | 0, _ => exact Or.inl rfl
    | 1, _ => exact Or.inr (Or.inl rfl)
    | 2, _ => exact Or.inr (Or.inr rfl)
  · obtain ⟨k, hk, hr⟩ := sd_r_in (sd_s seed (3 * t + 2)) (m := 9) (by omega)
    refine ⟨k + 1, by omega, by omega, ?_⟩
    show sd_r (sd_s seed (3 * t + 2)) 9 + 1 = _
    rw [show (9 : Int32) = nI 9 from rfl, hr, nI_1]
theorem c_draw {m : Nat} {σ : bk_S} {post : Int32 → bk_S → Prop} (hm : 0 < m ∧ m < 100) (h : post (sd_r (sd_l (σ 63 0)) (nI m)) (bk_u σ 63 0 (sd_l (σ 63 0)))) : w_X3_draw 63 (nI m) σ post := by
  unfold w_X3_draw
  simp only [bk_lt_iff, bk_u_same]
  exact ⟨fun hle => absurd hle (nI_nle hm.1 (by omega)), fun _ => ⟨nI_ne0 hm.1 (by omega), h⟩⟩
theorem c_runSeason {n : Nat} {seed : Int32} {σ p : bk_S} {post : bk_S → Prop} (hn : n ≤ 8) (hp : mt_ok p) (hS : cr_S 22 p σ) (hpost : ∀ σ', tf_F σ σ' → cr_Dn 48 (sd_p p seed n) σ' → post σ') : w_X8_runSeason seed (nI n) σ post := by
  unfold w_X8_runSeason
  refine c_copyFrom hp hS (fun σ1 F1 S1 => ?_)
  simp only [bk_lt_iff]
  obtain ⟨ok', nt'⟩ := sd_p_ok hp seed hn
  refine bk_jn_of (fun a => tf_F σ a ∧ cr_S 29 (sd_p p seed n) a) (fun K hK => ?_) (fun a ha => ?_)
  · refine bk_loop_up n (fun i (a : bk_S) => (nI i, a)) (fun i a => tf_F σ a ∧ a 63 0 = sd_s seed (3 * i) ∧ a 29 0 = p 0 0 ∧ a 29 1 = nI n ∧ (∀ k, k = 30 ∨ k = 34 ∨ k = 35 → a k = σ1 k) ∧ (∀ t, t < i → a 31 t = sd_p p seed n 2 t ∧ a 32 t = sd_p p seed n 3 t ∧ a 33 t = sd_p p seed n 4 t)) (i0 := 0) (b0 := bk_u (bk_u σ1 63 0 seed) 29 1 (nI n)) rfl (Nat.zero_le _) ⟨(F1.t.u (by omega)).u (by omega), ?_, ?_, bk_u_same _ _ _ _, fun k hk => ?_, fun t ht => absurd ht (Nat.not_lt_zero _)⟩ ?_ ?_
    · rw [bk_u_row _ (by omega), bk_u_same]; rfl
    · rw [bk_u_at, if_neg (by omega), bk_u_row _ (by omega)]; exact S1.1
    · rw [bk_u_row _ (by omega), bk_u_row _ (by omega)]
    · rintro i a K2 hi ⟨F, z63, z0, z1, zr, zt⟩ hK2
      have hv : vp_in (nI i) 8 := (pz_in (by omega)).mpr (by omega)
      simp only [nI_1, nI_clamp (show i < 2 ^ 31 by omega)]
      refine ⟨fun hle => absurd ((nI_leI (by omega) (by omega)).mp hle) (by omega), fun _ => ?_⟩
      refine c_draw (m := 3) (by omega) ⟨hv, ?_⟩
      refine c_draw (m := 9) (by omega) ⟨hv, ?_⟩
      refine c_draw (m := 10) (by omega) ⟨hv, ?_⟩
      have s1 : sd_l (a 63 0) = sd_s seed (3 * i + 1) := by rw [z63]; rfl
      have q2 : bk_u (bk_u a 63 0 (sd_l (a 63 0))) (29 + 2) i (sd_r (sd_l (a 63 0)) (nI 3)) 63 0 = sd_s seed (3 * i + 1) := by rw [bk_u_row _ (by omega), bk_u_same, s1]
      rw [q2]
      generalize hA : bk_u (bk_u (bk_u (bk_u a 63 0 (sd_l (a 63 0))) (29 + 2) i (sd_r (sd_l (a 63 0)) (nI 3))) 63 0 (sd_l (sd_s seed (3 * i + 1)))) (29 + 3) i (sd_r (sd_l (sd_s seed (3 * i + 1))) (nI 9) + 1) = a3
      have q3 : a3 63 0 = sd_s seed (3 * i + 2) := by rw [← hA, bk_u_row _ (by omega), bk_u_same]; rfl
      rw [q3]
      have r3 : ∀ k, k ≠ 63 → k ≠ 31 → k ≠ 32 → a3 k = a k := fun k h1 h2 h3 => by rw [← hA, bk_u_row _ (by omega), bk_u_row _ (by omega), bk_u_row _ (by omega), bk_u_row _ (by omega)]
      have t31 : ∀ t, t < i + 1 → a3 31 t = sd_p p seed n 2 t ∧ a3 32 t = sd_p p seed n 3 t := by
        intro t ht
        rw [← hA]
        by_cases e : t = i
        · subst e
          refine ⟨?_, ?_⟩
          · rw [bk_u_row _ (by omega), bk_u_row _ (by omega)]
            show bk_u _ 31 t _ 31 t = _
            rw [bk_u_same, s1]; rfl
          · show bk_u _ 32 t _ 32 t = _
            rw [bk_u_same]; rfl
        · obtain ⟨w1, w2, _⟩ := zt t (by omega)
          refine ⟨?_, ?_⟩
          · rw [bk_u_row _ (by omega), bk_u_row _ (by omega), bk_u_at, if_neg (by omega), bk_u_row _ (by omega)]; exact w1
          · rw [bk_u_at, if_neg (by omega), bk_u_row _ (by omega), bk_u_row _ (by omega), bk_u_row _ (by omega)]; exact w2
      have T3 : tf_F σ a3 := by rw [← hA]; exact (((F.u (by omega)).u (by omega)).u (by omega)).u (by omega)
      refine hK2 _ ⟨(T3.u (by omega)).u (by omega), ?_, ?_, ?_, fun k hk => ?_, fun t ht => ?_⟩
      · rw [bk_u_row _ (by omega), bk_u_same]
        show sd_s seed (3 * i + 2 + 1) = sd_s seed (3 * (i + 1)); rfl
      · rw [bk_u_row _ (by omega), bk_u_row _ (by omega), r3 29 (by omega) (by omega) (by omega)]; exact z0
      · rw [bk_u_row _ (by omega), bk_u_row _ (by omega), r3 29 (by omega) (by omega) (by omega)]; exact z1
      · rw [bk_u_row _ (by omega), bk_u_row _ (by omega), r3 k (by omega) (by omega) (by omega)]; exact zr k hk
      · obtain ⟨w1, w2⟩ := t31 t ht
        refine ⟨?_, ?_, ?_⟩
        · rw [bk_u_row _ (by omega), bk_u_row _ (by omega)]; exact w1
        · rw [bk_u_row _ (by omega), bk_u_row _ (by omega)]; exact w2
        · by_cases e : t = i
          · subst e
            show bk_u _ 33 t _ 33 t = _
            rw [bk_u_same]; rfl
          · rw [bk_u_at, if_neg (by omega), bk_u_row _ (by omega), r3 33 (by omega) (by omega) (by omega)]; exact (zt t (by omega)).2.2
    · rintro a K2 ⟨F, z63, z0, z1, zr, zt⟩
      refine ⟨fun _ => hK _ ⟨F, z0, z1, fun h hh => ?_, fun t ht => ?_, fun t ht => ?_, fun t ht => ?_, fun e he => ?_, fun e he => ?_⟩, fun hn' => absurd ((nI_leI (by omega) (by omega)).mpr (Nat.le_refl _)) hn'⟩
      · show a 30 h = p 1 h
        rw [zr 30 (by omega)]; exact S1.2.2.1 h hh
      · exact (zt t (by omega)).1
      · exact (zt t (by omega)).2.1
      · exact (zt t (by omega)).2.2
      · show a 34 e = p 5 e
        rw [zr 34 (by omega)]; exact S1.2.2.2.2.2.2.1 e he
      · show a 35 e = p 6 e
        rw [zr 35 (by omega)]; exact S1.2.2.2.2.2.2.2 e he
  · exact c_run ok' (by omega) ha.2 (fun a2 F2 D2 => hpost a2 (ha.1.tr F2.t) D2)
