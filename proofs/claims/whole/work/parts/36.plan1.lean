/-! Plans: what is best, in numbers; the class's trials. -/
def mt_all (p : bk_S) : Prop := mt_cs (mt_ev p 11 1) (mt_nt p) = mt_nt p
def mt_allb (p : bk_S) : Bool := decide (mt_cs (mt_ev p 11 1) (mt_nt p) = mt_nt p)
def mt_cnt (p : bk_S) : Int32 := nI (mt_cs (mt_ev p 11 1) (mt_nt p))
def mt_hol (p : bk_S) : Int32 := mt_sum (fun d => mt_ev p d 5 1) 12
def mt_ft (p : bk_S) : Int32 := mt_ff (fun k => mt_allb (bk_u p 0 0 (nI k))) (mt_nh p + 1) 0
abbrev mt_Q : Type := Int32 × Int32 × Int32 × Int32
def mt_q0 : mt_Q := (-1, -1, -1, -1)
def mt_of (s : mt_Q) (a b c h : Int32) : mt_Q := if s.2.2.1 < c ∨ (c = s.2.2.1 ∧ s.2.2.2 < h) then (a, b, c, h) else s
def mt_lp (p : bk_S) (e k : Nat) : bk_S := bk_u p 5 e (p 5 e ||| (1 : Int32) <<< (nI k &&& 31))
def mt_lv (p : bk_S) (e : Nat) : Nat → mt_Q
  | 0 => mt_q0
  | k + 1 => mt_of (mt_lv p e k) (nI k) (-1) (mt_cnt (mt_lp p e k)) (mt_hol (mt_lp p e k))
def mt_xp (p : bk_S) (a b : Nat) : bk_S := fun r j => if r = 2 ∨ r = 3 ∨ r = 4 then (if j = a then p r b else if j = b then p r a else p r j) else p r j
def mt_si (p : bk_S) (a : Nat) (s : mt_Q) : Nat → mt_Q
  | 0 => s
  | m + 1 => mt_of (mt_si p a s m) (nI a) (nI (a + 1 + m)) (mt_cnt (mt_xp p a (a + 1 + m))) (mt_hol (mt_xp p a (a + 1 + m)))
def mt_so (p : bk_S) : Nat → mt_Q
  | 0 => mt_q0
  | a + 1 => mt_si p a (mt_so p a) (mt_nt p - (a + 1))
theorem mt_ok.hk {p : bk_S} (h : mt_ok p) {k : Nat} (hk : k ≤ mt_nh p) : mt_ok (bk_u p 0 0 (nI k)) ∧ mt_nh (bk_u p 0 0 (nI k)) = k ∧ mt_nt (bk_u p 0 0 (nI k)) = mt_nt p := by
  have hnh := h.nh.2
  have e1 : mt_nh (bk_u p 0 0 (nI k)) = k := by unfold mt_nh; rw [bk_u_same]; exact nI_clamp (by omega)
  have e2 : mt_nt (bk_u p 0 0 (nI k)) = mt_nt p := by unfold mt_nt; rw [bk_u_at, if_neg (by omega)]
  refine ⟨⟨⟨k, by omega, bk_u_same _ _ _ _⟩, ?_, fun x hx => ?_, fun t ht => ?_⟩, e1, e2⟩
  · rw [bk_u_at, if_neg (by omega)]; exact h.2.1
  · rw [bk_u_row _ (by omega)]; exact h.2.2.1 x (by omega)
  · rw [bk_u_row _ (by omega), bk_u_row _ (by omega)]; exact h.2.2.2 t (by omega)
theorem mt_ok.lp {p : bk_S} (h : mt_ok p) (e k : Nat) : mt_ok (mt_lp p e k) ∧ mt_nh (mt_lp p e k) = mt_nh p ∧ mt_nt (mt_lp p e k) = mt_nt p := by
  have e1 : mt_nh (mt_lp p e k) = mt_nh p := by unfold mt_nh mt_lp; rw [bk_u_row _ (by omega)]
  have e2 : mt_nt (mt_lp p e k) = mt_nt p := by unfold mt_nt mt_lp; rw [bk_u_row _ (by omega)]
  refine ⟨?_, e1, e2⟩
  unfold mt_ok
  rw [e1, e2]
  unfold mt_lp
  rw [bk_u_row (a := 0) _ (by omega), bk_u_row (a := 1) _ (by omega), bk_u_row (a := 2) _ (by omega), bk_u_row (a := 3) _ (by omega)]
  exact h
theorem mt_ok.xp {p : bk_S} (h : mt_ok p) {a b : Nat} (ha : a < mt_nt p) (hb : b < mt_nt p) : mt_ok (mt_xp p a b) ∧ mt_nh (mt_xp p a b) = mt_nh p ∧ mt_nt (mt_xp p a b) = mt_nt p := by
  refine ⟨⟨h.1, h.2.1, h.2.2.1, fun t ht => ?_⟩, rfl, rfl⟩
  have ht : t < mt_nt p := ht
  have e2 : mt_xp p a b 2 t = p 2 (if t = a then b else if t = b then a else t) := by
    unfold mt_xp
    by_cases h1 : t = a
    · simp [h1]
    · by_cases h2 : t = b
      · subst h2; simp [h1]
      · simp [h1, h2]
  have e3 : mt_xp p a b 3 t = p 3 (if t = a then b else if t = b then a else t) := by
    unfold mt_xp
    by_cases h1 : t = a
    · simp [h1]
    · by_cases h2 : t = b
      · subst h2; simp [h1]
      · simp [h1, h2]
  rw [e2, e3]
  refine h.2.2.2 _ ?_
  split
  · exact hb
  · split
    · exact ha
    · exact ht
/-- what a plan leaves as it was -/
def tf_F (σ σ' : bk_S) : Prop := ∀ k, (k < 29 ∨ (36 ≤ k ∧ k ≤ 47) ∨ 64 ≤ k) → σ' k = σ k
theorem tf_F.rf (σ : bk_S) : tf_F σ σ := fun _ _ => rfl
theorem tf_F.tr {a b c : bk_S} (h : tf_F a b) (h' : tf_F b c) : tf_F a c := fun k hk => (h' k hk).trans (h k hk)
theorem tf_F.u {a b : bk_S} (h : tf_F a b) {k i : Nat} {v : Int32} (hk : (29 ≤ k ∧ k ≤ 35) ∨ (48 ≤ k ∧ k ≤ 63)) : tf_F a (bk_u b k i v) := fun r hr => by rw [bk_u_row _ (by omega)]; exact h r hr
theorem sf_F.t {a b : bk_S} (h : sf_F 29 a b) : tf_F a b := fun k hk => h k (by omega)
theorem cr_F.t {a b : bk_S} (h : cr_F 48 a b) : tf_F a b := fun k hk => h k (by omega)
theorem tf_F.E {a b : bk_S} (h : tf_F a b) : bs_E a b := ⟨fun k h1 h2 => h k (by omega), by rw [h 0 (by omega)]⟩
theorem fr_T.t {σ σ' : bk_S} (h : fr_T σ) (f : tf_F σ σ') : fr_T σ' := by
  unfold fr_T at *
  rw [tp_E f.E]
  refine ⟨?_, ?_⟩
  · have := h.1
    unfold cr_S at this ⊢
    rw [f 22 (by omega), f (22 + 1) (by omega), f (22 + 2) (by omega), f (22 + 3) (by omega), f (22 + 4) (by omega), f (22 + 5) (by omega), f (22 + 6) (by omega)]
    exact this
  · have := h.2
    unfold cr_Dn at this ⊢
    rw [f 36 (by omega), f (36 + 2) (by omega), f (36 + 3) (by omega), f (36 + 4) (by omega), f (36 + 5) (by omega), f (36 + 6) (by omega), f (36 + 7) (by omega), f (36 + 8) (by omega), f (36 + 9) (by omega), f (36 + 10) (by omega), f (36 + 11) (by omega)]
    exact this
theorem cr_S.sub {s : Nat} {p σ σ' : bk_S} (h : cr_S s p σ) (f : ∀ k, s ≤ k → k ≤ s + 6 → σ' k = σ k) : cr_S s p σ' := by
  unfold cr_S at *
  rw [f s (by omega) (by omega), f (s + 1) (by omega) (by omega), f (s + 2) (by omega) (by omega), f (s + 3) (by omega) (by omega), f (s + 4) (by omega) (by omega), f (s + 5) (by omega) (by omega), f (s + 6) (by omega) (by omega)]
  exact h
theorem c_fewestHooks {p σ : bk_S} {post : Int32 → bk_S → Prop} (hp : mt_ok p) (hS : cr_S 22 p σ) (hpost : ∀ σ', tf_F σ σ' → post (mt_ft p) σ') : w_X8_fewestHooks σ post := by
  have hnh := hp.nh
  unfold w_X8_fewestHooks
  refine c_copyFrom hp hS (fun σ1 F1 S1 => ?_)
  simp only [bk_lt_iff]
  refine bk_loop_up (mt_nh p + 1) (fun k (a : bk_S) => (nI k, a)) (fun k a => tf_F σ a ∧ cr_S 29 p (bk_u a 29 0 (p 0 0)) ∧ mt_ft p = mt_ff (fun k => mt_allb (bk_u p 0 0 (nI k))) (mt_nh p + 1 - k) k) (i0 := 0) (b0 := σ1) rfl (Nat.zero_le _) ⟨F1.t, by rw [← S1.1, bk_u_self]; exact S1, rfl⟩ ?_ ?_
  · rintro k a K hk ⟨F, S, hI⟩ hK
    rw [mt_ff_step hk] at hI
    obtain ⟨ok', nh', nt'⟩ := hp.hk (show k ≤ mt_nh p by omega)
    have y22 : a 22 0 = nI (mt_nh p) := by rw [F 22 (by omega), hS.1, hnh.1]
    have S' : cr_S 29 (bk_u p 0 0 (nI k)) (bk_u a 29 0 (nI k)) := by
      obtain ⟨s1, s2, s3, s4, s5, s6, s7, s8⟩ := S
      have z : ∀ r, 0 < r → bk_u p 0 0 (nI k) r = p r := fun r hr => bk_u_row _ (by omega)
      have z' : ∀ v r, r ≠ 29 → bk_u a 29 0 v r = a r := fun v r hr => bk_u_row _ hr
      unfold cr_S
      rw [nh', nt', z 1 (by omega), z 2 (by omega), z 3 (by omega), z 4 (by omega), z 5 (by omega), z 6 (by omega), z' _ (29 + 1) (by omega), z' _ (29 + 2) (by omega), z' _ (29 + 3) (by omega), z' _ (29 + 4) (by omega), z' _ (29 + 5) (by omega), z' _ (29 + 6) (by omega)]
      rw [z' _ (29 + 1) (by omega)] at s3
      rw [z' _ (29 + 2) (by omega)] at s4
      rw [z' _ (29 + 3) (by omega)] at s5
      rw [z' _ (29 + 4) (by omega)] at s6
      rw [z' _ (29 + 5) (by omega)] at s7
      rw [z' _ (29 + 6) (by omega)] at s8
      refine ⟨by rw [bk_u_same, bk_u_same], ?_, fun h hh => s3 h (by omega), s4, s5, s6, s7, s8⟩
      rw [bk_u_at, if_neg (by omega)] at s2
      rw [bk_u_at, if_neg (by omega), bk_u_at, if_neg (by omega)]; exact s2
    refine ⟨fun hlt => ?_, fun _ => ?_⟩
    · have hlt : a 22 0 < nI k := hlt
      rw [y22] at hlt; exact absurd ((nI_ltI (by omega) (by omega)).mp hlt) (by omega)
    · show w_X1_run 48 29 (bk_u a 29 0 (nI k)) _
      refine c_run ok' (by omega) S' (fun σ6 F6 D6 => ?_)
      simp only [nI_1]
      have x1 : σ6 48 11 = nI (mt_cs (mt_ev (bk_u p 0 0 (nI k)) 11 1) (mt_nt (bk_u p 0 0 (nI k)))) := D6.2.2.2.2.2.2.2.2.2.1
      have x2 : σ6 29 1 = nI (mt_nt (bk_u p 0 0 (nI k))) := by
        rw [F6 29 (by omega), S'.2.1, nt', bk_u_at, if_neg (by omega)]; exact hp.nt.1
      have hnt := ok'.nt.2
      have hcs := mt_cs_le (mt_ev (bk_u p 0 0 (nI k)) 11 1) (mt_nt (bk_u p 0 0 (nI k)))
      rw [x1, x2, nI_eq (by omega) (by omega)]
      have F' : tf_F σ σ6 := (F.u (by omega)).tr F6.t
      refine ⟨fun hne => hK _ ⟨F', ?_, ?_⟩, fun heq => ?_⟩
      · refine cr_S.sub S (fun r h1 h2 => ?_)
        funext j
        rw [bk_u_at, bk_u_at]
        by_cases h : r = 29 ∧ j = 0
        · rw [if_pos h, if_pos h]
        · rw [if_neg h, if_neg h, F6 r (by omega), bk_u_at, if_neg h]
      · rw [hI, if_neg (by unfold mt_allb; simpa using hne)]
      · have := hpost σ6 F'
        rw [hI, if_pos (by unfold mt_allb; simpa using heq)] at this; exact this
  · rintro a K ⟨F, S, hI⟩
    rw [Nat.sub_self] at hI
    have y22 : a 22 0 = nI (mt_nh p) := by rw [F 22 (by omega), hS.1, hnh.1]
    refine ⟨fun _ => ?_, fun hn => absurd ?_ hn⟩
    · have := hpost a F; rw [hI] at this; exact this
    · show a 22 0 < nI (mt_nh p + 1)
      rw [y22]; exact nI_lt (by omega) (by omega)
def ch_R (s : mt_Q) (σ : bk_S) : Prop := (σ 60 0 = 0 ∨ σ 60 0 = 1) ∧ (σ 60 0 = 0 → s.2.2.1 = -1) ∧ σ 60 1 = s.1 ∧ σ 60 2 = s.2.1 ∧ σ 60 3 = s.2.2.1 ∧ σ 60 4 = s.2.2.2
theorem c_clear {σ : bk_S} {post : bk_S → Prop} (hpost : ∀ σ', (∀ k, k ≠ 60 → σ' k = σ k) → σ' 60 0 = 0 → ch_R mt_q0 σ' → post σ') : w_X0_clear 60 σ post := by
  unfold w_X0_clear
  simp only [bk_lt_iff]
  refine hpost _ (fun k hk => by rw [bk_u_row _ hk, bk_u_row _ hk, bk_u_row _ hk, bk_u_row _ hk, bk_u_row _ hk]) (by simp [bk_u_at]) ⟨?_, ?_, ?_, ?_, ?_, ?_⟩ <;> simp [bk_u_at, mt_q0]
theorem c_offer {a b c h : Int32} {s : mt_Q} {σ : bk_S} {post : bk_S → Prop} (hc : 0 ≤ c) (hR : ch_R s σ) (hpost : ∀ σ', (∀ k, k ≠ 60 → σ' k = σ k) → σ' 60 0 = 1 → ch_R (mt_of s a b c h) σ' → post σ') : w_X0_offer 60 a b c h σ post := by
  unfold w_X0_offer
  simp only [bk_lt_iff, bk_jn_iff]
  obtain ⟨r0, r1, r2, r3, r4, r5⟩ := hR
  rw [r4, r5]
  have new : (s.2.2.1 < c ∨ (c = s.2.2.1 ∧ s.2.2.2 < h)) → post (bk_u (bk_u (bk_u (bk_u (bk_u σ 60 0 1) 60 1 a) 60 2 b) 60 3 c) 60 4 h) := by
    intro hb
    refine hpost _ (fun k hk => by rw [bk_u_row _ hk, bk_u_row _ hk, bk_u_row _ hk, bk_u_row _ hk, bk_u_row _ hk]) (by simp [bk_u_at]) ?_
    unfold mt_of; rw [if_pos hb]
    refine ⟨?_, ?_, ?_, ?_, ?_, ?_⟩ <;> simp [bk_u_at]
  have old : ¬ (s.2.2.1 < c ∨ (c = s.2.2.1 ∧ s.2.2.2 < h)) → ¬ σ 60 0 = 0 → post σ := by
    intro hb h1
    refine hpost σ (fun k _ => rfl) (r0.resolve_left h1) ?_
    unfold mt_of; rw [if_neg hb]
    exact ⟨r0, r1, r2, r3, r4, r5⟩
  have made0 : σ 60 0 = 0 → (s.2.2.1 < c ∨ (c = s.2.2.1 ∧ s.2.2.2 < h)) := fun h0 => Or.inl (by
    rw [r1 h0]; exact Int32.lt_of_lt_of_le (by decide) hc)
  refine ⟨fun hlt => ⟨fun _ => new (Or.inl hlt), fun _ => ⟨fun _ => new (Or.inl hlt), fun h => absurd h (by decide)⟩⟩, fun hlt => ⟨fun hne => ?_, fun heq => ⟨fun hle => ?_, fun hle => ?_⟩⟩⟩
  · have nb : ¬ (s.2.2.1 < c ∨ (c = s.2.2.1 ∧ s.2.2.2 < h)) := fun q => q.elim hlt (fun q => hne q.1)
    exact ⟨fun h0 => new (made0 h0), fun h0 => ⟨fun hh => absurd trivial hh, fun _ => old nb h0⟩⟩
  · have nb : ¬ (s.2.2.1 < c ∨ (c = s.2.2.1 ∧ s.2.2.2 < h)) := fun q => q.elim hlt (fun q => absurd q.2 (Int32.not_lt.mpr hle))
    exact ⟨fun h0 => new (made0 h0), fun h0 => ⟨fun hh => absurd trivial hh, fun _ => old nb h0⟩⟩
  · have yb : s.2.2.1 < c ∨ (c = s.2.2.1 ∧ s.2.2.2 < h) := Or.inr ⟨heq, Int32.not_le.mp hle⟩
    exact ⟨fun _ => new yb, fun _ => ⟨fun _ => new yb, fun h => absurd h (by decide)⟩⟩
