/-! The class: what was seen, which never was, heats and sorts. -/
def sn_1 (σ p : bk_S) (i : Nat) : Bool := decide (σ 11 i < p 0 1) && (mt_b (mt_cm (mt_ev p (σ 10 i).toNatClampNeg 1) (mt_nt p)) (σ 11 i).toNatClampNeg == decide (σ 12 i = 1))
def sn (σ p : bk_S) : Nat → Bool
  | 0 => true
  | i + 1 => sn σ p i && sn_1 σ p i
def sn_s (σ p : bk_S) : Bool := sn σ p (bs_ns σ)
theorem sn_mono {σ p : bk_S} {i : Nat} (h : sn σ p i = false) : ∀ k, sn σ p (i + k) = false
  | 0 => h
  | k + 1 => by show (sn σ p (i + k) && _) = false; rw [sn_mono h k]; rfl
theorem sn_E {σ σ' : bk_S} (e : bs_E σ σ') (p : bk_S) : sn_s σ' p = sn_s σ p := by
  unfold sn_s
  rw [bs_ns_E e]
  generalize bs_ns σ = n
  induction n with
  | zero => rfl
  | succ n ih => unfold sn; rw [ih]; unfold sn_1; rw [e.1 10 (by omega) (by omega), e.1 11 (by omega) (by omega), e.1 12 (by omega) (by omega)]
theorem c_allComesOut {σ p : bk_S} {post : Int32 → Prop} (hi : ib σ) (hp : mt_ok p) (h29 : σ 29 1 = p 0 1) (hD : cr_Dn 48 p σ) (h1 : sn_s σ p = true → post 1) (h0 : sn_s σ p = false → post 0) : w_X8_allComesOut σ post := by
  obtain ⟨hns, hn3⟩ := hi.2.2.2.2.2.2.2.1
  unfold w_X8_allComesOut
  simp only [bk_lt_iff]
  rw [hn3, h29]
  refine bk_loop_up (bs_ns σ) (fun i (_ : Unit) => nI i) (fun i _ => sn σ p i = true) (i0 := 0) (b0 := ()) rfl (Nat.zero_le _) rfl ?_ ?_
  · intro i _ K hi2 hI hK
    have hv : vp_in (nI i) 8 := (pz_in (by omega)).mpr (by omega)
    obtain ⟨⟨e, he, h10⟩, ⟨t, ht, h11⟩, h12⟩ := hi.2.2.2.2.2.2.2.2.1 i hi2
    have hstep : sn σ p (i + 1) = sn_1 σ p i := by show (sn σ p i && _) = _; rw [hI]; rfl
    have fail : sn_1 σ p i = false → post 0 := fun hf => h0 (by
      have := sn_mono (hstep.trans hf) (bs_ns σ - (i + 1))
      rwa [show i + 1 + (bs_ns σ - (i + 1)) = bs_ns σ by omega] at this)
    have e10 : σ (9 + 1) i = nI e := h10
    have e11 : σ (9 + 2) i = nI t := h11
    simp only [nI_1, nI_clamp (show i < 2 ^ 31 by omega), e10, e11]
    refine ⟨fun hle => absurd ((nI_leI (by omega) (by omega)).mp hle) (by omega), fun _ => ⟨hv, hv, fun hlt => c_settledBehind hp he hD.2.2.2.2.2.2.2.1 ⟨hv, ?_⟩, fun hlt => fail ?_⟩⟩
    · have hb : mt_b (mt_cm (mt_ev p e 1) (mt_nt p)) t = mt_b (mt_cm (mt_ev p (σ 10 i).toNatClampNeg 1) (mt_nt p)) (σ 11 i).toNatClampNeg := by rw [h10, h11, nI_clamp (by omega), nI_clamp (by omega)]
      have hs1 : sn_1 σ p i = (mt_b (mt_cm (mt_ev p e 1) (mt_nt p)) t == decide (σ 12 i = 1)) := by
        unfold sn_1; rw [← hb, h11, decide_eq_true hlt, Bool.true_and]
      have hv7 : ((mt_cm (mt_ev p e 1) (mt_nt p) >>> (nI t &&& 31)) &&& 1) = if mt_b (mt_cm (mt_ev p e 1) (mt_nt p)) t = true then 1 else 0 := by
        rw [pz_shr_bit _ (by omega), mt_b_bv _ (by omega)]
      show (_ = σ 12 i → _) ∧ (¬ _ = σ 12 i → _)
      rw [hv7]
      cases hbb : mt_b (mt_cm (mt_ev p e 1) (mt_nt p)) t with
      | true =>
        rw [hbb] at hs1
        refine ⟨fun q => hK () (hstep.trans ?_), fun q => fail ?_⟩
        · rw [hs1, decide_eq_true (by simpa using q.symm)]; rfl
        · rw [hs1, decide_eq_false (fun h => q (by simpa using h.symm))]; rfl
      | false =>
        rw [hbb] at hs1
        refine ⟨fun q => hK () (hstep.trans ?_), fun q => fail ?_⟩
        · have q : (0 : Int32) = σ 12 i := by simpa using q
          rw [hs1, decide_eq_false (fun h => by rw [← q] at h; exact absurd h (by decide))]; rfl
        · have q : ¬ (0 : Int32) = σ 12 i := by simpa using q
          rw [hs1, decide_eq_true (h12.resolve_left (fun h => q h.symm))]; rfl
    · unfold sn_1; rw [h11, decide_eq_false hlt]; rfl
  · intro _ K hI
    exact ⟨fun _ => h1 hI, fun hn => absurd ((nI_leI (by omega) (by omega)).mpr (Nat.le_refl _)) hn⟩
def mt_or (g : Nat → Bool) : Nat → Int32
  | 0 => 0
  | n + 1 => if g n = true then mt_or g n ||| ((1 : Int32) <<< (nI n &&& 31)) else mt_or g n
theorem mt_b_mor (g : Nat → Bool) {k : Nat} (hk : k < 32) : ∀ n, n ≤ 32 → mt_b (mt_or g n) k = (decide (k < n) && g k)
  | 0, _ => by rw [mt_or, mt_b_zero hk]; simp
  | n + 1, hn => by
    rw [mt_or]
    by_cases hg : g n = true
    · rw [if_pos hg, mt_b_or _ _ hk, mt_b_mor g hk n (by omega), mt_b_shl hk (by omega)]
      by_cases h : k = n
      · subst h; simp [hg]
      · simp [h, show (k < n + 1 ↔ k < n) by omega]
    · rw [if_neg hg, mt_b_mor g hk n (by omega)]
      by_cases h : k = n
      · subst h; simp [hg]
      · simp [show (k < n + 1 ↔ k < n) by omega]
theorem mt_b_not (A : Int32) {k : Nat} (hk : k < 32) : mt_b (A ^^^ -1) k = !mt_b A k := by
  have h1 : mt_b (-1) k = true := by
    have : ∀ k, k < 32 → mt_b (-1) k = true := by decide +kernel
    exact this k hk
  rw [mt_b_bv _ hk] at h1
  rw [mt_b_bv _ hk, mt_b_bv _ hk, Int32.toBitVec_xor, BitVec.getLsbD_xor, h1]
  cases A.toBitVec.getLsbD k <;> rfl
/-- a setting but for its events -/
def cr_S4 (s : Nat) (p σ : bk_S) : Prop := σ s 0 = p 0 0 ∧ σ s 1 = p 0 1 ∧ (∀ h, h < mt_nh p → σ (s + 1) h = p 1 h) ∧ (∀ t, t < mt_nt p → σ (s + 2) t = p 2 t) ∧ (∀ t, t < mt_nt p → σ (s + 3) t = p 3 t) ∧ (∀ t, t < mt_nt p → σ (s + 4) t = p 4 t)
theorem cr_S.four {s : Nat} {p σ : bk_S} (h : cr_S s p σ) : cr_S4 s p σ := ⟨h.1, h.2.1, h.2.2.1, h.2.2.2.1, h.2.2.2.2.1, h.2.2.2.2.2.1⟩
theorem cr_S4.sub {s : Nat} {p σ σ' : bk_S} (h : cr_S4 s p σ) (f : ∀ k, s ≤ k → k ≤ s + 4 → σ' k = σ k) : cr_S4 s p σ' := by
  unfold cr_S4 at *
  rw [f s (by omega) (by omega), f (s + 1) (by omega) (by omega), f (s + 2) (by omega) (by omega), f (s + 3) (by omega) (by omega), f (s + 4) (by omega) (by omega)]
  exact h
theorem c_tryEvents {x : Int32} {σ a : bk_S} {post : bk_S → Prop} (hi : ib σ) (hF : tf_F σ a) (h4 : cr_S4 29 (tp σ tA) a) (hpost : ∀ a', (∀ k, k ≠ 34 → k ≠ 35 → a' k = a k) → cr_S 29 (tp σ (mt_b x)) a' → post a') : w_X4_takeEvents 29 5 x a post := by
  have r : ∀ k, k < 29 → a k = σ k := fun k hk => hF k (by omega)
  obtain ⟨hne, h53⟩ := hi.2.2.2.2.2.1
  refine c_takeEvents (s := 29) (b := 5) (ne := bs_ne σ) (by omega) hne (by rw [r 5 (by omega)]; exact h53) (fun i hi2 => by rw [r 7 (by omega)]; exact (hi.2.2.2.2.2.2.1 i hi2).2.1) (fun a' f1 f2 => hpost a' f1 ?_)
  have g : cr_S4 29 (tp σ tA) a' := h4.sub (fun k h1 h2 => f1 k (by omega) (by omega))
  have nh : mt_nh (tp σ (mt_b x)) = mt_nh (tp σ tA) := rfl
  have nt : mt_nt (tp σ (mt_b x)) = mt_nt (tp σ tA) := rfl
  refine ⟨g.1, g.2.1, g.2.2.1, g.2.2.2.1, g.2.2.2.2.1, g.2.2.2.2.2, fun e he => ?_, fun e he => ?_⟩
  · rw [(f2 e he).1]
    show te_l (a 6) (a 7) (a 8) (mt_b x) e (bs_ne σ) = te_l (σ 6) (σ 7) (σ 8) (mt_b x) e (bs_ne σ)
    rw [r 6 (by omega), r 7 (by omega), r 8 (by omega)]
  · rw [(f2 e he).2]
    show te_s (a 6) (a 7) (mt_b x) e (bs_ne σ) = te_s (σ 6) (σ 7) (mt_b x) e (bs_ne σ)
    rw [r 6 (by omega), r 7 (by omega)]
def tM (a : Nat) : Nat → Bool := fun j => !decide (j = a)
def mt_nv (σ : bk_S) : Int32 := mt_or (fun i => sn_s σ (tp σ (tM i))) (bs_ne σ)
theorem c_eventsThatNeverWere {σ : bk_S} {post : Int32 → bk_S → Prop} (hi : ib σ) (hS : cr_S 22 (tp σ tA) σ) (hpost : ∀ σ', tf_F σ σ' → post (mt_nv σ) σ') : w_X8_eventsThatNeverWere σ post := by
  obtain ⟨hne, h53⟩ := hi.2.2.2.2.2.1
  have hp := tp_ok hi tA
  unfold w_X8_eventsThatNeverWere
  refine c_copyFrom hp hS (fun σ1 F1 S1 => ?_)
  simp only [bk_lt_iff]
  refine bk_loop_up (bs_ne σ) (fun i (a : bk_S) => (mt_or (fun i => sn_s σ (tp σ (tM i))) i, nI i, a)) (fun i a => tf_F σ a ∧ cr_S4 29 (tp σ tA) a) (i0 := 0) (b0 := σ1) rfl (Nat.zero_le _) ⟨F1.t, S1.four⟩ ?_ ?_
  · rintro i a K hi2 ⟨F, S⟩ hK
    have y5 : a 5 3 = nI (bs_ne σ) := by rw [F 5 (by omega)]; exact h53
    refine ⟨fun hle => ?_, fun _ => ?_⟩
    · have hle : a 5 3 ≤ nI i := hle
      rw [y5] at hle; exact absurd ((nI_leI (by omega) (by omega)).mp hle) (by omega)
    · unfold w_X8_allEvents
      show w_X4_takeEvents 29 5 (((1 : Int32) <<< (a 5 3 &&& 31) - 1) &&& ((1 : Int32) <<< (nI i &&& 31) ^^^ -1)) a _
      rw [y5]
      have hx : ∀ j, j < bs_ne σ → mt_b (((1 : Int32) <<< (nI (bs_ne σ) &&& 31) - 1) &&& ((1 : Int32) <<< (nI i &&& 31) ^^^ -1)) j = tM i j := fun j hj => by
        rw [mt_b_and _ _ (by omega), mt_b_ones (by omega) (by omega), mt_b_not _ (by omega), mt_b_shl (by omega) (by omega)]
        simp [hj, tM]
      refine c_tryEvents hi F S (fun a1 f1 S1 => ?_)
      rw [tp_congr hx] at S1
      have ok1 := tp_ok hi (tM i)
      refine c_run ok1 (by omega) S1 (fun a2 F2 D2 => ?_)
      have T2 : tf_F σ a2 := fun k hk => by rw [F2 k (by omega), f1 k (by omega) (by omega)]; exact F k hk
      have S2 : cr_S4 29 (tp σ tA) a2 := S.sub (fun k h1 h2 => by rw [F2 k (by omega), f1 k (by omega) (by omega)])
      have y29 : a2 29 1 = tp σ (tM i) 0 1 := by rw [F2 29 (by omega)]; exact S1.2.1
      have hE := T2.E
      simp only [nI_1]
      refine c_allComesOut (hi.E hE) ok1 y29 D2 (fun hs => ⟨fun h => absurd h (by decide), fun _ => ?_⟩) (fun hs => ⟨fun _ => ?_, fun h => absurd rfl h⟩)
      · rw [sn_E hE] at hs
        have := hK a2 ⟨T2, S2⟩
        rw [mt_or, if_pos hs] at this; exact this
      · rw [sn_E hE] at hs
        have := hK a2 ⟨T2, S2⟩
        rw [mt_or, if_neg (by rw [hs]; decide)] at this; exact this
  · rintro a K ⟨F, S⟩
    refine ⟨fun _ => hpost a F, fun hn => absurd ?_ hn⟩
    show a 5 3 ≤ nI (bs_ne σ)
    rw [F 5 (by omega), h53]; exact (nI_leI (by omega) (by omega)).mpr (Nat.le_refl _)
def mt_pv (p : bk_S) (r t v : Nat) : bk_S := bk_u p r t (nI v)
theorem mt_ok.pv3 {p : bk_S} (h : mt_ok p) {t v : Nat} (hv : 1 ≤ v ∧ v ≤ 9) : mt_ok (mt_pv p 3 t v) := by
  refine ⟨h.1, h.2.1, h.2.2.1, fun k hk => ?_⟩
  refine ⟨(h.2.2.2 k hk).1, ?_⟩
  unfold mt_pv
  rw [bk_u_at]
  by_cases q : k = t
  · rw [if_pos ⟨rfl, q⟩]; exact ⟨v, hv.1, hv.2, rfl⟩
  · rw [if_neg (by omega)]; exact (h.2.2.2 k hk).2
theorem mt_ok.pv2 {p : bk_S} (h : mt_ok p) {t v : Nat} (hv : v < 3) : mt_ok (mt_pv p 2 t v) := by
  refine ⟨h.1, h.2.1, h.2.2.1, fun k hk => ?_⟩
  refine ⟨?_, (h.2.2.2 k hk).2⟩
  unfold mt_pv
  rw [bk_u_at]
  by_cases q : k = t
  · rw [if_pos ⟨rfl, q⟩]
    match v, hv with
    | 0, _ => exact Or.inl rfl
    | 1, _ => exact Or.inr (Or.inl rfl)
    | 2, _ => exact Or.inr (Or.inr rfl)
  · rw [if_neg (by omega)]; exact (h.2.2.2 k hk).1
theorem cr_S.pv {r t v : Nat} {p a : bk_S} (hr : r = 2 ∨ r = 3) (h : cr_S 29 p (bk_u a (29 + r) t (p r t))) : cr_S 29 (mt_pv p r t v) (bk_u a (29 + r) t (nI v)) := by
  have z : ∀ k, k ≠ r → mt_pv p r t v k = p k := fun k hk => bk_u_row _ hk
  have z' : ∀ w k, k ≠ 29 + r → bk_u a (29 + r) t w k = a k := fun w k hk => bk_u_row _ hk
  have nh : mt_nh (mt_pv p r t v) = mt_nh p := by unfold mt_nh; rw [z 0 (by omega)]
  have nt : mt_nt (mt_pv p r t v) = mt_nt p := by unfold mt_nt; rw [z 0 (by omega)]
  obtain ⟨s1, s2, s3, s4, s5, s6, s7, s8⟩ := h
  have gen : ∀ j, (∀ t', t' < mt_nt p → bk_u a (29 + r) t (p r t) (29 + j) t' = p j t') → ∀ t', t' < mt_nt p → bk_u a (29 + r) t (nI v) (29 + j) t' = mt_pv p r t v j t' := by
    intro j hj t' ht'
    have := hj t' ht'
    unfold mt_pv
    rw [bk_u_at] at this ⊢
    rw [bk_u_at]
    by_cases q : j = r ∧ t' = t
    · rw [if_pos (by omega), if_pos q]
    · rw [if_neg (by omega)] at this
      rw [if_neg (by omega), if_neg q]; exact this
  refine ⟨?_, ?_, fun h hh => ?_, fun t' ht' => gen 2 s4 t' (by omega), fun t' ht' => gen 3 s5 t' (by omega), fun t' ht' => gen 4 s6 t' (by omega), fun e he => ?_, fun e he => ?_⟩
  · rw [z 0 (by omega), z' _ 29 (by omega)]; rw [z' _ 29 (by omega)] at s1; exact s1
  · rw [z 0 (by omega), z' _ 29 (by omega)]; rw [z' _ 29 (by omega)] at s2; exact s2
  · rw [z 1 (by omega), z' _ (29 + 1) (by omega)]; rw [z' _ (29 + 1) (by omega)] at s3; exact s3 h (by omega)
  · rw [z 5 (by omega), z' _ (29 + 5) (by omega)]; rw [z' _ (29 + 5) (by omega)] at s7; exact s7 e he
  · rw [z 6 (by omega), z' _ (29 + 6) (by omega)]; rw [z' _ (29 + 6) (by omega)] at s8; exact s8 e he
def mt_ss (σ p : bk_S) (t : Nat) : Int32 := mt_or (fun v => sn_s σ (mt_pv p 2 t v)) 3
theorem cr_S.keep {r t : Nat} {p a a' : bk_S} {w : Int32} (h : cr_S 29 p (bk_u a (29 + r) t w)) (f : ∀ k, 29 ≤ k → k ≤ 35 → ∀ j, ¬ (k = 29 + r ∧ j = t) → a' k j = a k j) : cr_S 29 p (bk_u a' (29 + r) t w) := by
  refine h.sub (fun k h1 h2 => ?_)
  funext j
  rw [bk_u_at, bk_u_at]
  by_cases q : k = 29 + r ∧ j = t
  · rw [if_pos q, if_pos q]
  · rw [if_neg q, if_neg q]; exact f k h1 h2 j q
theorem c_sortsThatFit {t : Nat} {σ p : bk_S} {post : Int32 → bk_S → Prop} (hi : ib σ) (hp : mt_ok p) (ht : t < mt_nt p) (hS : cr_S 22 p σ) (hpost : ∀ σ', tf_F σ σ' → (∀ k, 60 ≤ k → σ' k = σ k) → post (mt_ss σ p t) σ') : w_X8_sortsThatFit (nI t) σ post := by
  have hnt := hp.nt.2
  unfold w_X8_sortsThatFit
  refine c_copyFrom hp hS (fun σ1 F1 S1 => ?_)
  simp only [bk_lt_iff, nI_clamp (show t < 2 ^ 31 by omega)]
  have hvt : vp_in (nI t) 8 := (pz_in (by omega)).mpr (by omega)
  unfold mt_ss at hpost
  refine bk_loop_up 3 (fun v (a : bk_S) => (mt_or (fun v => sn_s σ (mt_pv p 2 t v)) v, nI v, a)) (fun v a => tf_F σ a ∧ cr_S 29 p (bk_u a (29 + 2) t (p 2 t)) ∧ ∀ k, 60 ≤ k → a k = σ k) (i0 := 0) (b0 := σ1) rfl (Nat.zero_le _) ⟨F1.t, by rw [← S1.2.2.2.1 t ht, bk_u_self]; exact S1, fun k hk => F1 k (by omega)⟩ ?_ ?_
  · rintro v a K hv ⟨F, S, H⟩ hK
    have ok' := hp.pv2 (t := t) hv
    refine ⟨fun hle => absurd ((nI_leI (a := 3) (by omega) (by omega)).mp hle) (by omega), fun _ => ⟨hvt, ?_⟩⟩
    show w_X1_run 48 29 (bk_u a (29 + 2) t (nI v)) _
    have S' : cr_S 29 (mt_pv p 2 t v) (bk_u a (29 + 2) t (nI v)) := S.pv (Or.inl rfl)
    refine c_run ok' (by omega) S' (fun a2 F2 D2 => ?_)
    have T2 : tf_F σ a2 := (F.u (by omega)).tr F2.t
    have Sk : cr_S 29 p (bk_u a2 (29 + 2) t (p 2 t)) := S.keep (fun k h1 h2 j hq => by rw [F2 k (by omega), bk_u_at, if_neg hq])
    have y29 : a2 29 1 = mt_pv p 2 t v 0 1 := by rw [F2 29 (by omega)]; exact S'.2.1
    have hE := T2.E
    have H2 : ∀ k, 60 ≤ k → a2 k = σ k := fun k hk => by rw [F2 k (by omega), bk_u_row _ (by omega)]; exact H k hk
    simp only [nI_1]
    refine c_allComesOut (hi.E hE) ok' y29 D2 (fun hs => ⟨fun h => absurd h (by decide), fun _ => ?_⟩) (fun hs => ⟨fun _ => ?_, fun h => absurd rfl h⟩)
    · rw [sn_E hE] at hs
      have := hK a2 ⟨T2, Sk, H2⟩
      rw [mt_or, if_pos hs] at this; exact this
    · rw [sn_E hE] at hs
      have := hK a2 ⟨T2, Sk, H2⟩
      rw [mt_or, if_neg (by rw [hs]; decide)] at this; exact this
  · rintro a K ⟨F, S, H⟩
    exact ⟨fun _ => hpost a F H, fun hn => absurd (by show (3 : Int32) ≤ nI 3; decide) hn⟩
def mt_hb (σ p : bk_S) (t : Nat) : Int32 := mt_or (fun v => decide (1 ≤ v) && sn_s σ (mt_pv p 3 t v)) 10
def mt_hs (p : bk_S) (t v e : Nat) : Int32 := mt_cm (mt_ev (mt_pv p 3 t v) e 1) (mt_nt p)
theorem c_tryHeats {t : Nat} {σ p : bk_S} {post : bk_S → Prop} (hi : ib σ) (hp : mt_ok p) (ht : t < mt_nt p) (hS : cr_S 22 p σ) (hpost : ∀ σ', tf_F σ σ' → σ' 61 0 = mt_hb σ p t → (∀ v e, 1 ≤ v → v ≤ 9 → e < 12 → σ' 62 (v * 12 + e) = mt_hs p t v e) → post σ') : w_X8_tryHeats (nI t) σ post := by
  have hnt := hp.nt.2
  unfold w_X8_tryHeats
  refine c_copyFrom hp hS (fun σ1 F1 S1 => ?_)
  simp only [bk_lt_iff, nI_clamp (show t < 2 ^ 31 by omega)]
  have hvt : vp_in (nI t) 8 := (pz_in (by omega)).mpr (by omega)
  unfold mt_hb at hpost
  refine bk_loop_up 10 (fun v (a : bk_S) => (nI v, a)) (fun v a => 1 ≤ v ∧ tf_F σ a ∧ cr_S 29 p (bk_u a (29 + 3) t (p 3 t)) ∧ a 61 0 = mt_or (fun v => decide (1 ≤ v) && sn_s σ (mt_pv p 3 t v)) v ∧ (∀ v' e, 1 ≤ v' → v' < v → e < 12 → a 62 (v' * 12 + e) = mt_hs p t v' e)) (i0 := 1) (b0 := bk_u σ1 61 0 0) rfl (by omega) ⟨Nat.le_refl _, F1.t.u (by omega), ?_, ?_, fun v' e h1 h2 => by omega⟩ ?_ ?_
  · have : cr_S 29 p (bk_u σ1 (29 + 3) t (p 3 t)) := by rw [← S1.2.2.2.2.1 t ht, bk_u_self]; exact S1
    exact this.keep (fun k h1 h2 j _ => by rw [bk_u_row _ (by omega)])
  · rw [bk_u_same]; rfl
  · rintro v a K hv ⟨hv1, F, S, hb, hset⟩ hK
    have ok' := hp.pv3 (t := t) (show 1 ≤ v ∧ v ≤ 9 by omega)
    have e12 : ∀ e, nI v * 12 + nI e = nI (v * 12 + e) := fun e => by rw [pz_12, pz_mulr, nI_add]
    refine ⟨fun hlt => absurd ((nI_ltI (a := 9) (by omega) (by omega)).mp hlt) (by omega), fun _ => ⟨hvt, ?_⟩⟩
    show w_X1_run 48 29 (bk_u a (29 + 3) t (nI v)) _
    have S' : cr_S 29 (mt_pv p 3 t v) (bk_u a (29 + 3) t (nI v)) := S.pv (Or.inr rfl)
    refine c_run ok' (by omega) S' (fun a2 F2 D2 => ?_)
    have T2 : tf_F σ a2 := (F.u (by omega)).tr F2.t
    have Sk : cr_S 29 p (bk_u a2 (29 + 3) t (p 3 t)) := S.keep (fun k h1 h2 j hq => by rw [F2 k (by omega), bk_u_at, if_neg hq])
    have y29 : a2 29 1 = mt_pv p 3 t v 0 1 := by rw [F2 29 (by omega)]; exact S'.2.1
    have y61 : a2 61 0 = mt_or (fun v => decide (1 ≤ v) && sn_s σ (mt_pv p 3 t v)) v := by rw [F2 61 (by omega), bk_u_row _ (by omega)]; exact hb
    have hset2 : ∀ v' e, 1 ≤ v' → v' < v → e < 12 → a2 62 (v' * 12 + e) = mt_hs p t v' e := fun v' e h1 h2 h3 => by rw [F2 62 (by omega), bk_u_row _ (by omega)]; exact hset v' e h1 h2 h3
    have hE := T2.E
    have fin : ∀ a3, (∀ k, k ≠ 61 → a3 k = a2 k) → a3 61 0 = mt_or (fun v => decide (1 ≤ v) && sn_s σ (mt_pv p 3 t v)) (v + 1) → bk_loop (α := Int32 × bk_S) (fun K13 a14 => ((12 : Int32) ≤ a14.1 → K (nI v + 1, a14.2)) ∧ (¬ (12 : Int32) ≤ a14.1 → (w_X1_settledBehind 48 a14.1 a14.2 (fun r16 => vp_in ((nI v * (12 : Int32)) + a14.1) 120 ∧ K13 (a14.1 + (1 : Int32), bk_u a14.2 (61 + 1) (Int32.toNatClampNeg ((nI v * (12 : Int32)) + a14.1)) r16))))) (0, a3) := by
      intro a3 r3 h61
      refine bk_loop_up 12 (fun e (x : bk_S) => (nI e, x)) (fun e x => (∀ k, k ≠ 62 → x k = a3 k) ∧ (∀ v' e', 1 ≤ v' → (v' < v ∧ e' < 12) ∨ (v' = v ∧ e' < e) → x 62 (v' * 12 + e') = mt_hs p t v' e')) (i0 := 0) (b0 := a3) rfl (Nat.zero_le _) ⟨fun _ _ => rfl, fun v' e' h1 h2 => by rw [r3 62 (by omega)]; exact hset2 v' e' h1 (by omega) (by omega)⟩ ?_ ?_
      · rintro e x K3 he ⟨rx, hx⟩ hK3
        refine ⟨fun hle => absurd ((nI_leI (a := 12) (by omega) (by omega)).mp hle) (by omega), fun _ => ?_⟩
        refine c_settledBehind (p := mt_pv p 3 t v) ok' he (fun t' ht' => ?_) ?_
        · show x (48 + 2) t' = _
          rw [rx _ (by omega), r3 _ (by omega)]; exact D2.2.2.2.2.2.2.2.1 t' ht'
        · simp only [e12, nI_1, nI_clamp (show v * 12 + e < 2 ^ 31 by omega)]
          refine ⟨(pz_in (by omega)).mpr (by omega), hK3 _ ⟨fun k hk => ?_, fun v' e' h1 h2 => ?_⟩⟩
          · rw [bk_u_row _ (by omega)]; exact rx k hk
          · rw [bk_u_at]
            by_cases q : v' = v ∧ e' = e
            · obtain ⟨rfl, rfl⟩ := q; rw [if_pos ⟨rfl, rfl⟩]; rfl
            · rw [if_neg (by omega)]; exact hx v' e' h1 (by omega)
      · rintro x K3 ⟨rx, hx⟩
        refine ⟨fun _ => ?_, fun hn => absurd (by show (12 : Int32) ≤ nI 12; decide) hn⟩
        rw [nI_1]
        refine hK x ⟨by omega, fun k hk => ?_, ?_, ?_, fun v' e' h1 h2 h3 => hx v' e' h1 (by omega)⟩
        · rw [rx k (by omega), r3 k (by omega)]; exact T2 k hk
        · exact Sk.keep (fun k h1 h2 j _ => by rw [rx k (by omega), r3 k (by omega)])
        · rw [rx 61 (by omega)]; exact h61
    refine c_allComesOut (hi.E hE) ok' y29 D2 (fun hs => ?_) (fun hs => ?_)
    · rw [sn_E hE] at hs
      rw [if_neg (by decide)]
      refine fin _ (fun k hk => bk_u_row _ hk) ?_
      rw [bk_u_same, y61, mt_or, if_pos (by rw [hs]; simp [hv1])]
    · rw [sn_E hE] at hs
      rw [if_pos rfl]
      refine fin _ (fun k hk => rfl) ?_
      rw [y61, mt_or, if_neg (by rw [hs]; simp)]
  · rintro a K ⟨_, F, S, hb, hset⟩
    exact ⟨fun _ => hpost a F hb (fun v e h1 h2 h3 => hset v e h1 (by omega) h3), fun hn => absurd (by show (9 : Int32) < nI 10; decide) hn⟩
