/-! Events; a setting copied; what stays once it is settled; what a course answers. -/
def te_l (k a n : Nat → Int32) (wh : Nat → Bool) (e : Nat) : Nat → Int32
  | 0 => 0
  | i + 1 => if wh i = true ∧ a i = nI e ∧ ¬ (k i = 0 ∨ k i = 1) then te_l k a n wh e i ||| ((1 : Int32) <<< (n i &&& 31)) else te_l k a n wh e i
def te_s (k a : Nat → Int32) (wh : Nat → Bool) (e : Nat) : Nat → Int32
  | 0 => 0
  | i + 1 => if wh i = true ∧ a i = nI e ∧ (k i = 0 ∨ k i = 1) then te_s k a wh e i ||| ((1 : Int32) <<< (k i &&& 31)) else te_s k a wh e i
theorem c_takeEvents {s b ne : Nat} {x : Int32} {σ : bk_S} {post : bk_S → Prop} (hbs : b + 3 < s) (hne : ne ≤ 8) (h3 : σ b 3 = nI ne) (hev : ∀ i, i < ne → ∃ e, e < 12 ∧ σ (b + 2) i = nI e) (hpost : ∀ σ', (∀ k, k ≠ s + 5 → k ≠ s + 6 → σ' k = σ k) → (∀ e, e < 12 → σ' (s + 5) e = te_l (σ (b + 1)) (σ (b + 2)) (σ (b + 3)) (mt_b x) e ne ∧ σ' (s + 6) e = te_s (σ (b + 1)) (σ (b + 2)) (mt_b x) e ne) → post σ') : w_X4_takeEvents s b x σ post := by
  unfold w_X4_takeEvents
  refine c_fill (by decide) (c_fill (by decide) ?_)
  simp only [bk_lt_iff]
  refine bk_loop_up ne (fun i (a : bk_S) => (nI i, a)) (fun i a => (∀ k, k ≠ s + 5 → k ≠ s + 6 → a k = σ k) ∧ (∀ e, e < 12 → a (s + 5) e = te_l (σ (b + 1)) (σ (b + 2)) (σ (b + 3)) (mt_b x) e i ∧ a (s + 6) e = te_s (σ (b + 1)) (σ (b + 2)) (mt_b x) e i)) (i0 := 0) (b0 := _) rfl (Nat.zero_le _) ⟨fun k h1 h2 => ?_, fun e he => ⟨?_, ?_⟩⟩ ?_ ?_
  · rw [bk_w_n _ _ h2, bk_w_n _ _ h1]
  · rw [bk_w_n _ _ (by omega), bk_w_s]; simp [he, te_l]
  · rw [bk_w_s]; simp [he, te_s]
  · rintro i a K hi ⟨q1, q2⟩ hK
    have hv : vp_in (nI i) 8 := (pz_in (by omega)).mpr (by omega)
    have r0 : a b = σ b := q1 b (by omega) (by omega)
    have r1 : a (b + 1) = σ (b + 1) := q1 _ (by omega) (by omega)
    have r2 : a (b + 2) = σ (b + 2) := q1 _ (by omega) (by omega)
    have r3 : a (b + 3) = σ (b + 3) := q1 _ (by omega) (by omega)
    simp only [nI_1, nI_clamp (show i < 2 ^ 31 by omega), r0, r1, r2, r3, h3, mt_b_1]
    refine ⟨fun hle => absurd ((nI_leI (by omega) (by omega)).mp hle) (by omega), fun _ => ⟨fun hb => hK a ⟨q1, fun e he => ?_⟩, fun hb => ⟨hv, hv, hv, ?_⟩⟩⟩
    · rw [te_l, te_s, if_neg (fun h => hb h.1), if_neg (fun h => hb h.1)]; exact q2 e he
    · obtain ⟨e0, he0, hE⟩ := hev i hi
      have hv12 : vp_in (nI e0) 12 := (pz_in (by omega)).mpr he0
      have ce : (nI e0).toNatClampNeg = e0 := nI_clamp (by omega)
      unfold w_X4_takeEvent
      simp only [bk_lt_iff, bk_jn_iff]
      rw [hE, ce]
      have hne : ∀ e, e < 12 → (nI e0 = nI e ↔ e0 = e) := fun e he => nI_eq (by omega) (by omega)
      have sil : (σ (b + 1) i = 0 ∨ σ (b + 1) i = 1) → K (nI (i + 1), bk_u a (s + 6) e0 (a (s + 6) e0 ||| (1 : Int32) <<< (σ (b + 1) i &&& 31))) := by
        intro hk
        refine hK _ ⟨fun k h1 h2 => ?_, fun e he => ⟨?_, ?_⟩⟩
        · rw [bk_u_row _ h2]; exact q1 k h1 h2
        · rw [bk_u_row _ (by omega), te_l, if_neg (fun h => h.2.2 hk)]; exact (q2 e he).1
        · rw [te_s, bk_u_at]
          by_cases hee : e0 = e
          · subst hee
            rw [if_pos ⟨rfl, rfl⟩, if_pos ⟨hb, hE, hk⟩, (q2 e0 he0).2]
          · rw [if_neg (by omega), if_neg (fun h => hee ((hne e he).mp (hE ▸ h.2.1)))]; exact (q2 e he).2
      refine ⟨fun k0 => ⟨hv12, hv12, sil (Or.inl k0)⟩, fun k0 => ⟨fun k1 => ⟨hv12, hv12, ?_⟩, fun k1 => ⟨hv12, hv12, sil (Or.inr k1)⟩⟩⟩
      refine hK _ ⟨fun k h1 h2 => ?_, fun e he => ⟨?_, ?_⟩⟩
      · rw [bk_u_row _ h1]; exact q1 k h1 h2
      · rw [te_l, bk_u_at]
        by_cases hee : e0 = e
        · subst hee
          rw [if_pos ⟨rfl, rfl⟩, if_pos ⟨hb, hE, fun h => h.elim k0 k1⟩, (q2 e0 he0).1]
        · rw [if_neg (by omega), if_neg (fun h => hee ((hne e he).mp (hE ▸ h.2.1)))]; exact (q2 e he).1
      · rw [bk_u_row _ (by omega), te_s, if_neg (fun h => h.2.2.elim k0 k1)]; exact (q2 e he).2
  · rintro a K ⟨q1, q2⟩
    refine ⟨fun _ => hpost a q1 q2, fun hn => absurd ?_ hn⟩
    show a b 3 ≤ nI ne
    rw [q1 b (by omega) (by omega), h3]; exact (nI_leI (by omega) (by omega)).mpr (Nat.le_refl _)
theorem c_copyFrom {p σ : bk_S} {post : bk_S → Prop} (hp : mt_ok p) (hS : cr_S 22 p σ) (hpost : ∀ σ', sf_F 29 σ σ' → cr_S 29 p σ' → post σ') : w_X4_copyFrom 29 22 σ post := by
  unfold w_X4_copyFrom
  simp only [bk_lt_iff, pz_clamp0, pz_clamp8, pz_clamp12]
  refine ⟨by decide, by decide, by decide, by decide, by decide, by decide, hpost _ ?_ ?_⟩
  · exact ((((((((sf_F.rf 29 σ).u (by omega)).u (by omega)).w (by omega)).w (by omega)).w (by omega)).w (by omega)).w (by omega)).w (by omega)
  · obtain ⟨h1, h2, h3, h4, h5, h6, h7, h8⟩ := hS
    have hnh := hp.nh.2
    have hnt := hp.nt.2
    unfold cr_S
    refine ⟨?_, ?_, fun h hh => ?_, fun t ht => ?_, fun t ht => ?_, fun t ht => ?_, fun e he => ?_, fun e he => ?_⟩
    · simpa [bk_w_at, bk_u_at] using h1
    · simpa [bk_w_at, bk_u_at] using h2
    · have := h3 h hh; simpa [bk_w_at, bk_u_at, va_cpy_at, show h < 12 by omega] using this
    · have := h4 t ht; simpa [bk_w_at, bk_u_at, va_cpy_at, show t < 8 by omega] using this
    · have := h5 t ht; simpa [bk_w_at, bk_u_at, va_cpy_at, show t < 8 by omega] using this
    · have := h6 t ht; simpa [bk_w_at, bk_u_at, va_cpy_at, show t < 8 by omega] using this
    · have := h7 e he; simpa [bk_w_at, bk_u_at, va_cpy_at, he] using this
    · have := h8 e he; simpa [bk_w_at, bk_u_at, va_cpy_at, he] using this
/-- what is settled in evening e stays; said minutes of what isn't there stay none -/
def mt_M (p : bk_S) (e : Nat) (G G' : bk_S) : Prop := (∀ t, G' 1 t = G 1 t ∨ (t < mt_nt p ∧ G 1 t = -1 ∧ G' 1 t = nI e)) ∧ ∀ t, mt_nt p ≤ t → G' 3 t = G 3 t
theorem mt_M.rf (p : bk_S) (e : Nat) (G : bk_S) : mt_M p e G G := ⟨fun _ => Or.inl rfl, fun _ _ => rfl⟩
theorem mt_M.tr {p : bk_S} {e : Nat} {a b c : bk_S} (he : e < 12) (h : mt_M p e a b) (h' : mt_M p e b c) : mt_M p e a c := by
  refine ⟨fun t => ?_, fun t ht => (h'.2 t ht).trans (h.2 t ht)⟩
  rcases h.1 t with q | ⟨q1, q2, q3⟩
  · rcases h'.1 t with r | ⟨r1, r2, r3⟩
    · exact Or.inl (r.trans q)
    · exact Or.inr ⟨r1, q ▸ r2, r3⟩
  · rcases h'.1 t with r | ⟨r1, r2, r3⟩
    · exact Or.inr ⟨q1, q2, r.trans q3⟩
    · rw [q3] at r2; exact absurd r2 (pz_ne_m1 (by omega))
theorem mt_M.mn {p : bk_S} (hp : mt_ok p) {e h : Nat} {last : Bool} (G : bk_S) : mt_M p e G (mt_mn p e h last G) := by
  have hnt := hp.nt.2
  unfold mt_mn
  have spec := mt_ch_spec p (G 1) (nI h) hnt
  generalize mt_ch p (G 1) (nI h) = r at *
  have m1 : ∀ q, q ≠ 5 → q ≠ 4 → mt_m1 h r G q = G q := fun q h5 h4 => by unfold mt_m1; rw [bk_u_row _ h4, bk_u_row _ h5]
  rcases spec with ⟨j, a1, rfl, a3⟩ | ⟨rfl, -⟩ | ⟨rfl, -⟩
  · have n8 : ¬ nI j = 8 := fun h => by have := (nI_eq (a := j) (b := 8) (by omega) (by omega)).mp h; omega
    have n9 : ¬ nI j = 9 := fun h => by have := (nI_eq (a := j) (b := 9) (by omega) (by omega)).mp h; omega
    unfold mt_m2
    rw [if_neg n8, if_neg n9, nI_clamp (by omega)]
    unfold mt_sy
    split
    · refine ⟨fun t => ?_, fun t ht => ?_⟩
      · rw [bk_u_row _ (by omega), bk_u_at]
        by_cases htj : t = j
        · subst htj; rw [if_pos ⟨rfl, rfl⟩]; exact Or.inr ⟨a1, a3, rfl⟩
        · rw [if_neg (by omega), bk_u_row _ (by omega), bk_u_row _ (by omega), bk_u_row _ (by omega), m1 1 (by omega) (by omega)]; exact Or.inl rfl
      · rw [bk_u_row _ (by omega), bk_u_row _ (by omega), bk_u_row _ (by omega), bk_u_row _ (by omega), bk_u_at, if_neg (by omega), m1 3 (by omega) (by omega)]
    · refine ⟨fun t => ?_, fun t ht => ?_⟩
      · rw [bk_u_row _ (by omega), bk_u_row _ (by omega), bk_u_row _ (by omega), m1 1 (by omega) (by omega)]; exact Or.inl rfl
      · rw [bk_u_row _ (by omega), bk_u_row _ (by omega), bk_u_at, if_neg (by omega), m1 3 (by omega) (by omega)]
  · unfold mt_m2; rw [if_pos rfl]
    exact ⟨fun t => Or.inl (by rw [bk_u_row _ (by omega), m1 1 (by omega) (by omega)]), fun t _ => by rw [bk_u_row _ (by omega), m1 3 (by omega) (by omega)]⟩
  · unfold mt_m2; rw [if_neg (by decide), if_pos rfl]
    exact ⟨fun t => Or.inl (by rw [bk_u_row _ (by omega), m1 1 (by omega) (by omega)]), fun t _ => by rw [bk_u_row _ (by omega), m1 3 (by omega) (by omega)]⟩
theorem mt_M.it {p : bk_S} (hp : mt_ok p) {e h : Nat} {last : Bool} (he : e < 12) (G : bk_S) : ∀ n, mt_M p e G (mt_it (mt_mn p e h last) n G)
  | 0 => mt_M.rf p e G
  | n + 1 => (mt_M.it hp he G n).tr he (mt_M.mn hp _)
theorem mt_M.ds {p : bk_S} (hp : mt_ok p) {e : Nat} {lf : Bool} (he : e < 12) (G : bk_S) : ∀ n, mt_M p e G (mt_ds p e lf n G)
  | 0 => mt_M.rf p e G
  | n + 1 => by
    unfold mt_ds mt_hk
    split
    · exact (mt_M.ds hp he G n).tr he (mt_M.it hp he _ _)
    · exact mt_M.ds hp he G n
theorem mt_M.fr {p : bk_S} {e : Nat} (G : bk_S) : mt_M p e G (mt_fr p e G) := by
  unfold mt_fr
  split
  · exact mt_M.rf p e G
  · unfold mt_hu; exact ⟨fun t => Or.inl (by rw [bk_w_n _ _ (by omega)]), fun t _ => by rw [bk_w_n _ _ (by omega)]⟩
theorem mt_M.en {p : bk_S} (hp : mt_ok p) {e : Nat} (he : e < 12) (G : bk_S) : mt_M p e (mt_rs G) (mt_en p e G) := by
  unfold mt_en mt_dd
  split
  · exact ((mt_M.fr _).tr he (mt_M.ds hp he _ _)).tr he (mt_M.ds hp he _ _)
  · exact mt_M.fr _
theorem mt_ev_3 {p : bk_S} (hp : mt_ok p) {e t : Nat} (he : e < 12) (ht : mt_nt p ≤ t) : mt_ev p e 3 t = 0 := by
  have := (mt_M.en hp he (mt_st p e)).2 t ht
  rw [show mt_ev p e = mt_en p e (mt_st p e) from rfl, this]
  unfold mt_rs; rw [bk_w_n _ _ (by omega), bk_w_n _ _ (by omega), bk_w_s]
theorem mt_ev_step {p : bk_S} (hp : mt_ok p) {e : Nat} (he : e < 12) (t : Nat) : mt_ev p e 1 t = mt_st p e 1 t ∨ (t < mt_nt p ∧ mt_st p e 1 t = -1 ∧ mt_ev p e 1 t = nI e) := by
  have := (mt_M.en hp he (mt_st p e)).1 t
  rwa [mt_rs_lo _ (by omega)] at this
theorem mt_st_succ (p : bk_S) (e t : Nat) : mt_st p (e + 1) 1 t = mt_ev p e 1 t := by
  show mt_hu (mt_nt p) (mt_ev p e) 1 t = _
  unfold mt_hu; rw [bk_w_n _ _ (by omega)]
theorem mt_ev_in {p : bk_S} (hp : mt_ok p) (t : Nat) : ∀ e, e < 12 → mt_ev p e 1 t = -1 ∨ (t < mt_nt p ∧ ∃ d, d ≤ e ∧ mt_ev p e 1 t = nI d)
  | 0, he => by
    rcases mt_ev_step hp he t with h | ⟨h1, h2, h3⟩
    · exact Or.inl (h.trans rfl)
    · exact Or.inr ⟨h1, 0, Nat.le_refl _, h3⟩
  | e + 1, he => by
    rcases mt_ev_step hp he t with h | ⟨h1, h2, h3⟩
    · rw [mt_st_succ] at h
      rcases mt_ev_in hp t e (by omega) with q | ⟨q1, d, q2, q3⟩
      · exact Or.inl (h.trans q)
      · exact Or.inr ⟨q1, d, by omega, h.trans q3⟩
    · exact Or.inr ⟨h1, e + 1, Nat.le_refl _, h3⟩
theorem mt_ev_later {p : bk_S} (hp : mt_ok p) {e t : Nat} : ∀ k, e + k < 12 → mt_ev p (e + k) 1 t = mt_ev p e 1 t ∨ (mt_ev p e 1 t = -1 ∧ ∃ d, e < d ∧ d ≤ e + k ∧ mt_ev p (e + k) 1 t = nI d)
  | 0, _ => Or.inl rfl
  | k + 1, h => by
    have hs := mt_ev_step hp (e := e + k + 1) h t
    rw [mt_st_succ] at hs
    rw [show e + (k + 1) = e + k + 1 from rfl]
    rcases mt_ev_later (e := e) (t := t) hp k (by omega) with q | ⟨q1, d, q2, q3, q4⟩
    · rcases hs with s | ⟨s1, s2, s3⟩
      · exact Or.inl (s.trans q)
      · exact Or.inr ⟨q ▸ s2, e + k + 1, by omega, by omega, s3⟩
    · rcases hs with s | ⟨s1, s2, s3⟩
      · exact Or.inr ⟨q1, d, q2, by omega, s.trans q4⟩
      · rw [q4] at s2; exact absurd s2 (pz_ne_m1 (by omega))
theorem mt_ev_by {p : bk_S} (hp : mt_ok p) {e t : Nat} (he : e < 12) : (¬ mt_ev p 11 1 t = -1 ∧ ¬ nI e < mt_ev p 11 1 t) ↔ ¬ mt_ev p e 1 t = -1 := by
  have h := mt_ev_later hp (t := t) (11 - e) (show e + (11 - e) < 12 by omega)
  rw [show e + (11 - e) = 11 by omega] at h
  rcases h with h | ⟨h1, d, h2, h3, h4⟩
  · rw [h]
    constructor
    · exact fun q => q.1
    · intro q
      refine ⟨q, ?_⟩
      rcases mt_ev_in hp t e he with r | ⟨_, d, r1, r2⟩
      · exact absurd r q
      · rw [r2]; exact nI_nlt (by omega) (by omega)
  · constructor
    · intro q; rw [h4] at q; exact absurd (nI_lt h2 (by omega)) q.2
    · intro q; exact absurd h1 q
theorem mt_cm_ext {se : Nat → Int32} {n : Nat} : ∀ m, n ≤ m → (∀ t, n ≤ t → t < m → se t = -1) → mt_cm se m = mt_cm se n
  | 0, h, _ => by rw [show n = 0 by omega]
  | m + 1, h, hs => by
    rcases Nat.lt_or_ge n (m + 1) with h1 | h1
    · rw [mt_cm, if_pos (hs m (by omega) (by omega)), mt_cm_ext m (by omega) (fun t h2 h3 => hs t h2 (by omega))]; simp
    · rw [show n = m + 1 by omega]
theorem mt_cm_congr {se se' : Nat → Int32} : ∀ n, (∀ t, t < n → (se t = -1 ↔ se' t = -1)) → mt_cm se n = mt_cm se' n
  | 0, _ => rfl
  | n + 1, h => by
    rw [mt_cm, mt_cm, mt_cm_congr n (fun t ht => h t (by omega))]
    have := h n (by omega)
    by_cases q : se n = -1
    · rw [if_pos q, if_pos (this.mp q)]
    · rw [if_neg q, if_neg (fun h => q (this.mpr h))]
theorem mt_b_cm (se : Nat → Int32) {k : Nat} (hk : k < 32) : ∀ n, n ≤ 8 → mt_b (mt_cm se n) k = (decide (k < n) && !decide (se k = -1))
  | 0, _ => by rw [mt_cm, mt_b_zero hk]; simp
  | n + 1, hn => by
    rw [mt_cm, mt_b_or _ _ hk, mt_b_cm se hk n (by omega)]
    by_cases q : se n = -1
    · rw [if_pos q, mt_b_zero hk]
      by_cases h : k = n
      · subst h; simp [q]
      · simp [show (k < n + 1 ↔ k < n) by omega]
    · rw [if_neg q, mt_b_shl hk (by omega)]
      by_cases h : k = n
      · subst h; simp [q]
      · simp [h, show (k < n + 1 ↔ k < n) by omega]
theorem mt_cm_full (se : Nat → Int32) {n : Nat} (hn : n ≤ 8) : mt_cm se n = ((1 : Int32) <<< (nI n &&& 31)) - 1 ↔ mt_cs se n = n := by
  rw [mt_cs_all]
  constructor
  · intro h t ht
    have := mt_b_cm se (show t < 32 by omega) n hn
    rw [h, mt_b_ones (by omega) (by omega)] at this
    simpa [ht] using this
  · intro h
    refine mt_b_ext fun k hk => ?_
    rw [mt_b_cm se hk n hn, mt_b_ones (by omega) hk]
    by_cases hkn : k < n
    · simp [hkn, h k hkn]
    · simp [hkn]
theorem c_settledBehind {b e : Nat} {p σ : bk_S} {post : Int32 → Prop} (hp : mt_ok p) (he : e < 12) (hs : ∀ t, t < 8 → σ (b + 2) t = mt_ev p 11 1 t) (h : post (mt_cm (mt_ev p e 1) (mt_nt p))) : w_X1_settledBehind b (nI e) σ post := by
  have hnt := hp.nt.2
  rw [← mt_cm_ext 8 hnt (fun t h1 _ => (mt_ev_in hp t e he).resolve_right (fun q => by omega))] at h
  unfold w_X1_settledBehind
  simp only [bk_lt_iff]
  refine bk_loop_up 8 (fun i (_ : Unit) => (mt_cm (mt_ev p e 1) i, nI i)) (fun _ _ => True) (i0 := 0) (b0 := ()) rfl (Nat.zero_le _) trivial ?_ ?_
  · intro i _ K hi _ hK
    have hK := hK () trivial
    rw [mt_cm] at hK
    have hv : vp_in (nI i) 8 := (pz_in (by omega)).mpr hi
    have hby := mt_ev_by hp (t := i) he
    simp only [nI_1, nI_clamp (show i < 2 ^ 31 by omega), hs i hi]
    refine ⟨fun hle => absurd ((nI_leI (a := 8) (by omega) (by omega)).mp hle) (by omega), fun _ => ⟨hv, fun h1 => ?_, fun h1 => ⟨hv, fun h2 => ?_, fun h2 => ?_⟩⟩⟩
    · rw [if_pos (Decidable.byContradiction fun q => (hby.mpr q).1 h1)] at hK; simpa using hK
    · rw [if_pos (Decidable.byContradiction fun q => (hby.mpr q).2 h2)] at hK; simpa using hK
    · rw [if_neg (hby.mp ⟨h1, h2⟩)] at hK; exact hK
  · intro _ K _
    exact ⟨fun _ => h, fun hn => absurd (by show (8 : Int32) ≤ nI 8; decide) hn⟩
