/-! Hooks, an evening, a whole course of the class. -/
theorem bk_lt_iff {α : Type} (a : α) (f : α → Prop) : bk_lt a f ↔ f a := ⟨fun h => h, fun h => h⟩
theorem bk_jn_iff {α : Type} (rest : α → Prop) (F : (α → Prop) → Prop) : bk_jn rest F ↔ F rest := ⟨fun h => h, fun h => h⟩
theorem mt_l2_any {L : Int32} {x y : Int32} : ∀ n, (∃ k, k < n ∧ mt_b L k = true) → mt_l2 L x n = mt_l2 L y n
  | 0, ⟨_, h, _⟩ => absurd h (Nat.not_lt_zero _)
  | n + 1, ⟨k, hk, hb⟩ => by
    unfold mt_l2
    by_cases h : mt_b L n = true
    · rw [if_pos h, if_pos h]
    · rw [if_neg h, if_neg h]
      refine mt_l2_any n ⟨k, ?_, hb⟩
      rcases Nat.lt_or_ge k n with h1 | h1
      · exact h1
      · obtain rfl : k = n := by omega
        exact absurd hb h
theorem mt_l2_none {L : Int32} {x : Int32} : ∀ n, (∀ k, k < n → mt_b L k = false) → mt_l2 L x n = x
  | 0, _ => rfl
  | n + 1, h => by unfold mt_l2; rw [if_neg (by rw [h n (by omega)]; decide), mt_l2_none n (fun k hk => h k (by omega))]
theorem c_lastHookDone {s e : Nat} {v : Int32} {p σ : bk_S} {post : Int32 → Prop} (hp : mt_ok p) (hS : cr_S s p σ) (hv : ∀ k, k < mt_nh p → mt_b v k = mt_b (p 5 e) k) (hz : v = 0 ↔ ∀ k, k < mt_nh p → mt_b (p 5 e) k = false) (hpost : post (mt_lh p e)) : w_X1_lastHookDone s v σ post := by
  unfold w_X1_lastHookDone
  simp only [bk_lt_iff, bk_jn_iff]
  have hnh := hp.nh
  rw [hS.1, hnh.1]
  refine bk_loop_up (mt_nh p) (fun k (_ : Unit) => (if v = 0 then mt_l1 p (p 5 e) k else mt_l2 (p 5 e) (-1) k, nI k)) (fun _ _ => True) (i0 := 0) (b0 := ()) (by simp only [mt_l1, mt_l2, ite_self]; rfl) (Nat.zero_le _) trivial ?_ ?_
  · intro k _ K hk _ hK
    have hK := hK () trivial
    refine ⟨fun hle => absurd ((nI_leI (by omega) (by omega)).mp hle) (by omega), fun _ => ?_⟩
    have hin : vp_in (nI k) 12 := (pz_in (by omega)).mpr (by omega)
    simp only [nI_1, nI_clamp (show k < 2 ^ 31 by omega), hS.2.2.1 k hk, mt_b_1, hv k hk]
    refine ⟨fun e0 => ?_, fun n0 => ?_⟩
    · rw [if_pos e0, mt_l1] at hK
      rw [if_pos e0]
      have hb := hz.mp e0 k hk
      refine ⟨hin, fun hle => ⟨fun _ => ?_, fun h => absurd trivial h⟩, fun hle => ⟨fun h => absurd h (by decide), fun _ => ?_⟩⟩
      · rwa [if_neg (fun h => absurd h.2 (Int32.not_lt.mpr hle))] at hK
      · rwa [if_pos ⟨hb, Int32.not_le.mp hle⟩] at hK
    · rw [if_neg n0, mt_l2] at hK
      rw [if_neg n0]
      refine ⟨fun hb => ⟨fun _ => ?_, fun h => absurd trivial h⟩, fun hb => ⟨fun h => absurd h (by decide), fun _ => ?_⟩⟩
      · rwa [if_neg hb] at hK
      · rwa [if_pos hb] at hK
  · intro _ K _
    refine ⟨fun _ => ?_, fun hn => absurd ((nI_leI (by omega) (by omega)).mpr (Nat.le_refl _)) hn⟩
    show post (if v = 0 then mt_l1 p (p 5 e) (mt_nh p) else mt_l2 (p 5 e) (-1) (mt_nh p))
    unfold mt_lh at hpost
    by_cases e0 : v = 0
    · rw [if_pos e0]
      rwa [mt_l2_none _ (hz.mp e0)] at hpost
    · rw [if_neg e0]
      have : ∃ k, k < mt_nh p ∧ mt_b (p 5 e) k = true := by
        apply Classical.byContradiction
        intro hc
        refine e0 (hz.mpr fun k hk => ?_)
        cases hb : mt_b (p 5 e) k with
        | false => rfl
        | true => exact absurd ⟨k, hk, hb⟩ hc
      rwa [mt_l2_any _ this] at hpost
theorem mt_gk.it {p G : bk_S} (hp : mt_ok p) (hg : mt_gk p G) {e h : Nat} {last : Bool} (he : e < 12) : ∀ n, mt_gk p (mt_it (mt_mn p e h last) n G)
  | 0 => hg
  | n + 1 => (mt_gk.it hp hg he n).mn hp he
theorem mt_gk.ds {p G : bk_S} (hp : mt_ok p) (hg : mt_gk p G) {e : Nat} {lf : Bool} (he : e < 12) : ∀ n, mt_gk p (mt_ds p e lf n G)
  | 0 => hg
  | n + 1 => by
    unfold mt_ds mt_hk
    split
    · exact mt_gk.it hp (mt_gk.ds hp hg he n) he _
    · exact mt_gk.ds hp hg he n
theorem c_doHookx {c s e h tk : Nat} {last : Bool} {x5 : Int32} {p G σ : bk_S} {post : bk_S → Prop} (h5 : x5 = if last = true then 1 else 0) (hp : mt_ok p) (hsc : s + 6 < c) (he : e < 12) (hh : h < 12) (htk : tk ≤ 3) (hS : cr_S s p σ) (hR : cr_R c e p G σ) (hg : mt_gk p G)
    (hpost : ∀ σ', cr_F c σ σ' → cr_R c e p (mt_it (mt_mn p e h last) tk G) σ' → mt_gk p (mt_it (mt_mn p e h last) tk G) → post σ') : w_X1_doHook c s (nI e) (nI h) (nI tk) x5 σ post := by
  subst h5; exact c_doHook hp hsc he hh htk hS hR hg hpost
theorem c_doHooks {c s e : Nat} {p G σ : bk_S} {post : bk_S → Prop} (hp : mt_ok p) (hsc : s + 6 < c) (he : e < 12) (hS : cr_S s p σ) (hR : cr_R c e p G σ) (hg : mt_gk p G)
    (hpost : ∀ σ', cr_F c σ σ' → cr_R c e p (mt_ds p e true (mt_nh p) (mt_ds p e false (mt_nh p) G)) σ' → post σ') : w_X1_doHooks c s (nI e) σ post := by
  unfold w_X1_doHooks
  simp only [bk_lt_iff]
  have hnh := hp.nh
  have hv12 : vp_in (nI e) 12 := (pz_in (by omega)).mpr he
  have ce : (nI e).toNatClampNeg = e := nI_clamp (by omega)
  refine ⟨hv12, ?_⟩
  rw [ce, hS.2.2.2.2.2.2.1 e he, hS.1, hnh.1]
  have hv : ∀ k, k < 32 → mt_b (p 5 e &&& ((1 : Int32) <<< (nI (mt_nh p) &&& 31) - 1)) k = (mt_b (p 5 e) k && decide (k < mt_nh p)) := fun k hk => by rw [mt_b_and _ _ hk, mt_b_ones hnh.2 hk]
  generalize p 5 e &&& ((1 : Int32) <<< (nI (mt_nh p) &&& 31) - 1) = v at *
  have hvk : ∀ k, k < mt_nh p → mt_b v k = mt_b (p 5 e) k := fun k hk => by rw [hv k (by omega)]; simp [hk]
  refine c_lastHookDone hp hS hvk ?_ ?_
  · constructor
    · rintro rfl k hk
      rw [← hvk k hk]; exact mt_b_zero (by omega)
    · intro h
      refine mt_b_ext fun k hk => ?_
      rw [mt_b_zero hk, hv k hk]
      by_cases hkn : k < mt_nh p
      · rw [h k hkn]; rfl
      · simp [hkn]
  · have loop : ∀ (lf : Bool) (G0 : bk_S), mt_gk p G0 → ∀ k, mt_gk p (mt_ds p e lf k G0) := fun lf G0 h k => h.ds hp he k
    refine bk_jn_of (fun σ1 => cr_F c σ σ1 ∧ cr_R c e p (mt_ds p e false (mt_nh p) G) σ1) (fun K hK => ?_) (fun σ1 hq => ?_)
    · refine bk_loop_up (mt_nh p) (fun k (σ' : bk_S) => (nI k, σ')) (fun k σ' => cr_F c σ σ' ∧ cr_R c e p (mt_ds p e false k G) σ') (i0 := 0) (b0 := σ) rfl (Nat.zero_le _) ⟨cr_F.rf c σ, hR⟩ ?_ ?_
      · rintro k σ' K2 hk ⟨hF, hR⟩ hK2
        have hS' := hS.F hF (Or.inl hsc)
        simp only [mt_ds, mt_hk] at hK2
        have hin : vp_in (nI k) 12 := (pz_in (by omega)).mpr (by omega)
        simp only [nI_1, nI_clamp (show k < 2 ^ 31 by omega), hS'.1, hnh.1, hS'.2.2.1 k hk, mt_b_0 v (show k < 32 by omega), hvk k hk]
        refine ⟨fun hle => absurd ((nI_leI (by omega) (by omega)).mp hle) (by omega), fun _ => ⟨fun hb => ?_, fun hb => ⟨hin, ?_⟩⟩⟩
        · rw [if_neg hb] at hK2; exact hK2 _ ⟨hF, hR⟩
        · rw [if_pos hb] at hK2
          obtain ⟨n, hn2, hn⟩ := hp.2.2.1 k hk
          have htk : mt_tk p e k = n := by unfold mt_tk; rw [hn, nI_clamp (by omega), if_neg (by rw [hb]; decide)]; rfl
          rw [hn]
          refine c_doHookx (last := decide (nI k = mt_lh p e)) (tk := n) (by by_cases hq : nI k = mt_lh p e <;> simp [hq]) hp hsc he (show k < 12 by omega) (by omega) hS' hR (hg.ds hp he k) (fun σ2 hF2 hR2 _ => hK2 _ ⟨hF.tr hF2, by rw [htk]; exact hR2⟩)
      · rintro σ' K2 ⟨hF, hR⟩
        have hS' := hS.F hF (Or.inl hsc)
        refine ⟨fun _ => hK _ ⟨hF, hR⟩, fun hn => absurd ?_ hn⟩
        show σ' s 0 ≤ nI (mt_nh p)
        rw [hS'.1, hnh.1]; exact (nI_leI (by omega) (by omega)).mpr (Nat.le_refl _)
    · obtain ⟨hF1, hR1⟩ := hq
      refine bk_loop_up (mt_nh p) (fun k (σ' : bk_S) => (nI k, σ')) (fun k σ' => cr_F c σ σ' ∧ cr_R c e p (mt_ds p e true k (mt_ds p e false (mt_nh p) G)) σ') (i0 := 0) (b0 := σ1) rfl (Nat.zero_le _) ⟨hF1, hR1⟩ ?_ ?_
      · rintro k σ' K2 hk ⟨hF, hR⟩ hK2
        have hS' := hS.F hF (Or.inl hsc)
        simp only [mt_ds, mt_hk] at hK2
        have hin : vp_in (nI k) 12 := (pz_in (by omega)).mpr (by omega)
        simp only [nI_1, nI_clamp (show k < 2 ^ 31 by omega), hS'.1, hnh.1, hS'.2.2.1 k hk, mt_b_1, hvk k hk]
        refine ⟨fun hle => absurd ((nI_leI (by omega) (by omega)).mp hle) (by omega), fun _ => ⟨fun hb => ?_, fun hb => ⟨hin, ?_⟩⟩⟩
        · rw [if_neg hb] at hK2; exact hK2 _ ⟨hF, hR⟩
        · rw [if_pos hb] at hK2
          obtain ⟨n, hn2, hn⟩ := hp.2.2.1 k hk
          have htk : mt_tk p e k = n + 1 := by unfold mt_tk; rw [hn, nI_clamp (by omega), if_pos hb]
          rw [hn, nI_1]
          refine c_doHookx (last := decide (nI k = mt_lh p e)) (tk := n + 1) (by by_cases hq : nI k = mt_lh p e <;> simp [hq]) hp hsc he (show k < 12 by omega) (by omega) hS' hR ((hg.ds hp he _).ds hp he k) (fun σ2 hF2 hR2 _ => hK2 _ ⟨hF.tr hF2, by rw [htk]; exact hR2⟩)
      · rintro σ' K2 ⟨hF, hR⟩
        have hS' := hS.F hF (Or.inl hsc)
        refine ⟨fun _ => hpost _ hF hR, fun hn => absurd ?_ hn⟩
        show σ' s 0 ≤ nI (mt_nh p)
        rw [hS'.1, hnh.1]; exact (nI_leI (by omega) (by omega)).mpr (Nat.le_refl _)
theorem mt_gk.hu {p G : bk_S} (hg : mt_gk p G) : mt_gk p (mt_hu (mt_nt p) G) := by
  intro t ht
  unfold mt_hu
  simp only [bk_w_at, if_true, Nat.succ_ne_zero, if_false, ht, true_and, show ¬ (1 : Nat) = 0 by decide]
  refine ⟨fun h => ?_, fun h => (hg t ht).2 h⟩
  obtain ⟨n, h1, h9, hn⟩ := (hg t ht).1 h
  by_cases h9' : 9 ≤ G 0 t
  · rw [if_neg (fun hh => hh.2 h9')]; exact ⟨n, h1, h9, hn⟩
  · rw [if_pos ⟨h, h9'⟩, hn, nI_1]
    refine ⟨n + 1, by omega, ?_, rfl⟩
    rw [hn] at h9'
    have : ¬ 9 ≤ n := fun hh => h9' ((nI_leI (a := 9) (by omega) (by omega)).mpr hh)
    omega
theorem mt_rs_hu (n : Nat) (G : bk_S) : mt_rs (mt_hu n G) = mt_hu n (mt_rs G) := by
  funext a b
  unfold mt_rs mt_hu
  simp only [bk_w_at]
  by_cases h5 : a = 5
  · subst h5; simp
  · by_cases h4 : a = 4
    · subst h4; simp
    · by_cases h3 : a = 3
      · subst h3; simp
      · by_cases h0 : a = 0
        · subst h0; simp
        · simp [h5, h4, h3, h0]
theorem mt_rs_lo (G : bk_S) {r : Nat} (h : r < 3) : mt_rs G r = G r := by
  unfold mt_rs; rw [bk_w_n _ _ (by omega), bk_w_n _ _ (by omega), bk_w_n _ _ (by omega)]
theorem mt_gk.rs {p G : bk_S} (hg : mt_gk p G) : mt_gk p (mt_rs G) := hg.rows (mt_rs_lo G (by omega)) (mt_rs_lo G (by omega))
theorem mt_gk.fr {p G : bk_S} (hg : mt_gk p G) (e : Nat) : mt_gk p (mt_fr p e G) := by
  unfold mt_fr
  split
  · exact hg
  · exact hg.hu
theorem mt_gk.en {p G : bk_S} (hp : mt_ok p) (hg : mt_gk p G) {e : Nat} (he : e < 12) : mt_gk p (mt_en p e G) := by
  unfold mt_en mt_dd
  split
  · exact ((hg.rs.fr e).ds hp he _).ds hp he _
  · exact hg.rs.fr e
theorem mt_gk.i0 {p : bk_S} (hp : mt_ok p) : mt_gk p (mt_i0 p) := by
  intro t ht
  refine ⟨fun _ => ?_, fun h => absurd rfl h⟩
  obtain ⟨n, h1, h9, hn⟩ := (hp.2.2.2 t ht).2
  exact ⟨n, h1, h9, by show (if t < mt_nt p then p 3 t else 0) = nI n; rw [if_pos ht, hn]⟩
theorem mt_gk.st {p : bk_S} (hp : mt_ok p) : ∀ e, e ≤ 12 → mt_gk p (mt_st p e)
  | 0, _ => mt_gk.i0 hp
  | e + 1, h => ((mt_gk.st hp e (by omega)).en hp (by omega)).hu
theorem mt_gk.ev {p : bk_S} (hp : mt_ok p) {e : Nat} (h : e < 12) : mt_gk p (mt_ev p e) := (mt_gk.st hp e (by omega)).en hp h
