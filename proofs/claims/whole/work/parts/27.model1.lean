/-! The reference's minute. -/
theorem m_isIn {x : Int32} {k : Nat} {post : Int32 → Prop} (h1 : mt_b x k = true → post 1) (h0 : mt_b x k = false → post 0) : w_X9_isIn x (nI k) post := by
  unfold w_X9_isIn
  rw [mt_b_1]
  exact ⟨fun h => h0 (by simpa using h), h1⟩
theorem m_isOpen {σ : bk_S} {k : Nat} {post : Int32 → Prop} (hk : k < 8) (h1 : σ 36 k = -1 → post 1) (h0 : ¬ σ 36 k = -1 → post 0) : w_X9_isOpen (nI k) σ post := by
  unfold w_X9_isOpen
  rw [nI_clamp (by omega)]
  exact ⟨(pz_in (by omega)).mpr hk, h0, h1⟩
theorem m_takes {σ : bk_S} {k : Nat} {post : Int32 → Prop} (hk : k < 12) (h : post (σ 4 k + (if mt_b (σ 0 22) k = true then 1 else 0))) : w_X9_takes (nI k) σ post := by
  unfold w_X9_takes
  rw [nI_clamp (by omega)]
  refine ⟨(pz_in (by omega)).mpr hk, m_isIn (fun hb => ⟨fun h => absurd h (by decide), fun _ => ?_⟩) (fun hb => ⟨fun _ => ?_, fun h => absurd rfl h⟩)⟩
  · rwa [if_pos hb] at h
  · rwa [if_neg (by rw [hb]; decide)] at h
def bf_ok (τ : bk_S) (e i : Nat) : Prop := τ 11 i = nI e ∧ mt_b (τ 0 19) i = false
noncomputable def bf_l (τ : bk_S) (e : Nat) : Nat → Int32
  | 0 => if τ 0 17 = nI e then (1 : Int32) <<< (τ 0 18 &&& 31) else 0
  | n + 1 => haveI := Classical.propDecidable (bf_ok τ e n ∧ τ 10 n = 2); if bf_ok τ e n ∧ τ 10 n = 2 then bf_l τ e n ||| ((1 : Int32) <<< (τ 12 n &&& 31)) else bf_l τ e n
noncomputable def bf_k (τ : bk_S) (e : Nat) (kd : Int32) : Nat → Int32
  | 0 => 0
  | n + 1 => haveI := Classical.propDecidable (bf_ok τ e n ∧ τ 10 n = kd); if bf_ok τ e n ∧ τ 10 n = kd then 1 else bf_k τ e kd n
def rr_P (τ p : bk_S) : Prop := τ 0 12 = p 0 1 ∧ τ 0 16 = p 0 0 ∧ (∀ h, h < mt_nh p → τ 4 h = p 1 h) ∧ (∀ k, k < mt_nt p → τ 14 k = p 2 k) ∧ (∀ k, k < mt_nt p → τ 15 k = p 3 k) ∧ (∀ k, k < mt_nt p → τ 16 k = p 4 k) ∧
  ∃ ne, ne ≤ 8 ∧ τ 0 8 = nI ne ∧ ∀ e, e < 12 → p 5 e = bf_l τ e ne ∧ ((p 6 e &&& 2 = 0) ↔ bf_k τ e 1 ne = 0) ∧ (p 6 e = 0 ↔ (bf_k τ e 0 ne = 0 ∧ bf_k τ e 1 ne = 0))
def rr_G (e : Nat) (G τ : bk_S) : Prop := (∀ t, t < 8 → τ 33 t = G 0 t) ∧ (∀ t, t < 8 → τ 36 t = G 1 t) ∧ (∀ t, t < 8 → τ 37 t = G 2 t) ∧ (∀ t, t < 8 → τ 34 t = G 3 t) ∧ (∀ h, h < 12 → τ 40 (12 * e + h) = G 4 h) ∧ τ 0 25 = G 5 0 ∧ τ 0 26 = G 5 1 ∧ τ 0 27 = G 5 2 ∧ τ 0 24 = G 5 3
/-- what a minute leaves as it was -/
def rr_J (e : Nat) (τ τ' : bk_S) : Prop := ∀ r j, ¬ (r = 0 ∧ 24 ≤ j ∧ j ≤ 27) → r ≠ 33 → r ≠ 34 → r ≠ 36 → r ≠ 37 → ¬ (r = 40 ∧ 12 * e ≤ j ∧ j < 12 * e + 12) → τ' r j = τ r j
theorem rr_J.rf (e : Nat) (τ : bk_S) : rr_J e τ τ := fun _ _ _ _ _ _ _ _ => rfl
theorem rr_J.tr {e : Nat} {a b c : bk_S} (h : rr_J e a b) (h' : rr_J e b c) : rr_J e a c := fun r j h1 h2 h3 h4 h5 h6 => (h' r j h1 h2 h3 h4 h5 h6).trans (h r j h1 h2 h3 h4 h5 h6)
theorem rr_J.u {e : Nat} {a b : bk_S} (h : rr_J e a b) {k i : Nat} {v : Int32} (hk : (k = 0 ∧ 24 ≤ i ∧ i ≤ 27) ∨ k = 33 ∨ k = 34 ∨ k = 36 ∨ k = 37 ∨ (k = 40 ∧ 12 * e ≤ i ∧ i < 12 * e + 12)) : rr_J e a (bk_u b k i v) := by
  intro r j h1 h2 h3 h4 h5 h6
  rw [bk_u_at, if_neg (by rintro ⟨rfl, rfl⟩; omega)]
  exact h r j h1 h2 h3 h4 h5 h6
theorem m_chosen {h : Nat} {σ p : bk_S} {se : Nat → Int32} {post : Int32 → Prop} (hp : mt_ok p) (h12 : σ 0 12 = p 0 1) (h2 : ∀ t, t < mt_nt p → σ 14 t = p 2 t) (h4 : ∀ t, t < mt_nt p → σ 16 t = p 4 t) (hse : ∀ t, t < 8 → σ 36 t = se t) (hpost : post (mt_ch p se (nI h))) : w_X9_chosen (nI h) σ post := by
  have hnt := hp.nt
  unfold w_X9_chosen
  simp only [bk_lt_iff, bk_jn_iff]
  rw [h12, hnt.1]
  refine bk_loop_up (mt_nt p) (fun i (b : Int32 × Int32) => (b.1, b.2, nI i)) (fun i b => ∃ n, n ≤ i ∧ b.2 = nI n ∧ post (mt_sc p se (nI h) (mt_nt p - i) i b.1 (decide (0 < n)))) (i0 := 0) (b0 := (-1, 0)) rfl (Nat.zero_le _) ⟨0, Nat.le_refl _, rfl, hpost⟩ ?_ ?_
  · rintro i ⟨q, o⟩ K hi ⟨n, hn, ho, hI⟩ hK
    have ho : o = nI n := ho
    subst ho
    have hv : vp_in (nI i) 8 := (pz_in (by omega)).mpr (by omega)
    refine ⟨fun hle => absurd ((nI_leI (by omega) (by omega)).mp hle) (by omega), fun _ => ?_⟩
    simp only [nI_1, nI_clamp (show i < 2 ^ 31 by omega), h2 i hi, h4 i hi]
    rw [show mt_nt p - i = (mt_nt p - (i + 1)) + 1 by omega, mt_sc] at hI
    have hso := (hp.2.2.2 i hi).1
    refine m_isOpen (by omega) (fun hs => ?_) (fun hs => ?_)
    · rw [hse i (by omega)] at hs
      rw [if_pos hs] at hI
      refine ⟨fun h => absurd h (by decide), fun _ => ⟨hv, ?_⟩⟩
      have hgo : ∀ q', post (mt_sc p se (nI h) (mt_nt p - (i + 1)) (i + 1) q' true) → K (q', nI (n + 1), nI (i + 1)) := fun q' hq => hK (q', nI (n + 1)) ⟨n + 1, by omega, rfl, by simpa using hq⟩
      rcases hso with e0 | e1 | e2
      · by_cases hc : nI h ≤ p 4 i
        · rw [if_pos (Or.inl ⟨e0, hc⟩)] at hI
          simp [e0, hc, hv, hI]
        · rw [if_neg (by rintro (⟨_, hh⟩ | ⟨hh, _⟩); exact hc hh; (rw [e0] at hh; exact absurd hh (by decide))), if_neg (fun hh => by rw [e0] at hh; exact absurd hh.1 (by decide))] at hI
          simp [e0, hc, hv]
          exact hgo _ hI
      · by_cases hc : p 4 i ≤ nI h
        · rw [if_pos (Or.inr ⟨e1, hc⟩)] at hI
          have hc' : ¬ nI h < p 4 i := Int32.not_lt.mpr hc
          simp [e1, hc', hc, hv, hI]
        · rw [if_neg (by rintro (⟨hh, _⟩ | ⟨_, hh⟩); (rw [e1] at hh; exact absurd hh (by decide)); exact hc hh), if_neg (fun hh => by rw [e1] at hh; exact absurd hh.1 (by decide))] at hI
          have hc' : nI h < p 4 i := Int32.not_le.mp hc
          simp [e1, hc', hc, hv]
          exact hgo _ hI
      · rw [if_neg (by rintro (⟨hh, _⟩ | ⟨hh, _⟩) <;> (rw [e2] at hh; exact absurd hh (by decide)))] at hI
        by_cases hq : q = -1
        · rw [if_pos ⟨e2, hq⟩] at hI
          simp [e2, hq, hv]
          exact hgo _ hI
        · rw [if_neg (fun hh => hq hh.2)] at hI
          simp [e2, hq, hv]
          exact hgo _ hI
    · rw [hse i (by omega)] at hs
      rw [if_neg hs] at hI
      exact ⟨fun _ => hK (q, nI n) ⟨n, by omega, rfl, hI⟩, fun h => absurd rfl h⟩
  · rintro ⟨q, o⟩ K ⟨n, hn, ho, hI⟩
    have ho : o = nI n := ho
    subst ho
    refine ⟨fun _ => ?_, fun hh => absurd ((nI_leI (by omega) (by omega)).mpr (Nat.le_refl _)) hh⟩
    rw [Nat.sub_self, mt_sc] at hI
    refine ⟨fun hq => ⟨fun hz => ?_, fun hz => ?_⟩, fun hq => ?_⟩
    · have hq : q = -1 := hq
      have : 0 < n := by
        rcases Nat.eq_zero_or_pos n with rfl | h
        · exact absurd rfl hz
        · exact h
      rw [if_pos hq, if_pos (by simpa using this)] at hI; exact hI
    · have hq : q = -1 := hq
      have : n = 0 := (nI_eq (b := 0) (by omega) (by omega)).mp hz
      subst this
      rw [if_pos hq, if_neg (by decide)] at hI; exact hI
    · have hq : ¬ q = -1 := hq
      rw [if_neg hq] at hI; exact hI
section UpdM
variable {e : Nat} {G τ : bk_S}
theorem rr_G.u50 (H : rr_G e G τ) (v : Int32) : rr_G e (bk_u G 5 0 v) (bk_u τ 0 25 v) := by
  obtain ⟨a1, a2, a3, a4, a5, a6, a7, a8, a9⟩ := H
  refine ⟨?_, ?_, ?_, ?_, ?_, ?_, ?_, ?_, ?_⟩ <;> simpa [bk_u_at] using by assumption
theorem rr_G.u51 (H : rr_G e G τ) (v : Int32) : rr_G e (bk_u G 5 1 v) (bk_u τ 0 26 v) := by
  obtain ⟨a1, a2, a3, a4, a5, a6, a7, a8, a9⟩ := H
  refine ⟨?_, ?_, ?_, ?_, ?_, ?_, ?_, ?_, ?_⟩ <;> simpa [bk_u_at] using by assumption
theorem rr_G.u52 (H : rr_G e G τ) (v : Int32) : rr_G e (bk_u G 5 2 v) (bk_u τ 0 27 v) := by
  obtain ⟨a1, a2, a3, a4, a5, a6, a7, a8, a9⟩ := H
  refine ⟨?_, ?_, ?_, ?_, ?_, ?_, ?_, ?_, ?_⟩ <;> simpa [bk_u_at] using by assumption
theorem rr_G.u53 (H : rr_G e G τ) (v : Int32) : rr_G e (bk_u G 5 3 v) (bk_u τ 0 24 v) := by
  obtain ⟨a1, a2, a3, a4, a5, a6, a7, a8, a9⟩ := H
  refine ⟨?_, ?_, ?_, ?_, ?_, ?_, ?_, ?_, ?_⟩ <;> simpa [bk_u_at] using by assumption
theorem rr_G.u4 (H : rr_G e G τ) (h : Nat) (v : Int32) : rr_G e (bk_u G 4 h v) (bk_u τ 40 (12 * e + h) v) := by
  obtain ⟨a1, a2, a3, a4, a5, a6, a7, a8, a9⟩ := H
  refine ⟨?_, ?_, ?_, ?_, fun h' hh => ?_, ?_, ?_, ?_, ?_⟩
  rotate_left 4
  · rw [bk_u_at, bk_u_at, a5 h' hh]
    by_cases hq : h' = h
    · subst hq; simp
    · rw [if_neg (by omega), if_neg (by omega)]
  all_goals simpa [bk_u_at] using by assumption
theorem rr_G.u0 (H : rr_G e G τ) (k : Nat) (v : Int32) : rr_G e (bk_u G 0 k v) (bk_u τ 33 k v) := by
  obtain ⟨a1, a2, a3, a4, a5, a6, a7, a8, a9⟩ := H
  refine ⟨fun t ht => ?_, ?_, ?_, ?_, ?_, ?_, ?_, ?_, ?_⟩
  · rw [bk_u_at, bk_u_at, a1 t ht]; simp
  all_goals simpa [bk_u_at] using by assumption
theorem rr_G.u1 (H : rr_G e G τ) (k : Nat) (v : Int32) : rr_G e (bk_u G 1 k v) (bk_u τ 36 k v) := by
  obtain ⟨a1, a2, a3, a4, a5, a6, a7, a8, a9⟩ := H
  refine ⟨?_, fun t ht => ?_, ?_, ?_, ?_, ?_, ?_, ?_, ?_⟩
  rotate_left 1
  · rw [bk_u_at, bk_u_at, a2 t ht]; simp
  all_goals simpa [bk_u_at] using by assumption
theorem rr_G.u2 (H : rr_G e G τ) (k : Nat) (v : Int32) : rr_G e (bk_u G 2 k v) (bk_u τ 37 k v) := by
  obtain ⟨a1, a2, a3, a4, a5, a6, a7, a8, a9⟩ := H
  refine ⟨?_, ?_, fun t ht => ?_, ?_, ?_, ?_, ?_, ?_, ?_⟩
  rotate_left 2
  · rw [bk_u_at, bk_u_at, a3 t ht]; simp
  all_goals simpa [bk_u_at] using by assumption
theorem rr_G.u3 (H : rr_G e G τ) (k : Nat) (v : Int32) : rr_G e (bk_u G 3 k v) (bk_u τ 34 k v) := by
  obtain ⟨a1, a2, a3, a4, a5, a6, a7, a8, a9⟩ := H
  refine ⟨?_, ?_, ?_, fun t ht => ?_, ?_, ?_, ?_, ?_, ?_⟩
  rotate_left 3
  · rw [bk_u_at, bk_u_at, a4 t ht]; simp
  all_goals simpa [bk_u_at] using by assumption
end UpdM
