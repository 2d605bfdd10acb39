/-! A course in the midst of an evening, held against the numbers. -/
def mt_sa (p : bk_S) : Nat → Nat → Int32
  | 0, _ => 0
  | e + 1, t => mt_sa p e t + mt_ev p e 3 t
def cr_e0 : bk_S := fun r _ => if r = 4 then -1 else 0
def cr_E (p : bk_S) (e : Nat) (G : bk_S) (d : Nat) : bk_S := if d < e then mt_ev p d else if d = e then G else cr_e0
theorem cr_E_u (p : bk_S) (e : Nat) (G : bk_S) (a k : Nat) (v : Int32) (d r t : Nat) : cr_E p e (bk_u G a k v) d r t = if d = e ∧ r = a ∧ t = k then v else cr_E p e G d r t := by
  unfold cr_E
  by_cases h1 : d < e
  · rw [if_pos h1, if_pos h1, if_neg (by omega)]
  · rw [if_neg h1, if_neg h1]
    by_cases h2 : d = e
    · rw [if_pos h2, if_pos h2, bk_u_at]
      by_cases h3 : r = a ∧ t = k
      · rw [if_pos h3, if_pos ⟨h2, h3⟩]
      · rw [if_neg h3, if_neg (fun h => h3 h.2)]
    · rw [if_neg h2, if_neg h2, if_neg (fun h => h2 h.1)]
def cr_R (c e : Nat) (p G σ : bk_S) : Prop :=
  (∀ t, t < mt_nt p → σ (c + 1) t = G 0 t) ∧ (∀ t, t < 8 → σ (c + 2) t = G 1 t) ∧ (∀ t, t < 8 → σ (c + 3) t = G 2 t) ∧ σ c 11 = nI (mt_cs (G 1) (mt_nt p)) ∧ (∀ t, t < 8 → σ (c + 4) t = mt_sa p e t + G 3 t) ∧
  (∀ d t, d < 12 → t < 8 → σ (c + 6) (d * 8 + t) = cr_E p e G d 3 t) ∧ (∀ d h, d < 12 → h < 12 → σ (c + 7) (d * 12 + h) = cr_E p e G d 4 h) ∧
  (∀ d, d < 12 → σ (c + 8) d = cr_E p e G d 5 0) ∧ (∀ d, d < 12 → σ (c + 9) d = cr_E p e G d 5 1) ∧ (∀ d, d < 12 → σ (c + 10) d = cr_E p e G d 5 2) ∧ (∀ d, d < 12 → σ (c + 11) d = cr_E p e G d 5 3) ∧
  (∀ d t, d < e → t < mt_nt p → σ (c + 5) (d * 8 + t) = mt_ev p d 0 t)
def cr_S (s : Nat) (p σ : bk_S) : Prop := σ s 0 = p 0 0 ∧ σ s 1 = p 0 1 ∧ (∀ h, h < mt_nh p → σ (s + 1) h = p 1 h) ∧ (∀ t, t < mt_nt p → σ (s + 2) t = p 2 t) ∧ (∀ t, t < mt_nt p → σ (s + 3) t = p 3 t) ∧ (∀ t, t < mt_nt p → σ (s + 4) t = p 4 t) ∧ (∀ e, e < 12 → σ (s + 5) e = p 5 e) ∧ (∀ e, e < 12 → σ (s + 6) e = p 6 e)
def cr_F (c : Nat) (σ σ' : bk_S) : Prop := ∀ k, (k < c ∨ c + 11 < k) → σ' k = σ k
theorem cr_F.rf (c : Nat) (σ : bk_S) : cr_F c σ σ := fun _ _ => rfl
theorem cr_F.tr {c : Nat} {σ σ' σ'' : bk_S} (h : cr_F c σ σ') (h' : cr_F c σ' σ'') : cr_F c σ σ'' := fun k hk => (h' k hk).trans (h k hk)
theorem cr_F.u {c : Nat} {σ σ' : bk_S} (h : cr_F c σ σ') {k j : Nat} {v : Int32} (h1 : c ≤ k) (h2 : k ≤ c + 11) : cr_F c σ (bk_u σ' k j v) := fun a ha => by
  rw [bk_u_row σ' (by omega)]; exact h a ha
theorem cr_F.w {c : Nat} {σ σ' : bk_S} (h : cr_F c σ σ') {k : Nat} {g : Nat → Int32} (h1 : c ≤ k) (h2 : k ≤ c + 11) : cr_F c σ (bk_w σ' k g) := fun a ha => by
  rw [bk_w_n σ' _ (by omega)]; exact h a ha
theorem cr_S.F {c s : Nat} {p σ σ' : bk_S} (h : cr_S s p σ) (hf : cr_F c σ σ') (hsc : s + 6 < c ∨ c + 11 < s) : cr_S s p σ' := by
  unfold cr_S at *
  rw [hf s (by omega), hf (s + 1) (by omega), hf (s + 2) (by omega), hf (s + 3) (by omega), hf (s + 4) (by omega), hf (s + 5) (by omega), hf (s + 6) (by omega)]
  exact h
theorem bk_u_u (σ : bk_S) (k j : Nat) (v v' : Int32) : bk_u (bk_u σ k j v) k j v' = bk_u σ k j v' := by
  funext a b; simp only [bk_u_at]; split <;> rfl
section Upd
variable {c e : Nat} {p G σ : bk_S}
theorem cr_R.u4 (H : cr_R c e p G σ) {h : Nat} (v : Int32) (hh : h < 12) (he : e < 12) : cr_R c e p (bk_u G 4 h v) (bk_u σ (c + 7) (e * 12 + h) v) := by
  obtain ⟨a1, a2, a3, a4, a5, a6, a7, a8, a9, a10, a11, a12⟩ := H
  unfold cr_R
  refine ⟨?_, ?_, ?_, ?_, ?_, ?_, fun d h' hd hh' => ?_, ?_, ?_, ?_, ?_, ?_⟩
  rotate_left 6
  · rw [bk_u_at, cr_E_u, a7 d h' hd hh']
    by_cases hq : d = e ∧ h' = h
    · obtain ⟨rfl, rfl⟩ := hq; simp
    · rw [if_neg (by omega), if_neg (by omega)]
  all_goals simpa [bk_u_at, cr_E_u, bk_u_row] using by assumption
theorem cr_R.u50 (H : cr_R c e p G σ) (v : Int32) : cr_R c e p (bk_u G 5 0 v) (bk_u σ (c + 8) e v) := by
  obtain ⟨a1, a2, a3, a4, a5, a6, a7, a8, a9, a10, a11, a12⟩ := H
  unfold cr_R
  refine ⟨?_, ?_, ?_, ?_, ?_, ?_, ?_, fun d hd => ?_, ?_, ?_, ?_, ?_⟩
  rotate_left 7
  · rw [bk_u_at, cr_E_u, a8 d hd]; simp
  all_goals simpa [bk_u_at, cr_E_u, bk_u_row] using by assumption
theorem cr_R.u51 (H : cr_R c e p G σ) (v : Int32) : cr_R c e p (bk_u G 5 1 v) (bk_u σ (c + 9) e v) := by
  obtain ⟨a1, a2, a3, a4, a5, a6, a7, a8, a9, a10, a11, a12⟩ := H
  unfold cr_R
  refine ⟨?_, ?_, ?_, ?_, ?_, ?_, ?_, ?_, fun d hd => ?_, ?_, ?_, ?_⟩
  rotate_left 8
  · rw [bk_u_at, cr_E_u, a9 d hd]; simp
  all_goals simpa [bk_u_at, cr_E_u, bk_u_row] using by assumption
theorem cr_R.u52 (H : cr_R c e p G σ) (v : Int32) : cr_R c e p (bk_u G 5 2 v) (bk_u σ (c + 10) e v) := by
  obtain ⟨a1, a2, a3, a4, a5, a6, a7, a8, a9, a10, a11, a12⟩ := H
  unfold cr_R
  refine ⟨?_, ?_, ?_, ?_, ?_, ?_, ?_, ?_, ?_, fun d hd => ?_, ?_, ?_⟩
  rotate_left 9
  · rw [bk_u_at, cr_E_u, a10 d hd]; simp
  all_goals simpa [bk_u_at, cr_E_u, bk_u_row] using by assumption
theorem cr_R.u3 (H : cr_R c e p G σ) (he : e < 12) {k : Nat} (hk : k < 8) : cr_R c e p (bk_u G 3 k (G 3 k + 1)) (bk_u (bk_u σ (c + 6) (e * 8 + k) (σ (c + 6) (e * 8 + k) + 1)) (c + 4) k (σ (c + 4) k + 1)) := by
  obtain ⟨a1, a2, a3, a4, a5, a6, a7, a8, a9, a10, a11, a12⟩ := H
  unfold cr_R
  refine ⟨?_, ?_, ?_, ?_, fun t ht => ?_, fun d t hd ht => ?_, ?_, ?_, ?_, ?_, ?_, ?_⟩
  rotate_left 4
  · rw [bk_u_at, bk_u_at, bk_u_at, a5 t ht]
    by_cases h : t = k
    · subst h; simp [a5 t ht, Int32.add_assoc]
    · simp [h]
  · rw [bk_u_at, bk_u_at, cr_E_u, a6 d t hd ht, a6 e k he hk]
    have h2 : cr_E p e G e 3 k = G 3 k := by simp [cr_E]
    rw [h2, if_neg (by omega)]
    by_cases hq : d = e ∧ t = k
    · obtain ⟨rfl, rfl⟩ := hq; simp
    · rw [if_neg (by omega), if_neg (by omega)]
  all_goals simpa [bk_u_at, cr_E_u, bk_u_row] using by assumption
theorem cr_R.u2 (H : cr_R c e p G σ) {k : Nat} (v : Int32) : cr_R c e p (bk_u G 2 k v) (bk_u σ (c + 3) k v) := by
  obtain ⟨a1, a2, a3, a4, a5, a6, a7, a8, a9, a10, a11, a12⟩ := H
  unfold cr_R
  refine ⟨?_, ?_, fun t ht => ?_, ?_, ?_, ?_, ?_, ?_, ?_, ?_, ?_, ?_⟩
  rotate_left 2
  · rw [bk_u_at, bk_u_at, a3 t ht]; simp
  all_goals simpa [bk_u_at, cr_E_u, bk_u_row] using by assumption
theorem cr_R.u0 (H : cr_R c e p G σ) {k : Nat} (v : Int32) : cr_R c e p (bk_u G 0 k v) (bk_u σ (c + 1) k v) := by
  obtain ⟨a1, a2, a3, a4, a5, a6, a7, a8, a9, a10, a11, a12⟩ := H
  unfold cr_R
  refine ⟨fun t ht => ?_, ?_, ?_, ?_, ?_, ?_, ?_, ?_, ?_, ?_, ?_, ?_⟩
  · rw [bk_u_at, bk_u_at, a1 t ht]; simp
  all_goals simpa [bk_u_at, cr_E_u, bk_u_row] using by assumption
theorem cr_R.u1 (H : cr_R c e p G σ) (he : e < 12) {k : Nat} (hk : k < mt_nt p) (ho : G 1 k = -1) (v : Int32) (hv : ¬ v = -1) (x : Int32) : cr_R c e p (bk_u (bk_u G 1 k v) 5 3 x) (bk_u (bk_u (bk_u σ (c + 2) k v) (c + 11) e x) c 11 (σ c 11 + 1)) := by
  obtain ⟨a1, a2, a3, a4, a5, a6, a7, a8, a9, a10, a11, a12⟩ := H
  unfold cr_R
  refine ⟨?_, fun t ht => ?_, ?_, ?_, ?_, ?_, ?_, ?_, ?_, ?_, fun d hd => ?_, ?_⟩
  rotate_left 1
  · rw [bk_u_at, bk_u_at, bk_u_at, bk_u_at, bk_u_at, a2 t ht]; simp
  rotate_left 1
  · rw [bk_u_same, a4, nI_1]
    have : (bk_u (bk_u G 1 k v) 5 3 x) 1 = upd (G 1) k v := by
      rw [bk_u_row _ (by decide)]; unfold bk_u; rw [bk_w_s]
    rw [this, mt_cs_set ho hv _ hk]
  rotate_left 6
  · rw [bk_u_at, bk_u_at, bk_u_at, cr_E_u, cr_E_u, a11 d hd]; simp
  all_goals simpa [bk_u_at, cr_E_u, bk_u_row] using by assumption
end Upd
