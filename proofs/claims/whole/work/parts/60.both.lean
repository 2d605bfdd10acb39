/-! Two worlds side by side: the class's and the reference's. -/
def bl_sh (d : Nat) : ((Nat × Nat) ⊕ ((Nat × List (Option Nat)) ⊕ (Nat × (Nat → Nat)))) → ((Nat × Nat) ⊕ ((Nat × List (Option Nat)) ⊕ (Nat × (Nat → Nat))))
  | .inl q => .inl q
  | .inr (.inl q) => .inr (.inl (q.1, q.2.map (fun o => o.map (fun k => d + k))))
  | .inr (.inr q) => .inr (.inr (q.1, fun j => d + q.2 j))
/-- one layout behind another -/
def bl_Y (Y Y' : bk_Y) : bk_Y := (fun k => if k < Y.2 then Y.1 k else bl_sh Y.2 (Y'.1 (k - Y.2)), Y.2 + Y'.2)
def bl_s (d : Nat) (σ τ : bk_S) : bk_S := fun k => if k < d then σ k else τ (k - d)
def bl_w (d : Nat) (w : bk_W) : bk_W := (w.1, fun k => w.2.1 (d + k), w.2.2)
theorem bl_fs (d : Nat) (w : bk_W) (g : Nat → Int32) : ∀ (l : List (Option Nat)) (j : Nat), bk_fs w g j (l.map (fun o => o.map (fun k => d + k))) = bk_fs (bl_w d w) g j l
  | [], _ => rfl
  | some q :: l, j => by
    show Value.ref (bk_r w (d + q)) :: bk_fs w g (j + 1) (l.map (fun o => o.map (fun k => d + k))) = _
    rw [bl_fs d w g l (j + 1)]; rfl
  | none :: l, j => by
    show Value.int (g j) :: bk_fs w g (j + 1) (l.map (fun o => o.map (fun k => d + k))) = _
    rw [bl_fs d w g l (j + 1)]; rfl
theorem bl_at1 (Y Y' : bk_Y) {k : Nat} (h : k < Y.2) : (bl_Y Y Y').1 k = Y.1 k := if_pos h
theorem bl_at2 (Y Y' : bk_Y) (k : Nat) : (bl_Y Y Y').1 (Y.2 + k) = bl_sh Y.2 (Y'.1 k) := by
  show (if Y.2 + k < Y.2 then _ else bl_sh Y.2 (Y'.1 (Y.2 + k - Y.2))) = _
  rw [if_neg (by omega), Nat.add_sub_cancel_left]
theorem bl_rl1 (Y Y' : bk_Y) {k : Nat} (h : k < Y.2) : bk_rl (bl_Y Y Y') k = bk_rl Y k := by unfold bk_rl; rw [bl_at1 Y Y' h]
theorem bl_rl2 (Y Y' : bk_Y) (k : Nat) : bk_rl (bl_Y Y Y') (Y.2 + k) = bk_rl Y' k := by
  unfold bk_rl
  rw [bl_at2]
  cases Y'.1 k with
  | inl q => rfl
  | inr q => cases q <;> rfl
theorem bl_c1 (Y Y' : bk_Y) (w : bk_W) (σ τ : bk_S) {k : Nat} (h : k < Y.2) : bk_cell (bl_Y Y Y') w (bl_s Y.2 σ τ) k = bk_cell Y w σ k := by
  unfold bk_cell
  rw [bl_at1 Y Y' h, show bl_s Y.2 σ τ k = σ k from if_pos h]
theorem bl_c2 (Y Y' : bk_Y) (w : bk_W) (σ τ : bk_S) (k : Nat) : bk_cell (bl_Y Y Y') w (bl_s Y.2 σ τ) (Y.2 + k) = bk_cell Y' (bl_w Y.2 w) τ k := by
  have hs : bl_s Y.2 σ τ (Y.2 + k) = τ k := by
    show (if Y.2 + k < Y.2 then σ (Y.2 + k) else τ (Y.2 + k - Y.2)) = τ k
    rw [if_neg (by omega), Nat.add_sub_cancel_left]
  unfold bk_cell
  rw [bl_at2, hs]
  cases Y'.1 k with
  | inl q => rfl
  | inr q =>
    cases q with
    | inl q =>
      show Sum.inr (q.1, bk_fs w (τ k) 0 (q.2.map (fun o => o.map (fun k => Y.2 + k)))) = Sum.inr (q.1, bk_fs (bl_w Y.2 w) (τ k) 0 q.2)
      rw [bl_fs]
    | inr q => rfl
theorem bl_wf1 (Y Y' : bk_Y) (w : bk_W) (σ τ : bk_S) : ∀ n, n ≤ Y.2 → bk_wf (bl_Y Y Y') w (bl_s Y.2 σ τ) n = bk_wf Y w σ n
  | 0, _ => rfl
  | n + 1, h => by
    rw [bk_wf, bk_wf, bl_wf1 Y Y' w σ τ n (by omega), bl_rl1 Y Y' (by omega), bl_c1 Y Y' w σ τ (by omega)]
theorem bl_wf2 (Y Y' : bk_Y) (w : bk_W) (σ τ : bk_S) : ∀ n, bk_wf (bl_Y Y Y') w (bl_s Y.2 σ τ) (Y.2 + n) = bk_wf Y w σ Y.2 ++ bk_wf Y' (bl_w Y.2 w) τ n
  | 0 => by rw [Nat.add_zero, bl_wf1 Y Y' w σ τ Y.2 (Nat.le_refl _)]; exact (List.append_nil _).symm
  | n + 1 => by
    rw [show Y.2 + (n + 1) = (Y.2 + n) + 1 from rfl, bk_wf, bk_wf, bl_wf2 Y Y' w σ τ n, bl_rl2, bl_c2]
    by_cases h : bk_rl Y' n = true
    · rw [if_pos h, if_pos h, List.append_assoc]; rfl
    · rw [if_neg h, if_neg h]
theorem bl_wl (Y Y' : bk_Y) (w : bk_W) (σ τ : bk_S) : bk_wl (bl_Y Y Y') w (bl_s Y.2 σ τ) = bk_wl Y w σ ++ bk_wl Y' (bl_w Y.2 w) τ := bl_wf2 Y Y' w σ τ Y'.2
theorem bl_P1 {D : va_G} {cl : List vw_C} {a b : va_W} {H : Heap} (h : va_P D cl (a ++ b) H) : va_P D cl a H := fun k q hk => h k q (by rw [List.getElem?_append_left (List.getElem?_eq_some_iff.mp hk).1]; exact hk)
theorem bl_P2 {D : va_G} {cl : List vw_C} {a b : va_W} {H : Heap} (h : va_P D cl (a ++ b) H) : va_P D cl b H := fun k q hk => h (a.length + k) q (by rw [List.getElem?_append_right (by omega), Nat.add_sub_cancel_left]; exact hk)
theorem bl_r1 {Y Y' : bk_Y} {k : Nat} (h : k < Y.2 ∧ bk_rl Y k = true) : k < (bl_Y Y Y').2 ∧ bk_rl (bl_Y Y Y') k = true := ⟨by show k < Y.2 + Y'.2; omega, by rw [bl_rl1 Y Y' h.1]; exact h.2⟩
theorem bl_r2 {Y Y' : bk_Y} {k : Nat} (h : k < Y'.2 ∧ bk_rl Y' k = true) : Y.2 + k < (bl_Y Y Y').2 ∧ bk_rl (bl_Y Y Y') (Y.2 + k) = true := ⟨by show Y.2 + k < Y.2 + Y'.2; omega, by rw [bl_rl2]; exact h.2⟩
theorem bl_D1 {Y Y' : bk_Y} {w : bk_W} {A : Nat → Prop} (h : bk_D (bl_Y Y Y') w A) : bk_D Y w A := ⟨fun i j hi hj e => h.1 i j (bl_r1 hi) (bl_r1 hj) e, fun k hk => h.2 k (bl_r1 hk)⟩
theorem bl_D2 {Y Y' : bk_Y} {w : bk_W} {A : Nat → Prop} (h : bk_D (bl_Y Y Y') w A) : bk_D Y' (bl_w Y.2 w) A := ⟨fun i j hi hj e => by have := h.1 (Y.2 + i) (Y.2 + j) (bl_r2 hi) (bl_r2 hj) e; omega, fun k hk => h.2 (Y.2 + k) (bl_r2 hk)⟩
theorem bl_apart {Y Y' : bk_Y} {w : bk_W} {A : Nat → Prop} (h : bk_D (bl_Y Y Y') w A) {i j : Nat} (hi : i < Y.2 ∧ bk_rl Y i = true) (hj : j < Y'.2 ∧ bk_rl Y' j = true) : bk_r w i ≠ bk_r (bl_w Y.2 w) j := fun e => by
  have := h.1 i (Y.2 + j) (bl_r1 hi) (bl_r2 hj) e
  omega
/-- what a callee leaves of the other world -/
theorem bl_keep {Y Y' : bk_Y} {w w' : bk_W} {σ τ : bk_S} {D : va_G} {cl : List vw_C} {H H1 : Heap} (ap : ∀ i j, (i < Y.2 ∧ bk_rl Y i = true) → (j < Y'.2 ∧ bk_rl Y' j = true) → bk_r w i ≠ bk_r w' j) (hP : va_P D cl (bk_wl Y' w' τ) H) (hk : ∀ q : Nat, q < H.size → ¬ va_A (bk_wl Y w σ) H.size q → H1[q]? = H[q]?) : va_P D cl (bk_wl Y' w' τ) H1 := by
  refine hP.kept (fun k q hq => ?_)
  have hlt := (hP k q hq).lt
  obtain ⟨a, h1, -, rfl⟩ := bk_wl_some hq
  refine hk _ hlt ?_
  rintro (⟨i, e, hi⟩ | h)
  · obtain ⟨b, h2, -, h3⟩ := bk_wl_some hi
    exact ap b a h2 h1 (congrArg Prod.fst h3).symm
  · exact absurd h (Nat.not_le.mpr hlt)
section CallsB
variable {Y Y' : bk_Y} {w : bk_W} {X : bk_X} {cc : ByteArray} {own : String} {n fr lo pc : Nat} {lv : List (Nat × Value)} {st : List Value} {σ τ : bk_S} {Z : Prop}
theorem bl_call1_i (hX : bk_Ok (bl_Y Y Y') w X cc own n fr lo) {post : Int32 → bk_S → Prop} {ty : FieldType} {q i ci np mL fr2 lo2 : Nat} {y : MethodName} {cc2 : ByteArray} {fs : List (Option Nat)} {r0 : vw_C} (As rest : List Value) (hy : bk_yk y cc2 mL (some ty) np) (hv : bk_yv y) (hlk : Cond.methodLink own i y ∈ lw_good) (hci : vwCl[ci]? = some r0) (hcn : r0.1 = y.cls) (ho : bk_is Y q (.inr (.inl (ci, fs)))) (hst : st = As.reverse ++ .ref (bk_r w q) :: rest) (hlen : As.length = np) (hcat : (rest.map fun v => v.category).sum ≤ 8) (hR : fr2 + 1 ≤ fr ∧ 8 + (mL + 11) + lo2 ≤ lo) (d : decode cc pc = .ok (.invokevirtual i, 3)) (hM : Z → bk_Mi Y w y cc2 mL ty fr2 lo2 (.ref (bk_r w q) :: As) σ post) (k : ∀ r σ1, post r σ1 → bk_At (bl_Y Y Y') w X (pc + 3) lv (.int r :: rest) (bl_s Y.2 σ1 τ)) : Z → bk_At (bl_Y Y Y') w X pc lv st (bl_s Y.2 σ τ) := by
  obtain ⟨⟨p, l, e, R, s, m, args, below, meth, c⟩, nL, cells, slots, Q, A⟩ := X
  obtain ⟨hx, hb, hml, hown, hts, hK, hN, hD, hA, rfl, hfr, hlo, hce, hsl⟩ := hX
  subst hst
  have hcell : (bk_wl Y w σ)[bk_ps Y q]? = some (bk_r w q, bk_cell Y w σ q) := bk_wl_get Y w σ ho.2
  rw [bk_cell, ho.1] at hcell
  intro z H locs ls hP hS hl
  rw [bl_wl] at hP
  have hP1 := bl_P1 hP
  have hP2 := bl_P2 hP
  have hD1 := bl_D1 hD
  have hM := hM z l H.size
  have hfree := bk_freeA (σ := σ) hD1 hA hS
  have hrecv := va_recv hK hP1 hci hcell
  rw [hcn] at hrecv
  exact va_calli (va_runV (As := As) (rest := rest) ⟨hx, hb, hml, hown, hts⟩ hM ⟨callB_of np hts (bk_goodIn hy) rfl rfl rfl (hts _ hy.2.1) (hts _ hlk) ⟨hy.2.2.1, hy.2.2.2.1, hy.2.2.2.2⟩ ⟨Nat.le_trans hR.1 hfr, Nat.le_trans hR.2 hlo⟩, hts _ hv.1, hts _ hv.2⟩ ⟨bk_blind Y w _ σ H.size, hrecv, fun U hU hW => ⟨rfl, by rw [hU], by rw [hU]; exact hP1, va_K.moved hW.alike hK, hN.warm hW, hD1.1, fun _ _ => trivial⟩⟩ rfl hlen hl.1 rfl (lv_room hcat) d ⟨hce, hsl⟩) hS (fun q _ h => hfree q h) hfree (fun r u t H1 locs1 ht hvm hw hB hz1 hk1 hS1 => k r u hw H1 locs1 ls (by rw [bl_wl]; exact va_P.app (by rw [← ht]; exact hB.1) (bl_keep (fun i j hi hj => bl_apart hD hi hj) hP2 hk1)) hS1 hl)
end CallsB
