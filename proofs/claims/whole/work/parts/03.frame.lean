/-! The world as one function of numbers, a judgement over it, a row an instruction. -/
abbrev bk_S : Type := Nat → Nat → Int32
abbrev bk_L : Type := Nat → ((Nat × Nat) ⊕ ((Nat × List (Option Nat)) ⊕ (Nat × (Nat → Nat))))
abbrev bk_Y : Type := bk_L × Nat
abbrev bk_W : Type := va_G × (Nat → Nat) × (Nat → ClassId)
def bk_r (w : bk_W) (k : Nat) : Nat := w.2.1 k
def bk_fs (w : bk_W) (g : Nat → Int32) : Nat → List (Option Nat) → List Value
  | _, [] => []
  | j, some q :: l => .ref (bk_r w q) :: bk_fs w g (j + 1) l
  | j, none :: l => .int (g j) :: bk_fs w g (j + 1) l
def bk_cell (Y : bk_Y) (w : bk_W) (σ : bk_S) (k : Nat) : va_E := match Y.1 k with
  | .inl q => .inl (w.2.2 q.1, q.2, .inl (σ k))
  | .inr (.inl q) => .inr (q.1, bk_fs w (σ k) 0 q.2)
  | .inr (.inr q) => .inl (w.2.2 2, q.1, .inr (.inr (.inr (.inr (fun j => some (bk_r w (q.2 j)))))))
/-- a row that no cell bears: an array of no length -/
def bk_rl (Y : bk_Y) (k : Nat) : Bool := match Y.1 k with
  | .inl q => q.2 != 0
  | _ => true
def bk_wf (Y : bk_Y) (w : bk_W) (σ : bk_S) : Nat → va_W
  | 0 => []
  | n + 1 => if bk_rl Y n = true then bk_wf Y w σ n ++ [(bk_r w n, bk_cell Y w σ n)] else bk_wf Y w σ n
def bk_wl (Y : bk_Y) (w : bk_W) (σ : bk_S) : va_W := bk_wf Y w σ Y.2
/-- a row's place in the list of cells -/
def bk_ps (Y : bk_Y) : Nat → Nat
  | 0 => 0
  | n + 1 => bk_ps Y n + (if bk_rl Y n = true then 1 else 0)
abbrev bk_tys (w : bk_W) : List (ClassId × FieldType) := [(w.2.2 0, .int), (w.2.2 1, .boolean), (w.2.2 2, .object "BackHooks$Sheet")]
def bk_is (Y : bk_Y) (k : Nat) (x : (Nat × Nat) ⊕ ((Nat × List (Option Nat)) ⊕ (Nat × (Nat → Nat)))) : Prop := Y.1 k = x ∧ k < Y.2 ∧ bk_rl Y k = true
/-- a row of the state replaced -/
def bk_w (σ : bk_S) (k : Nat) (g : Nat → Int32) : bk_S := fun a => if a = k then g else σ a
/-- one number of the state replaced -/
def bk_u (σ : bk_S) (k j : Nat) (v : Int32) : bk_S := bk_w σ k (upd (σ k) j v)
def bk_lt {α : Type} (a : α) (f : α → Prop) : Prop := f a
def bk_jn {α : Type} (rest : α → Prop) (F : (α → Prop) → Prop) : Prop := F rest
def bk_lp {α : Type} (F : (α → Prop) → α → Prop) : Nat → α → Prop
  | 0, _ => False
  | n + 1, a => F (bk_lp F n) a
def bk_loop {α : Type} (F : (α → Prop) → α → Prop) (a : α) : Prop := ∃ n, bk_lp F n a
theorem bk_w_s (σ : bk_S) (k : Nat) (g : Nat → Int32) : bk_w σ k g k = g := if_pos rfl
theorem bk_w_n (σ : bk_S) {k a : Nat} (g : Nat → Int32) (h : a ≠ k) : bk_w σ k g a = σ a := if_neg h
theorem bk_fs_get (w : bk_W) (g : Nat → Int32) : ∀ (l : List (Option Nat)) (j k : Nat), (bk_fs w g j l)[k]? = (l[k]?).map (fun o => match o with | some q => Value.ref (bk_r w q) | none => Value.int (g (j + k)))
  | [], _, _ => by simp [bk_fs]
  | some q :: l, j, 0 => by simp [bk_fs]
  | none :: l, j, 0 => by simp [bk_fs]
  | some q :: l, j, k + 1 => by
    simp only [bk_fs, List.getElem?_cons_succ, bk_fs_get w g l (j + 1) k]
    rw [show j + 1 + k = j + (k + 1) by omega]
  | none :: l, j, k + 1 => by
    simp only [bk_fs, List.getElem?_cons_succ, bk_fs_get w g l (j + 1) k]
    rw [show j + 1 + k = j + (k + 1) by omega]
theorem bk_fs_len (w : bk_W) (g : Nat → Int32) : ∀ (l : List (Option Nat)) (j : Nat), (bk_fs w g j l).length = l.length
  | [], _ => rfl
  | some q :: l, j => by simp [bk_fs, bk_fs_len w g l]
  | none :: l, j => by simp [bk_fs, bk_fs_len w g l]
theorem bk_fs_congr (w : bk_W) {g g' : Nat → Int32} : ∀ (l : List (Option Nat)) (j : Nat), (∀ i, j ≤ i → g i = g' i) → bk_fs w g j l = bk_fs w g' j l
  | [], _, _ => rfl
  | some q :: l, j, h => by simp only [bk_fs]; rw [bk_fs_congr w l (j + 1) (fun i hi => h i (by omega))]
  | none :: l, j, h => by simp only [bk_fs]; rw [bk_fs_congr w l (j + 1) (fun i hi => h i (by omega)), h j (Nat.le_refl j)]
theorem bk_fs_set (w : bk_W) (g : Nat → Int32) (v : Int32) : ∀ (l : List (Option Nat)) (j k : Nat), l[k]? = some none → (bk_fs w g j l).set k (.int v) = bk_fs w (upd g (j + k) v) j l
  | [], _, _, h => by simp at h
  | some q :: l, j, 0, h => by simp at h
  | none :: l, j, 0, _ => by
    simp only [bk_fs, List.set_cons_zero, Nat.add_zero]
    rw [bk_fs_congr w (g := g) (g' := upd g j v) l (j + 1) (fun i hi => by simp [upd, show i ≠ j by omega])]
    simp [upd]
  | some q :: l, j, k + 1, h => by
    have h : l[k]? = some none := by simpa using h
    simp only [bk_fs, List.set_cons_succ, bk_fs_set w g v l (j + 1) k h]
    rw [show j + 1 + k = j + (k + 1) by omega]
  | none :: l, j, k + 1, h => by
    have h : l[k]? = some none := by simpa using h
    simp only [bk_fs, List.set_cons_succ, bk_fs_set w g v l (j + 1) k h]
    rw [show j + 1 + k = j + (k + 1) by omega]
    simp [upd, show j ≠ j + (k + 1) by omega]
theorem bk_ps_le (Y : bk_Y) : ∀ {i j : Nat}, i ≤ j → bk_ps Y i ≤ bk_ps Y j
  | i, 0, h => by rw [show i = 0 by omega]; exact Nat.le_refl _
  | i, j + 1, h => by
    rcases Nat.lt_or_ge i (j + 1) with h1 | h1
    · have := bk_ps_le Y (i := i) (j := j) (by omega)
      rw [show bk_ps Y (j + 1) = bk_ps Y j + (if bk_rl Y j = true then 1 else 0) from rfl]; omega
    · rw [show i = j + 1 by omega]; exact Nat.le_refl _
theorem bk_ps_lt (Y : bk_Y) {i j : Nat} (h : i < j) (hi : bk_rl Y i = true) : bk_ps Y i < bk_ps Y j := by
  have := bk_ps_le Y (i := i + 1) (j := j) h
  rw [show bk_ps Y (i + 1) = bk_ps Y i + (if bk_rl Y i = true then 1 else 0) from rfl, if_pos hi] at this
  omega
theorem bk_ps_inj (Y : bk_Y) {i j : Nat} (hi : bk_rl Y i = true) (hj : bk_rl Y j = true) (h : bk_ps Y i = bk_ps Y j) : i = j := by
  rcases Nat.lt_trichotomy i j with q | q | q
  · have := bk_ps_lt Y q hi; omega
  · exact q
  · have := bk_ps_lt Y q hj; omega
theorem bk_wf_len (Y : bk_Y) (w : bk_W) (σ : bk_S) : ∀ n, (bk_wf Y w σ n).length = bk_ps Y n
  | 0 => rfl
  | n + 1 => by
    rw [bk_wf, bk_ps]
    by_cases h : bk_rl Y n = true
    · rw [if_pos h, if_pos h, List.length_append, bk_wf_len Y w σ n]; rfl
    · rw [if_neg h, if_neg h, bk_wf_len Y w σ n]; rfl
theorem bk_wf_get (Y : bk_Y) (w : bk_W) (σ : bk_S) {k : Nat} (hr : bk_rl Y k = true) : ∀ n, k < n → (bk_wf Y w σ n)[bk_ps Y k]? = some (bk_r w k, bk_cell Y w σ k)
  | 0, h => absurd h (Nat.not_lt_zero _)
  | n + 1, h => by
    rw [bk_wf]
    rcases Nat.lt_or_ge k n with h1 | h1
    · have ih := bk_wf_get Y w σ hr n h1
      by_cases q : bk_rl Y n = true
      · rw [if_pos q, List.getElem?_append_left (List.getElem?_eq_some_iff.mp ih).1]; exact ih
      · rw [if_neg q]; exact ih
    · obtain rfl : k = n := by omega
      rw [if_pos hr, List.getElem?_append_right (by rw [bk_wf_len]; exact Nat.le_refl _), bk_wf_len, Nat.sub_self]; rfl
theorem bk_wf_some {Y : bk_Y} {w : bk_W} {σ : bk_S} {i : Nat} {q : Nat × va_E} : ∀ n, (bk_wf Y w σ n)[i]? = some q → ∃ k, k < n ∧ bk_rl Y k = true ∧ i = bk_ps Y k ∧ q = (bk_r w k, bk_cell Y w σ k)
  | 0, h => by simp [bk_wf] at h
  | n + 1, h => by
    rw [bk_wf] at h
    by_cases hr : bk_rl Y n = true
    · rw [if_pos hr] at h
      rcases Nat.lt_or_ge i (bk_wf Y w σ n).length with h1 | h1
      · rw [List.getElem?_append_left h1] at h
        obtain ⟨k, a, b, c, d⟩ := bk_wf_some n h
        exact ⟨k, by omega, b, c, d⟩
      · rw [List.getElem?_append_right h1] at h
        have hz : i - (bk_wf Y w σ n).length < 1 := (List.getElem?_eq_some_iff.mp h).1
        rw [show i - (bk_wf Y w σ n).length = 0 by omega] at h
        refine ⟨n, Nat.lt_succ_self _, hr, ?_, (Option.some.inj h).symm⟩
        rw [← bk_wf_len Y w σ n]; omega
    · rw [if_neg hr] at h
      obtain ⟨k, a, b, c, d⟩ := bk_wf_some n h
      exact ⟨k, by omega, b, c, d⟩
theorem bk_wl_get (Y : bk_Y) (w : bk_W) (σ : bk_S) {k : Nat} (h : k < Y.2 ∧ bk_rl Y k = true) : (bk_wl Y w σ)[bk_ps Y k]? = some (bk_r w k, bk_cell Y w σ k) := bk_wf_get Y w σ h.2 Y.2 h.1
theorem bk_wl_some {Y : bk_Y} {w : bk_W} {σ : bk_S} {i : Nat} {q : Nat × va_E} (h : (bk_wl Y w σ)[i]? = some q) : ∃ k, (k < Y.2 ∧ bk_rl Y k = true) ∧ i = bk_ps Y k ∧ q = (bk_r w k, bk_cell Y w σ k) := by
  obtain ⟨k, a, b, c, d⟩ := bk_wf_some Y.2 h
  exact ⟨k, ⟨a, b⟩, c, d⟩
theorem bk_cell_n (Y : bk_Y) (w : bk_W) (σ : bk_S) {k a : Nat} (g : Nat → Int32) (h : a ≠ k) : bk_cell Y w (bk_w σ k g) a = bk_cell Y w σ a := by
  simp only [bk_cell, bk_w_n σ g h]
theorem bk_wl_set (Y : bk_Y) (w : bk_W) (σ : bk_S) {k : Nat} (g : Nat → Int32) (h : k < Y.2 ∧ bk_rl Y k = true) (x : va_E) (hx : bk_cell Y w (bk_w σ k g) k = x) : (bk_wl Y w σ).set (bk_ps Y k) (bk_r w k, x) = bk_wl Y w (bk_w σ k g) := by
  apply List.ext_getElem?
  intro i
  rw [List.getElem?_set]
  have hl : ∀ σ, (bk_wl Y w σ).length = bk_ps Y Y.2 := fun σ => bk_wf_len Y w σ Y.2
  by_cases hik : bk_ps Y k = i
  · subst hik
    rw [if_pos rfl, bk_wl_get Y w _ h, hx, if_pos (by rw [hl]; exact bk_ps_lt Y h.1 h.2)]
  · rw [if_neg hik]
    rcases Nat.lt_or_ge i (bk_ps Y Y.2) with hi | hi
    · obtain ⟨a, ha, hia, hqa⟩ := bk_wl_some (List.getElem?_eq_getElem (l := bk_wl Y w σ) (by rw [hl]; exact hi))
      subst hia
      rw [bk_wl_get Y w _ ha, bk_wl_get Y w _ ha, bk_cell_n Y w σ g (fun e => hik (by rw [e]))]
    · rw [List.getElem?_eq_none (by rw [hl]; exact hi), List.getElem?_eq_none (by rw [hl]; exact hi)]
abbrev bk_X : Type := (Program × Launch × Env × Room × State × MethodId × Array Value × List Frame × Method × Code) × (Nat × Nat × Nat × (State → Prop) × (Nat → Prop))
def bk_At (Y : bk_Y) (w : bk_W) (X : bk_X) (pc : Nat) (lv : List (Nat × Value)) (st : List Value) (σ : bk_S) : Prop := match X with
  | ((p, l, e, R, s, m, args, below, meth, c), (nL, cells, slots, Q, A)) => ∀ (H : Heap) (locs : List Loc) (ls : Array Slot), va_P w.1 vwCl (bk_wl Y w σ) H → va_S A s.heap H locs → lv_has ls nL lv → W p l e R s m args below meth c H locs cells slots Q (F0 m pc ls st)
def bk_D (Y : bk_Y) (w : bk_W) (A : Nat → Prop) : Prop := (∀ i j, (i < Y.2 ∧ bk_rl Y i = true) → (j < Y.2 ∧ bk_rl Y j = true) → bk_r w i = bk_r w j → i = j) ∧ ∀ k, (k < Y.2 ∧ bk_rl Y k = true) → A (bk_r w k)
def lw_good : List Cond := lw_tbl.filter goodWord
theorem bk_in {w : Cond} (i : Nat) (h : lw_tbl[i]? = some w) (g : goodWord w = true) : w ∈ lw_good := List.mem_filter.mpr ⟨List.mem_of_getElem? h, g⟩
def bk_nest : List (String × Nat × MethodName × String) := [(RX8, 23, yX7_init, RX8), (RX8, 39, yX4_init, RX8), (RX8, 49, yX1_init, RX8), (RX8, 59, yX0_init, RX8), (RX8, 66, yX2_init, RX8), (RX8, 73, yX3_init, RX8), (RX8, 93, yX5_init, RX8), (RX1, 118, yX8_sumOf, RX8), (RX5, 32, yX8_isBelow, RX8)]
def bk_N (U : State) : Prop := ∀ q ∈ bk_nest, va_Nw (.methodLinkNest q.1 q.2.1 q.2.2.1 q.2.2.2) U
theorem bk_N.warm {s U : State} (h : bk_N s) (hW : s.WarmedH U.vm) : bk_N U := fun q hq => va_Nw.warmM hW (h q hq)
theorem bk_N.same {s U : State} (h : bk_N s) (e : s.vm = U.vm) : bk_N U := fun q hq => va_Nw.same rfl e (h q hq)
def bk_Ok (Y : bk_Y) (w : bk_W) (X : bk_X) (cc : ByteArray) (own : String) (n fr lo : Nat) : Prop := match X with
  | ((p, l, e, R, s, m, args, below, meth, c), (nL, cells, slots, Q, A)) => p.tables.exec = Jvm.exec ∧ c.code = cc ∧ c.maxLocals = nL ∧ s.vm.findClass own = some m.cls ∧ (∀ w ∈ lw_good, w.before args s = true) ∧ va_K w.1 vwCl (bk_tys w) s ∧ bk_N s ∧ bk_D Y w A ∧ (∀ q, s.heap.size ≤ q → A q) ∧ nL = n ∧ fr ≤ R.frames ∧ lo ≤ R.locals ∧ cells ≤ R.cells ∧ slots ≤ R.slots
theorem bk_D.va {Y : bk_Y} {w : bk_W} {A : Nat → Prop} (h : bk_D Y w A) (σ : bk_S) : va_D A (bk_wl Y w σ) := by
  refine ⟨fun i j p q hi hj e => ?_, fun k q hk => ?_⟩
  · obtain ⟨a, h1, rfl, rfl⟩ := bk_wl_some hi
    obtain ⟨b, h2, rfl, rfl⟩ := bk_wl_some hj
    rw [h.1 a b h1 h2 e]
  · obtain ⟨a, h1, -, rfl⟩ := bk_wl_some hk
    exact h.2 a h1
theorem bk_D.of {Y : bk_Y} {w : bk_W} {A : Nat → Prop} {σ : bk_S} (h : va_D A (bk_wl Y w σ)) : bk_D Y w A :=
  ⟨fun i j hi hj e => bk_ps_inj Y hi.2 hj.2 (h.1 _ _ _ _ (bk_wl_get Y w σ hi) (bk_wl_get Y w σ hj) e), fun k hk => h.2 _ _ (bk_wl_get Y w σ hk)⟩
