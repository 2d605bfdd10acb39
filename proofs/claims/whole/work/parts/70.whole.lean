def R_law : String := "BackHooksLaw"
def lw_P (b : Addr) (xs : List Int32) (args : Array Value) (s : State) : Prop := args = #[.ref b] ∧ s.IntsAt b xs ∧ xs.length ≤ 3072 ∧ (Jvm.Cond.and given_1 narrow_1).before args s = true
def lw_Q (_ : Array Value) (s : State) (o : Outcome) (t : State) : Prop := o = .returned (some (.int 1)) ∧ Framed s o t [] 600000 7302250
def lw_Z (below : List Frame) (a : Array Value) (s : State) : State → Prop := fun t => ∃ o, t.status = .running ∧ Ended t below o ∧ lw_Q a s o t
/-- the law's own end, with 1 on the stack, nothing written that was there before, its room as the claim has it -/
theorem lw_ret {p : Program} {l : Launch} {e : Env} {s : State} {m : MethodId} {below : List Frame} {meth : Method} {c : Code} {b : Nat} (hx : p.tables.exec = Jvm.exec) (hb : c.code = code) (hr : meth.sig.returnType = ret) (hlocks : meth.locks = false) {pc : Nat} {H : Heap} {ls : Array Slot} (hdg : decode code pc = .ok (.ireturn, 1)) : W p l e room_1 s m #[Value.ref b] below meth c H [] 600000 7302250 (lw_Z below #[Value.ref b] s) (F0 m pc ls [.int 1]) := by
  intro T hT X
  obtain ⟨fs, hret, hrun, hended, hW, hframe⟩ := X.leave (v := some (.int 1)) (hlocks := hlocks) (fun h => by rw [hr] at h; cases h)
  have hmeth' : T.vm.method? m = some meth := X.method'
  refine ⟨T.setFrames fs, ?_, .returned (some (.int 1)), hrun, hended, rfl, ⟨_, rfl⟩, hW, hframe⟩
  jvm_step X.here [X.here.top, hx, hb, hdg, hmeth', hr, ret, narrow_b1]
  (try refine ⟨rfl, ?_⟩); (try refine ⟨rfl, ?_⟩)
  first | (intro acts; rw [hret _ acts rfl rfl rfl]) | rw [hret _ _ rfl rfl rfl]
  exact Steps.refl _
/-- what holds at the law's entry: the machine, the code, the tables' words (any of lw_tbl by 'hts w (by decide +kernel)'), the script of L ints xs at the cell b, what the Statement gives of the start (any of its parts by flat_of_before) -/
def lw_At (p : Program) (s : State) (m : MethodId) (meth : Method) (c : Code) (b L : Nat) (xs : Nat → Int32) : Prop :=
  p.tables.exec = Jvm.exec ∧ c.code = code ∧ meth.sig.returnType = ret ∧ c.maxLocals = 4 ∧ s.vm.findClass R_law = some m.cls ∧ (∀ w ∈ lw_tbl, w.before #[Value.ref b] s = true) ∧ va_X b L xs s s.heap ∧ b < s.heap.size ∧ meth.locks = false ∧ (Jvm.Cond.and given_1 narrow_1).before #[Value.ref b] s = true
theorem wi_X0 : Cond.instantiable RX0 5 ∈ lw_good := bk_in 263 (by decide +kernel) rfl
theorem wi_X1 : Cond.instantiable RX1 12 ∈ lw_good := bk_in 213 (by decide +kernel) rfl
theorem wi_X2 : Cond.instantiable RX2 2 ∈ lw_good := bk_in 285 (by decide +kernel) rfl
theorem wi_X3 : Cond.instantiable RX3 1 ∈ lw_good := bk_in 300 (by decide +kernel) rfl
theorem wi_X4 : Cond.instantiable RX4 8 ∈ lw_good := bk_in 167 (by decide +kernel) rfl
theorem wi_X5 : Cond.instantiable RX5 3 ∈ lw_good := bk_in 310 (by decide +kernel) rfl
theorem wi_X6 : Cond.instantiable RX6 3 ∈ lw_good := bk_in 113 (by decide +kernel) rfl
theorem wi_X7 : Cond.instantiable RX7 4 ∈ lw_good := bk_in 138 (by decide +kernel) rfl
theorem wi_X8 : Cond.instantiable RX8 16 ∈ lw_good := bk_in 105 (by decide +kernel) rfl
theorem wi_X9 : Cond.instantiable RX9 57 ∈ lw_good := bk_in 843 (by decide +kernel) rfl
theorem lw_nest : ∀ q ∈ bk_nest, Cond.methodLinkNest q.1 q.2.1 q.2.2.1 q.2.2.2 ∈ lw_tbl := List.forall_mem_cons.mpr ⟨List.mem_of_getElem? (i := 139) (by decide +kernel), List.forall_mem_cons.mpr ⟨List.mem_of_getElem? (i := 168) (by decide +kernel), List.forall_mem_cons.mpr ⟨List.mem_of_getElem? (i := 214) (by decide +kernel), List.forall_mem_cons.mpr ⟨List.mem_of_getElem? (i := 264) (by decide +kernel), List.forall_mem_cons.mpr ⟨List.mem_of_getElem? (i := 286) (by decide +kernel), List.forall_mem_cons.mpr ⟨List.mem_of_getElem? (i := 301) (by decide +kernel), List.forall_mem_cons.mpr ⟨List.mem_of_getElem? (i := 311) (by decide +kernel), List.forall_mem_cons.mpr ⟨List.mem_of_getElem? (i := 573) (by decide +kernel), List.forall_mem_cons.mpr ⟨List.mem_of_getElem? (i := 782) (by decide +kernel), fun _ h => absurd h List.not_mem_nil⟩⟩⟩⟩⟩⟩⟩⟩⟩
theorem lw_know {s : State} {args : Array Value} (hts : ∀ w ∈ lw_good, w.before args s = true) (hO : va_AO "BackHooks$Sheet" s) : ∃ (g : va_G) (ci : Nat → ClassId), ∀ a : Nat → Nat, va_K g vwCl (bk_tys (g, a, ci)) s := by
  obtain ⟨c0, i0, h0⟩ := u_known (C := RX0) (T := TX0) (N := 5) (n := 5) hts inX0 (hts _ wi_X0)
  obtain ⟨c1, i1, h1⟩ := u_known (C := RX1) (T := TX1) (N := 12) (n := 12) hts inX1 (hts _ wi_X1)
  obtain ⟨c2, i2, h2⟩ := u_known (C := RX2) (T := TX2) (N := 2) (n := 2) hts inX2 (hts _ wi_X2)
  obtain ⟨c3, i3, h3⟩ := u_known (C := RX3) (T := TX3) (N := 1) (n := 1) hts inX3 (hts _ wi_X3)
  obtain ⟨c4, i4, h4⟩ := u_known (C := RX4) (T := TX4) (N := 8) (n := 8) hts inX4 (hts _ wi_X4)
  obtain ⟨c5, i5, h5⟩ := u_known (C := RX5) (T := TX5) (N := 3) (n := 3) hts inX5 (hts _ wi_X5)
  obtain ⟨c6, i6, h6⟩ := u_known (C := RX6) (T := TX6) (N := 3) (n := 3) hts inX6 (hts _ wi_X6)
  obtain ⟨c7, i7, h7⟩ := u_known (C := RX7) (T := TX7) (N := 4) (n := 4) hts inX7 (hts _ wi_X7)
  obtain ⟨c8, i8, h8⟩ := u_known (C := RX8) (T := TX8) (N := 16) (n := 16) hts inX8 (hts _ wi_X8)
  obtain ⟨c9, i9, h9⟩ := u_known (C := RX9) (T := TX9) (N := 57) (n := 57) hts inX9 (hts _ wi_X9)
  obtain ⟨cA, kA, compA, a1, a2, a3⟩ := Cond.arrayClass_spec (hts _ ct_ai)
  obtain ⟨cB, kB, compB, b1, b2, b3⟩ := Cond.arrayClass_spec (hts _ ct_az)
  obtain ⟨compS, cS, kS, d1, d2, d3, d4, d5⟩ := Cond.arrayOver_spec hO
  refine ⟨(fun k => match k with | 0 => c0 | 1 => c1 | 2 => c2 | 3 => c3 | 4 => c4 | 5 => c5 | 6 => c6 | 7 => c7 | 8 => c8 | _ => c9, fun k => match k with | 0 => i0 | 1 => i1 | 2 => i2 | 3 => i3 | 4 => i4 | 5 => i5 | 6 => i6 | 7 => i7 | 8 => i8 | _ => i9), fun k => match k with | 0 => cA | 1 => cB | _ => cS, fun a => ⟨?_, ?_⟩⟩
  · intro k q hq
    match k, hq with
    | 0, hq => cases hq; exact h0
    | 1, hq => cases hq; exact h1
    | 2, hq => cases hq; exact h2
    | 3, hq => cases hq; exact h3
    | 4, hq => cases hq; exact h4
    | 5, hq => cases hq; exact h5
    | 6, hq => cases hq; exact h6
    | 7, hq => cases hq; exact h7
    | 8, hq => cases hq; exact h8
    | 9, hq => cases hq; exact h9
    | k + 10, hq => cases hq
  · intro k q hq
    match k, hq with
    | 0, hq => cases hq; exact ⟨fun n z => ⟨fun k h => (by cases h), kA, a2, compA, a3⟩, a1⟩
    | 1, hq => cases hq; exact ⟨fun n z => ⟨fun k h => (by cases h), kB, b2, compB, b3⟩, b1⟩
    | 2, hq => cases hq; exact ⟨fun n z => ⟨fun k h => (by cases h), kS, d3, compS, d4⟩, kS, compS, d3, d4, d1, d5⟩
    | k + 3, hq => cases hq
/-- the two worlds' addresses are apart -/
theorem lw_D {A : Nat → Prop} {g : va_G} {ci : Nat → ClassId} {aC aM : Nat → Nat} {σ τ : bk_S} {Y Y' : bk_Y} (hD : va_D A (bk_wl Y (g, aC, ci) σ ++ bk_wl Y' (g, aM, ci) τ)) : bk_D (bl_Y Y Y') (g, fun k => if k < Y.2 then aC k else aM (k - Y.2), ci) A := by
  have get1 : ∀ k, (k < Y.2 ∧ bk_rl Y k = true) → ∃ x, (bk_wl Y (g, aC, ci) σ ++ bk_wl Y' (g, aM, ci) τ)[bk_ps Y k]? = some (aC k, x) := fun k hk => by
    have h := bk_wl_get Y (g, aC, ci) σ hk
    exact ⟨_, by rw [List.getElem?_append_left (List.getElem?_eq_some_iff.mp h).1]; exact h⟩
  have get2 : ∀ k, (k < Y'.2 ∧ bk_rl Y' k = true) → ∃ x, (bk_wl Y (g, aC, ci) σ ++ bk_wl Y' (g, aM, ci) τ)[bk_ps Y Y.2 + bk_ps Y' k]? = some (aM k, x) := fun k hk => by
    have h := bk_wl_get Y' (g, aM, ci) τ hk
    have e : (bk_wl Y (g, aC, ci) σ).length = bk_ps Y Y.2 := bk_wf_len Y _ σ Y.2
    exact ⟨_, by rw [List.getElem?_append_right (by rw [e]; omega), e, Nat.add_sub_cancel_left]; exact h⟩
  have split : ∀ k, (k < (bl_Y Y Y').2 ∧ bk_rl (bl_Y Y Y') k = true) → ((k < Y.2 ∧ bk_rl Y k = true) ∧ (if k < Y.2 then aC k else aM (k - Y.2)) = aC k) ∨ ∃ k', k = Y.2 + k' ∧ (k' < Y'.2 ∧ bk_rl Y' k' = true) ∧ (if k < Y.2 then aC k else aM (k - Y.2)) = aM k' := fun k hk => by
    rcases Nat.lt_or_ge k Y.2 with h | h
    · exact Or.inl ⟨⟨h, by rw [← bl_rl1 Y Y' h]; exact hk.2⟩, if_pos h⟩
    · obtain ⟨k', rfl⟩ : ∃ k', k = Y.2 + k' := ⟨k - Y.2, by omega⟩
      have h1 : Y.2 + k' < Y.2 + Y'.2 := hk.1
      exact Or.inr ⟨k', rfl, ⟨by omega, by rw [← bl_rl2 Y Y' k']; exact hk.2⟩, by rw [if_neg (by omega), Nat.add_sub_cancel_left]⟩
  refine ⟨fun i j hi hj e => ?_, fun k hk => ?_⟩
  · have e : (if i < Y.2 then aC i else aM (i - Y.2)) = (if j < Y.2 then aC j else aM (j - Y.2)) := e
    rcases split i hi with ⟨h1, e1⟩ | ⟨i', rfl, h1, e1⟩ <;> rcases split j hj with ⟨h2, e2⟩ | ⟨j', rfl, h2, e2⟩
    · obtain ⟨x, hx⟩ := get1 i h1
      obtain ⟨y, hy⟩ := get1 j h2
      exact bk_ps_inj Y h1.2 h2.2 (hD.1 _ _ _ _ hx hy (by rw [e1, e2] at e; exact e))
    · obtain ⟨x, hx⟩ := get1 i h1
      obtain ⟨y, hy⟩ := get2 j' h2
      have := hD.1 _ _ _ _ hx hy (by rw [e1, e2] at e; exact e)
      have := bk_ps_lt Y h1.1 h1.2
      omega
    · obtain ⟨x, hx⟩ := get2 i' h1
      obtain ⟨y, hy⟩ := get1 j h2
      have := hD.1 _ _ _ _ hx hy (by rw [e1, e2] at e; exact e)
      have := bk_ps_lt Y h2.1 h2.2
      omega
    · obtain ⟨x, hx⟩ := get2 i' h1
      obtain ⟨y, hy⟩ := get2 j' h2
      have h3 := hD.1 _ _ _ _ hx hy (by rw [e1, e2] at e; exact e)
      rw [bk_ps_inj Y' h1.2 h2.2 (by omega)]
  · show A (if k < Y.2 then aC k else aM (k - Y.2))
    rcases split k hk with ⟨h1, e1⟩ | ⟨k', rfl, h1, e1⟩
    · obtain ⟨x, hx⟩ := get1 k h1
      rw [e1]; exact hD.2 _ _ hx
    · obtain ⟨x, hx⟩ := get2 k' h1
      rw [e1]; exact hD.2 _ _ hx
theorem lw_wM (g : va_G) (ci : Nat → ClassId) (aC aM : Nat → Nat) (d : Nat) : bl_w d (g, fun k => if k < d then aC k else aM (k - d), ci) = (g, aM, ci) := by
  show (g, (fun k => if d + k < d then aC (d + k) else aM (d + k - d)), ci) = (g, aM, ci)
  congr 2
  funext k
  rw [if_neg (by omega), Nat.add_sub_cancel_left]
theorem lw_PC {g : va_G} {ci : Nat → ClassId} {aC aM : Nat → Nat} {H : Heap} (hP : va_P g vwCl (bk_wl lyC (g, aC, ci) sg0) H) : va_P g vwCl (bk_wl lyC (g, fun k => if k < lyC.2 then aC k else aM (k - lyC.2), ci) sg0) H := by
  have h1 := ct_lsC (g, aC, ci)
  have h2 := ct_lsC (g, fun k => if k < lyC.2 then aC k else aM (k - lyC.2), ci)
  rw [List.append_nil] at h1 h2
  have hP : va_P g vwCl (bk_wf lyC (g, aC, ci) sg0 65) H := hP
  show va_P g vwCl (bk_wf lyC (g, fun k => if k < lyC.2 then aC k else aM (k - lyC.2), ci) sg0 65) H
  rw [h1] at hP
  rw [h2]
  exact ct_swapP (i := 13) (f' := fun j => some (bk_r (g, fun k => if k < lyC.2 then aC k else aM (k - lyC.2), ci) (14 + 2 * j))) hP rfl (fun j hj => by match j, hj with | 0, _ => rfl | 1, _ => rfl | 2, _ => rfl | 3, _ => rfl)
set_option maxHeartbeats 4000000 in
set_option maxRecDepth 100000 in
theorem whole_start {p : Program} {e : Env} {s : State} {m : MethodId} {below : List Frame} {meth : Method} {c : Code} (l : Launch) (hflags : l.flags = flags0) {b L : Nat} {xs : Nat → Int32} (hL : L ≤ 3072) (C0 : lw_At p s m meth c b L xs) : W p l e room_1 s m #[Value.ref b] below meth c s.heap [] 0 0 (lw_Z below #[Value.ref b] s) (entryFrame m ([Value.ref b] : List Value).toArray 4) := by
  obtain ⟨hx, hb, hr, hml, hown, hts, hXs, hbl, hlocks, hgv⟩ := C0
  have htg : ∀ w ∈ lw_good, w.before #[Value.ref b] s = true := fun w h => hts w (List.mem_filter.mp h).1
  have hN : bk_N s := fun q hq => va_tabs rfl rfl (hts _ (lw_nest q hq))
  have hO : va_AO "BackHooks$Sheet" s := va_AO.of (hts _ (List.mem_of_getElem? (i := 165) (by decide +kernel)))
  obtain ⟨g, ci, hK⟩ := lw_know htg hO
  obtain ⟨X, eX⟩ : ∃ X : bk_X, X = ((p, l, e, room_1, s, m, #[Value.ref b], below, meth, c), (4, 600000, 7302250, lw_Z below #[Value.ref b] s, fun q => s.heap.size ≤ q)) := ⟨_, rfl⟩
  have hC : ct_Ok (g, fun _ => 0, ci) X code RL 4 13 526 600000 7302250 := by
    subst eX
    exact ⟨hx, hb, hml, hown, htg, hK _, hN, hO, fun _ h => h, rfl, Nat.le_of_ble_eq_true rfl, Nat.le_of_ble_eq_true rfl, Nat.le_of_ble_eq_true rfl, Nat.le_of_ble_eq_true rfl⟩
  have main : ct_At (g, fun _ => 0, ci) X 0 [(0, .ref b)] [] [] 0 0 := by
    refine ct_new hC cn_L_7 ⟨Nat.le_of_ble_eq_true rfl, Nat.le_of_ble_eq_true rfl⟩ dL_law_0 (fun q => ?_)
    refine ct_dup hC rfl dL_law_3 ?_
    refine ct_callI hC (c0 := 1) (s0 := 16) (ws := []) [] [.ref q] yk_X8_init rfl yi_X8 lk_L_9 rfl rfl (Nat.le_of_ble_eq_true rfl) ⟨Nat.le_of_ble_eq_true rfl, Nat.le_of_ble_eq_true rfl⟩ ⟨Nat.le_of_ble_eq_true rfl, Nat.le_of_ble_eq_true rfl⟩ dL_law_4 (k_X8 _ q) (fun w1 hw1 => ?_)
    obtain ⟨aC, hq1, hwC⟩ := hw1
    subst hq1
    refine ct_sh w1 65 1772 (List.nil_append _) rfl rfl ?_
    refine ct_astore_n hC [(1, .ref (aC 0)), (0, .ref b)] dL_law_7 (Nat.le_of_ble_eq_true rfl) rfl ?_
    refine ct_new hC cn_L_10 ⟨Nat.le_of_ble_eq_true rfl, Nat.le_of_ble_eq_true rfl⟩ dL_law_8 (fun q => ?_)
    refine ct_dup hC rfl dL_law_11 ?_
    refine ct_callI hC (c0 := 66) (s0 := 1829) (ws := w1) [] [.ref q] yk_X9_init rfl yi_X9 lk_L_12 rfl rfl (Nat.le_of_ble_eq_true rfl) ⟨Nat.le_of_ble_eq_true rfl, Nat.le_of_ble_eq_true rfl⟩ ⟨Nat.le_of_ble_eq_true rfl, Nat.le_of_ble_eq_true rfl⟩ dL_law_12 (k_X9 _ q) (fun w2 hw2 => ?_)
    obtain ⟨aM, hq2, hwM⟩ := hw2
    subst hq2
    refine ct_astore_n hC [(2, .ref (aM 0)), (1, .ref (aC 0)), (0, .ref b)] dL_law_15 (Nat.le_of_ble_eq_true rfl) rfl ?_
    refine ct_iconst hC bk_ci_0 dL_law_16 ?_
    refine ct_istore_n hC [(3, .int 0), (2, .ref (aM 0)), (1, .ref (aC 0)), (0, .ref b)] dL_law_17 (Nat.le_of_ble_eq_true rfl) rfl ?_
    subst eX
    intro H locs ls hP hD hS hl
    have hP : va_P g vwCl (w1 ++ w2) H := hP
    rw [hwC, hwM] at hP hD
    have hP1 := lw_PC (aM := aM) (bl_P1 hP)
    have hP2 : va_P g vwCl (bk_wl lyM (bl_w lyC.2 (g, fun k => if k < lyC.2 then aC k else aM (k - lyC.2), ci)) tz0) H := by rw [lw_wM]; exact bl_P2 hP
    refine W.widen (k := 600000) (n := 7302250) (Nat.le_of_ble_eq_true rfl) (Nat.le_of_ble_eq_true rfl) ?_
    refine lw_loop (w := (g, fun k => if k < lyC.2 then aC k else aM (k - lyC.2), ci)) (X := ((p, l, e, room_1, s, m, #[Value.ref b], below, meth, c), (4, 600000, 7302250, lw_Z below #[Value.ref b] s, fun q => s.heap.size ≤ q))) (xs := xs) ⟨hx, hb, hml, hown, htg, hK _, hN, lw_D hD, fun _ h => h, rfl, (Nat.le_of_ble_eq_true rfl), (Nat.le_of_ble_eq_true rfl), (Nat.le_of_ble_eq_true rfl), (Nat.le_of_ble_eq_true rfl)⟩ ⟨hXs, hbl, Nat.not_le.mpr hbl⟩ hL ?_ (L + 1) 0 sg0 tz0 (by omega) (by omega) sg_RR H locs ls (by rw [bl_wl]; exact va_P.app hP1 hP2) hS ?_
    · intro lv σ H locs ls hP hS hl
      exact lv_iconst hx hb dL_law_1255 (by decide) (va_forget (fun q hq => hS.2.2 q hq) (lw_ret hx hb hr hlocks dL_law_1256))
    · exact hl
  rw [lg_entry_eq]
  subst eX
  exact main s.heap [] _ (fun k q h => by simp at h) ⟨fun i j p q h => by simp at h, fun k q h => by simp at h⟩ va_S.rf (lv_entry ([.ref b]) (n := 4) (Nat.le_of_ble_eq_true rfl))
