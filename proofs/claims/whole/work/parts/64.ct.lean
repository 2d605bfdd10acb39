/-! Constructors: the list of cells grows. -/
def ct_At (w : bk_W) (X : bk_X) (pc : Nat) (lv : List (Nat × Value)) (st : List Value) (ws : va_W) (c0 s0 : Nat) : Prop := match X with
  | ((p, l, e, R, s, m, args, below, meth, c), (nL, _, _, Q, A)) => ∀ (H : Heap) (locs : List Loc) (ls : Array Slot), va_P w.1 vwCl ws H → va_D A ws → va_S A s.heap H locs → lv_has ls nL lv → W p l e R s m args below meth c H locs c0 s0 Q (F0 m pc ls st)
def ct_Ok (w : bk_W) (X : bk_X) (cc : ByteArray) (own : String) (n fr lo ce sl : Nat) : Prop := match X with
  | ((p, _, _, R, s, m, args, _, _, c), (nL, _, _, _, A)) => p.tables.exec = Jvm.exec ∧ c.code = cc ∧ c.maxLocals = nL ∧ s.vm.findClass own = some m.cls ∧ (∀ w ∈ lw_good, w.before args s = true) ∧ va_K w.1 vwCl (bk_tys w) s ∧ bk_N s ∧ va_AO "BackHooks$Sheet" s ∧ (∀ q, s.heap.size ≤ q → A q) ∧ nL = n ∧ fr ≤ R.frames ∧ lo ≤ R.locals ∧ ce ≤ R.cells ∧ sl ≤ R.slots
def ct_In (X : bk_X) : Prop := match X with
  | ((_, _, _, _, _, _, _, _, meth, _), _) => meth.name = "<init>"
section CtRows
variable {w : bk_W} {X : bk_X} {cc : ByteArray} {own : String} {n fr lo ce sl pc c0 s0 : Nat} {lv : List (Nat × Value)} {st : List Value} {ws : va_W}
theorem ct_iload_n (hX : ct_Ok w X cc own n fr lo ce sl) (j : Nat) {i : Fin 4} {x : Int32} (d : decode cc pc = .ok (.iload_n i, 1)) (h : lv[j]? = some ((i : Nat), .int x)) (k : ct_At w X (pc + 1) lv (.int x :: st) ws c0 s0) : ct_At w X pc lv st ws c0 s0 := by
  obtain ⟨⟨p, l, e, R, s, m, args, below, meth, c⟩, nL, cells, slots, Q, A⟩ := X
  obtain ⟨hx, hb, hml, hown, hts, hK, hN, hO, hA, rfl, hfr, hlo, hce, hsl⟩ := hX
  exact fun H locs ls hP hD hS hl => lv_iload_n hx hb d rfl (lv_at hl j h) (k H locs ls hP hD hS hl)
theorem ct_aload_n (hX : ct_Ok w X cc own n fr lo ce sl) (j : Nat) {i : Fin 4} {x : Nat} (d : decode cc pc = .ok (.aload_n i, 1)) (h : lv[j]? = some ((i : Nat), .ref x)) (k : ct_At w X (pc + 1) lv (.ref x :: st) ws c0 s0) : ct_At w X pc lv st ws c0 s0 := by
  obtain ⟨⟨p, l, e, R, s, m, args, below, meth, c⟩, nL, cells, slots, Q, A⟩ := X
  obtain ⟨hx, hb, hml, hown, hts, hK, hN, hO, hA, rfl, hfr, hlo, hce, hsl⟩ := hX
  exact fun H locs ls hP hD hS hl => lv_aload_n hx hb d rfl (lv_at hl j h) (k H locs ls hP hD hS hl)
theorem ct_bipush (hX : ct_Ok w X cc own n fr lo ce sl) {i : Int} {v : Int32} (hv : (Int8.ofInt i).toInt32 = v) (d : decode cc pc = .ok (.bipush i, 2)) (k : ct_At w X (pc + 2) lv (.int v :: st) ws c0 s0) : ct_At w X pc lv (st) ws c0 s0 := by
  obtain ⟨⟨p, l, e, R, s, m, args, below, meth, c⟩, nL, cells, slots, Q, A⟩ := X
  obtain ⟨hx, hb, hml, hown, hts, hK, hN, hO, hA, rfl, hfr, hlo, hce, hsl⟩ := hX
  exact fun H locs ls hP hD hS hl => lv_bipush hx hb d hv (k H locs ls hP hD hS hl)
theorem ct_sipush (hX : ct_Ok w X cc own n fr lo ce sl) {i : Int} {v : Int32} (hv : (Int16.ofInt i).toInt32 = v) (d : decode cc pc = .ok (.sipush i, 3)) (k : ct_At w X (pc + 3) lv (.int v :: st) ws c0 s0) : ct_At w X pc lv (st) ws c0 s0 := by
  obtain ⟨⟨p, l, e, R, s, m, args, below, meth, c⟩, nL, cells, slots, Q, A⟩ := X
  obtain ⟨hx, hb, hml, hown, hts, hK, hN, hO, hA, rfl, hfr, hlo, hce, hsl⟩ := hX
  exact fun H locs ls hP hD hS hl => lv_sipush hx hb d hv (k H locs ls hP hD hS hl)
theorem ct_iconst (hX : ct_Ok w X cc own n fr lo ce sl) {i : Int} {v : Int32} (hv : Int32.ofInt i = v) (d : decode cc pc = .ok (.iconst i, 1)) (k : ct_At w X (pc + 1) lv (.int v :: st) ws c0 s0) : ct_At w X pc lv (st) ws c0 s0 := by
  obtain ⟨⟨p, l, e, R, s, m, args, below, meth, c⟩, nL, cells, slots, Q, A⟩ := X
  obtain ⟨hx, hb, hml, hown, hts, hK, hN, hO, hA, rfl, hfr, hlo, hce, hsl⟩ := hX
  exact fun H locs ls hP hD hS hl => lv_iconst hx hb d hv (k H locs ls hP hD hS hl)
theorem ct_dup (hX : ct_Ok w X cc own n fr lo ce sl) {va : Value} (hv : va.category = 1) (d : decode cc pc = .ok (.dup, 1)) (k : ct_At w X (pc + 1) lv (va :: va :: st) ws c0 s0) : ct_At w X pc lv (va :: st) ws c0 s0 := by
  obtain ⟨⟨p, l, e, R, s, m, args, below, meth, c⟩, nL, cells, slots, Q, A⟩ := X
  obtain ⟨hx, hb, hml, hown, hts, hK, hN, hO, hA, rfl, hfr, hlo, hce, hsl⟩ := hX
  exact fun H locs ls hP hD hS hl => lv_dup hx hb d hv (k H locs ls hP hD hS hl)
theorem ct_goto (hX : ct_Ok w X cc own n fr lo ce sl) {off : Int} (tgt : Nat) (d : decode cc pc = .ok (.goto off, 3)) (ht : (pc : Int) + off = (tgt : Int)) (k : ct_At w X tgt lv st ws c0 s0) : ct_At w X pc lv st ws c0 s0 := by
  obtain ⟨⟨p, l, e, R, s, m, args, below, meth, c⟩, nL, cells, slots, Q, A⟩ := X
  obtain ⟨hx, hb, hml, hown, hts, hK, hN, hO, hA, rfl, hfr, hlo, hce, hsl⟩ := hX
  exact fun H locs ls hP hD hS hl => lv_goto hx hb d ht (k H locs ls hP hD hS hl)
theorem ct_astore_n (hX : ct_Ok w X cc own n fr lo ce sl) (lv' : List (Nat × Value)) {i : Fin 4} {x : Nat} (d : decode cc pc = .ok (.astore_n i, 1)) (hn : (i : Nat) < n) (h : ((i : Nat), Value.ref x) :: lv.filter (fun q => !(q.1 == (i : Nat)) && !(q.1 + 1 == (i : Nat) && q.2.category == 2)) = lv') (k : ct_At w X (pc + 1) lv' st ws c0 s0) : ct_At w X pc lv (.ref x :: st) ws c0 s0 := by
  obtain ⟨⟨p, l, e, R, s, m, args, below, meth, c⟩, nL, cells, slots, Q, A⟩ := X
  obtain ⟨hx, hb, hml, hown, hts, hK, hN, hO, hA, rfl, hfr, hlo, hce, hsl⟩ := hX
  exact fun H locs ls hP hD hS hl => lv_astore_n hx hb d rfl hl hn h (fun ls hl => k H locs ls hP hD hS hl)
theorem ct_istore_n (hX : ct_Ok w X cc own n fr lo ce sl) (lv' : List (Nat × Value)) {i : Fin 4} {x : Int32} (d : decode cc pc = .ok (.istore_n i, 1)) (hn : (i : Nat) < n) (h : ((i : Nat), Value.int x) :: lv.filter (fun q => !(q.1 == (i : Nat)) && !(q.1 + 1 == (i : Nat) && q.2.category == 2)) = lv') (k : ct_At w X (pc + 1) lv' st ws c0 s0) : ct_At w X pc lv (.int x :: st) ws c0 s0 := by
  obtain ⟨⟨p, l, e, R, s, m, args, below, meth, c⟩, nL, cells, slots, Q, A⟩ := X
  obtain ⟨hx, hb, hml, hown, hts, hK, hN, hO, hA, rfl, hfr, hlo, hce, hsl⟩ := hX
  exact fun H locs ls hP hD hS hl => lv_istore_n hx hb d rfl hl hn h (fun ls hl => k H locs ls hP hD hS hl)
theorem ct_iinc (hX : ct_Ok w X cc own n fr lo ce sl) (j : Nat) (lv' : List (Nat × Value)) {i : Nat} {a : Int} {x v0 v : Int32} (d : decode cc pc = .ok (.iinc i a, 3)) (hj : lv[j]? = some (i, .int x)) (hv : Int32.ofInt a = v0) (hv2 : x + v0 = v) (hn : i < n) (h : (i, Value.int v) :: lv.filter (fun q => !(q.1 == i) && !(q.1 + 1 == i && q.2.category == 2)) = lv') (k : ct_At w X (pc + 3) lv' st ws c0 s0) : ct_At w X pc lv st ws c0 s0 := by
  obtain ⟨⟨p, l, e, R, s, m, args, below, meth, c⟩, nL, cells, slots, Q, A⟩ := X
  obtain ⟨hx, hb, hml, hown, hts, hK, hN, hO, hA, rfl, hfr, hlo, hce, hsl⟩ := hX
  exact fun H locs ls hP hD hS hl => lv_iinc (v := v) hx hb d hl hj (by rw [hv, hv2]) hn h (fun ls hl => k H locs ls hP hD hS hl)
theorem ct_icmp_ge_t (hX : ct_Ok w X cc own n fr lo ce sl) {x y : Int32} {off : Int} (tgt : Nat) (d : decode cc pc = .ok (.if_icmp .ge off, 3)) (ht : (pc : Int) + off = (tgt : Int)) (hxy : y ≤ x) (k : ct_At w X tgt lv st ws c0 s0) : ct_At w X pc lv (.int y :: .int x :: st) ws c0 s0 := by
  obtain ⟨⟨p, l, e, R, s, m, args, below, meth, c⟩, nL, cells, slots, Q, A⟩ := X
  obtain ⟨hx, hb, hml, hown, hts, hK, hN, hO, hA, rfl, hfr, hlo, hce, hsl⟩ := hX
  exact fun H locs ls hP hD hS hl => lv_icmp_ge hx hb d ht (fun _ => k H locs ls hP hD hS hl) (fun h => absurd hxy h)
theorem ct_icmp_ge_f (hX : ct_Ok w X cc own n fr lo ce sl) {x y : Int32} {off : Int} (tgt : Nat) (d : decode cc pc = .ok (.if_icmp .ge off, 3)) (ht : (pc : Int) + off = (tgt : Int)) (hxy : ¬ y ≤ x) (k : ct_At w X (pc + 3) lv st ws c0 s0) : ct_At w X pc lv (.int y :: .int x :: st) ws c0 s0 := by
  obtain ⟨⟨p, l, e, R, s, m, args, below, meth, c⟩, nL, cells, slots, Q, A⟩ := X
  obtain ⟨hx, hb, hml, hown, hts, hK, hN, hO, hA, rfl, hfr, hlo, hce, hsl⟩ := hX
  exact fun H locs ls hP hD hS hl => lv_icmp_ge hx hb d ht (fun h => absurd h hxy) (fun _ => k H locs ls hP hD hS hl)
theorem ct_min (hX : ct_Ok w X cc own n fr lo ce sl) {i : Nat} {x y v : Int32} (hl1 : Cond.methodLink own i Lib.Math.min.name ∈ lw_good) (hv : (if y < x then y else x) = v) (hr1 : 1 ≤ fr) (hr2 : (st.map fun v => v.category).sum + 13 ≤ lo) (hC : c0 ≤ ce ∧ s0 ≤ sl) (d : decode cc pc = .ok (.invokestatic i, 3)) (k : ct_At w X (pc + 3) lv (.int v :: st) ws c0 s0) : ct_At w X pc lv (.int y :: .int x :: st) ws c0 s0 := by
  obtain ⟨⟨p, l, e, R, s, m, args, below, meth, c⟩, nL, cells, slots, Q, A⟩ := X
  obtain ⟨hx, hb, hml, hown, hts, hK, hN, hO, hA, rfl, hfr, hlo, hce, hsl⟩ := hX
  subst hv
  exact fun H locs ls hP hD hS hl => va_mmin hx hb (by rw [hml]; exact hl.1.symm) hown (hts _ hl1) (hts _ wd_min_s) (hts _ wd_math) (hts _ wd_min_c) (by omega) (by omega) (Nat.le_trans hC.1 hce) (Nat.le_trans hC.2 hsl) d (k H locs ls hP hD hS hl)
theorem ct_oi : Cond.instanceMethod objectInit ∈ lw_good := bk_in 110 (by decide +kernel) rfl
theorem ct_oc : Cond.code objectInit ⟨#[0xb1]⟩ 1 none ∈ lw_good := bk_in 111 (by decide +kernel) rfl
theorem ct_objInit (hX : ct_Ok w X cc own n fr lo ce sl) {i a : Nat} (hlk : Cond.methodLink own i objectInit ∈ lw_good) (hr1 : 1 ≤ fr) (hcat : (st.map fun v => v.category).sum ≤ 8) (hr2 : 20 ≤ lo) (d : decode cc pc = .ok (.invokespecial i, 3)) (k : ct_At w X (pc + 3) lv st ws c0 s0) : ct_At w X pc lv (.ref a :: st) ws c0 s0 := by
  obtain ⟨⟨p, l, e, R, s, m, args, below, meth, c⟩, nL, cells, slots, Q, A⟩ := X
  obtain ⟨hx, hb, hml, hown, hts, hK, hN, hO, hA, rfl, hfr, hlo, hce, hsl⟩ := hX
  exact fun H locs ls hP hD hS hl => W.objInit hx hb hown (hts _ hlk) (hts _ ct_oi) (hts _ ct_oc) rfl (by rw [hml]; exact hl.1) rfl d (Nat.le_trans hr1 hfr) (Nat.le_trans (Nat.add_le_add_right (lv_room hcat) 12) (Nat.le_trans hr2 hlo)) (k H locs ls hP hD hS hl)
theorem ct_ai : Cond.arrayClass .int ∈ lw_good := bk_in 136 (by decide +kernel) rfl
theorem ct_az : Cond.arrayClass .boolean ∈ lw_good := bk_in 1020 (by decide +kernel) rfl
theorem ct_newa (hX : ct_Ok w X cc own n fr lo ce sl) {N : Nat} {v : Int32} (hn : ¬ v < 0) (hNv : v.toNatClampNeg = N) (hN2 : N * componentBytes .int ≤ 536870912) (hC : c0 + 1 ≤ ce ∧ s0 + N ≤ sl) (d : decode cc pc = .ok (.newarray .int, 2)) (k : ∀ q, ct_At w X (pc + 2) lv (.ref q :: st) (ws ++ [(q, .inl (w.2.2 0, N, .inl (fun _ => 0)))]) (c0 + 1) (s0 + N)) : ct_At w X pc lv (.int v :: st) ws c0 s0 := by
  obtain ⟨⟨p, l, e, R, s, m, args, below, meth, c⟩, nL, cells, slots, Q, A⟩ := X
  obtain ⟨hx, hb, hml, hown, hts, hK, hN, hO, hA, rfl, hfr, hlo, hce, hsl⟩ := hX
  intro H locs ls hP hD hS hl
  refine va_newa (atype := .int) (ty := .int) (a0 := (N, .inl (fun _ => 0))) hx hb (hts _ ct_ai) rfl hK hP hD hS hA (fun _ => rfl) hn hNv hN2 (Nat.le_trans hC.1 hce) (Nat.le_trans hC.2 hsl) d (fun q cA H1 hK1 hP1 hD1 hS1 => ?_)
  have e1 := (hK.2 0 _ rfl).2
  have e2 := (hK1.2 3 _ rfl).2
  have e : cA = w.2.2 0 := Option.some.inj (e2.symm.trans e1)
  subst e
  exact k q H1 locs ls hP1 hD1 hS1 hl
theorem ct_newz (hX : ct_Ok w X cc own n fr lo ce sl) {N : Nat} {v : Int32} (hn : ¬ v < 0) (hNv : v.toNatClampNeg = N) (hN2 : N * componentBytes .boolean ≤ 536870912) (hC : c0 + 1 ≤ ce ∧ s0 + N ≤ sl) (d : decode cc pc = .ok (.newarray .boolean, 2)) (k : ∀ q, ct_At w X (pc + 2) lv (.ref q :: st) (ws ++ [(q, .inl (w.2.2 1, N, .inl (fun _ => 0)))]) (c0 + 1) (s0 + N)) : ct_At w X pc lv (.int v :: st) ws c0 s0 := by
  obtain ⟨⟨p, l, e, R, s, m, args, below, meth, c⟩, nL, cells, slots, Q, A⟩ := X
  obtain ⟨hx, hb, hml, hown, hts, hK, hN, hO, hA, rfl, hfr, hlo, hce, hsl⟩ := hX
  intro H locs ls hP hD hS hl
  refine va_newa (atype := .boolean) (ty := .boolean) (a0 := (N, .inl (fun _ => 0))) hx hb (hts _ ct_az) rfl hK hP hD hS hA (fun _ => rfl) hn hNv hN2 (Nat.le_trans hC.1 hce) (Nat.le_trans hC.2 hsl) d (fun q cA H1 hK1 hP1 hD1 hS1 => ?_)
  have e1 := (hK.2 1 _ rfl).2
  have e2 := (hK1.2 3 _ rfl).2
  have e : cA = w.2.2 1 := Option.some.inj (e2.symm.trans e1)
  subst e
  exact k q H1 locs ls hP1 hD1 hS1 hl
theorem ct_newq (hX : ct_Ok w X cc own n fr lo ce sl) {i N : Nat} {v : Int32} (hlk : Cond.classLink own i "BackHooks$Sheet" ∈ lw_good) (hn : ¬ v < 0) (hNv : v.toNatClampNeg = N) (hN2 : N * 4 ≤ 536870912) (hC : c0 + 1 ≤ ce ∧ s0 + N ≤ sl) (d : decode cc pc = .ok (.anewarray i, 3)) (k : ∀ q, ct_At w X (pc + 3) lv (.ref q :: st) (ws ++ [(q, .inl (w.2.2 2, N, .inr (.inr (.inr (.inr (fun _ => none))))))]) (c0 + 1) (s0 + N)) : ct_At w X pc lv (.int v :: st) ws c0 s0 := by
  obtain ⟨⟨p, l, e, R, s, m, args, below, meth, c⟩, nL, cells, slots, Q, A⟩ := X
  obtain ⟨hx, hb, hml, hown, hts, hK, hN, hO, hA, rfl, hfr, hlo, hce, hsl⟩ := hX
  intro H locs ls hP hD hS hl
  refine va_newq hx hb hown (hts _ hlk) hO hK hP hD hS hA hn hNv hN2 (Nat.le_trans hC.1 hce) (Nat.le_trans hC.2 hsl) d (fun q cA H1 hK1 hP1 hD1 hS1 => ?_)
  obtain ⟨_, _, _, _, _, e1⟩ := (hK.2 2 _ rfl).2
  obtain ⟨_, _, _, _, _, e2⟩ := (hK1.2 3 _ rfl).2
  have e : cA = w.2.2 2 := Option.some.inj (e2.symm.trans e1)
  subst e
  exact k q H1 locs ls hP1 hD1 hS1 hl
/-- a class that is made here -/
def ct_Nw (own : String) (i ci N : Nat) (fs : List Value) : Prop := ∃ (C : String) (T : u_T) (t0 : Nat → FieldType), vwCl[ci]? = some (C, T, N) ∧ (∀ w ∈ u_ws C T N, w ∈ lw_good) ∧ (∀ k, k < N → parseFieldDescriptor (T k).2.2.1 = some (t0 k)) ∧ Cond.classLink own i C ∈ lw_good ∧ Cond.instantiable C N ∈ lw_good ∧ Cond.initialized C ∈ lw_good ∧ ∀ j, j < N → defaultValue (t0 j) = vp_V fs j
theorem ct_new (hX : ct_Ok w X cc own n fr lo ce sl) {i ci N : Nat} {fs : List Value} (hw : ct_Nw own i ci N fs) (hC : c0 + 1 ≤ ce ∧ s0 + N ≤ sl) (d : decode cc pc = .ok (.new i, 3)) (k : ∀ q, ct_At w X (pc + 3) lv (.ref q :: st) (ws ++ [(q, .inr (ci, fs))]) (c0 + 1) (s0 + N)) : ct_At w X pc lv st ws c0 s0 := by
  obtain ⟨⟨p, l, e, R, s, m, args, below, meth, c⟩, nL, cells, slots, Q, A⟩ := X
  obtain ⟨hx, hb, hml, hown, hts, hK, hN, hO, hA, rfl, hfr, hlo, hce, hsl⟩ := hX
  obtain ⟨C, T, t0, h1, h2, h3, h4, h5, h6, h7⟩ := hw
  exact fun H locs ls hP hD hS hl => va_new (ci := ci) hx hb hts h2 t0 h3 hown (hts _ h4) (hts _ h5) (hts _ h6) hK hP hD hS hA h1 h7 (Nat.le_trans hC.1 hce) (Nat.le_trans hC.2 hsl) d (fun q H1 hP1 hD1 hS1 => k q H1 locs ls hP1 hD1 hS1 hl)
/-- a field of its own that a constructor writes -/
def ct_Fp (own : String) (i ci j : Nat) (ty : FieldType) (fin : Bool) : Prop := ∃ (C : String) (T : u_T) (N : Nat) (t0 : Nat → FieldType), vwCl[ci]? = some (C, T, N) ∧ (∀ w ∈ u_ws C T N, w ∈ lw_good) ∧ j < N ∧ Cond.fieldLink own i (T j).1 (T j).2.1 (T j).2.2.1 ∈ lw_good ∧ (∀ k, k < N → parseFieldDescriptor (T k).2.2.1 = some (t0 k)) ∧ (∀ a, a < N → ∀ b, b < N → a ≠ b → (T a).2.1 ≠ (T b).2.1) ∧ (T j).2.2.2 = fin ∧ parseFieldDescriptor (T j).2.2.1 = some ty ∧ (T j).1 = own
theorem ct_putF (hX : ct_Ok w X cc own n fr lo ce sl) (hin : ct_In X) {i ci j a : Nat} {ty : FieldType} {v : Value} {fs : List Value} (fs' : List Value) (hfs : fs.set j v = fs') (hF : ct_Fp own i ci j ty true) (hj : j < fs.length) (hn : narrow ty v = v) (hft : fits ty v = true) (d : decode cc pc = .ok (.putfield i, 3)) (k : ct_At w X (pc + 3) lv st ((a, .inr (ci, fs')) :: ws) c0 s0) : ct_At w X pc lv (v :: .ref a :: st) ((a, .inr (ci, fs)) :: ws) c0 s0 := by
  obtain ⟨⟨p, l, e, R, s, m, args, below, meth, c⟩, nL, cells, slots, Q, A⟩ := X
  obtain ⟨hx, hb, hml, hown, hts, hK, hN, hO, hA, rfl, hfr, hlo, hce, hsl⟩ := hX
  obtain ⟨C, T, N, t0, h1, h2, h3, h4, h5, h6, h7, h8, h9⟩ := hF
  subst hfs
  exact fun H locs ls hP hD hS hl => va_putF (D := w.1) (ci := ci) (v := v) (ty := ty) hx hb hts h2 t0 h5 h6 hown hK hP hD hS 0 rfl h1 j h3 (hts _ h4) (fun _ h => h) h7 hin h9 h8 hn hft hj d (fun H1 locs1 hP1 hD1 hS1 => k H1 locs1 ls hP1 hD1 hS1 hl)
theorem ct_putN (hX : ct_Ok w X cc own n fr lo ce sl) {i ci j a : Nat} {ty : FieldType} {v : Value} {fs : List Value} (fs' : List Value) (hfs : fs.set j v = fs') (hF : ct_Fp own i ci j ty false) (hj : j < fs.length) (hn : narrow ty v = v) (hft : fits ty v = true) (d : decode cc pc = .ok (.putfield i, 3)) (k : ct_At w X (pc + 3) lv st ((a, .inr (ci, fs')) :: ws) c0 s0) : ct_At w X pc lv (v :: .ref a :: st) ((a, .inr (ci, fs)) :: ws) c0 s0 := by
  obtain ⟨⟨p, l, e, R, s, m, args, below, meth, c⟩, nL, cells, slots, Q, A⟩ := X
  obtain ⟨hx, hb, hml, hown, hts, hK, hN, hO, hA, rfl, hfr, hlo, hce, hsl⟩ := hX
  obtain ⟨C, T, N, t0, h1, h2, h3, h4, h5, h6, h7, h8, h9⟩ := hF
  subst hfs
  exact fun H locs ls hP hD hS hl => va_put (D := w.1) (ci := ci) (v := v) (ty := ty) hx hb hts h2 t0 h5 h6 hown hK hP hD hS 0 rfl h1 j h3 (hts _ h4) (fun _ h => h) h7 h8 hn hft hj d (fun H1 locs1 hP1 hD1 hS1 => k H1 locs1 ls hP1 hD1 hS1 hl)
theorem ct_get (hX : ct_Ok w X cc own n fr lo ce sl) {i ci j a : Nat} {v : Value} {fs : List Value} (hF : bk_Fl own i ci j) (hj : fs[j]? = some v) (d : decode cc pc = .ok (.getfield i, 3)) (k : ct_At w X (pc + 3) lv (v :: st) ((a, .inr (ci, fs)) :: ws) c0 s0) : ct_At w X pc lv (.ref a :: st) ((a, .inr (ci, fs)) :: ws) c0 s0 := by
  obtain ⟨⟨p, l, e, R, s, m, args, below, meth, c⟩, nL, cells, slots, Q, A⟩ := X
  obtain ⟨hx, hb, hml, hown, hts, hK, hN, hO, hA, rfl, hfr, hlo, hce, hsl⟩ := hX
  obtain ⟨C, T, N, h1, h2, h3, h4⟩ := hF
  exact fun H locs ls hP hD hS hl => va_get (D := w.1) (ci := ci) hx hb hts h2 hown hK hP 0 rfl h1 j h3 (hts _ h4) (fun _ h => h) hj d (k H locs ls hP hD hS hl)
theorem ct_astq (hX : ct_Ok w X cc own n fr lo ce sl) (q0 qk : Nat) {a q N : Nat} {i : Int32} {f f' : Nat → Option Nat} {vs : List Value} {ws' : va_W} (ha : ws[q0]? = some (a, .inl (w.2.2 2, N, .inr (.inr (.inr (.inr f)))))) (hv : ws[qk]? = some (q, .inr (5, vs))) (hin : vp_in i N) (hf : va_up f i.toNatClampNeg (some q) = f') (hw : ws.set q0 (a, .inl (w.2.2 2, N, .inr (.inr (.inr (.inr f'))))) = ws') (d : decode cc pc = .ok (.aastore, 1)) (k : ct_At w X (pc + 1) lv st ws' c0 s0) : ct_At w X pc lv (.ref q :: .int i :: .ref a :: st) ws c0 s0 := by
  obtain ⟨⟨p, l, e, R, s, m, args, below, meth, c⟩, nL, cells, slots, Q, A⟩ := X
  obtain ⟨hx, hb, hml, hown, hts, hK, hN, hO, hA, rfl, hfr, hlo, hce, hsl⟩ := hX
  subst hf
  subst hw
  exact fun H locs ls hP hD hS hl => va_astq (r := (RX5, TX5, 3)) hx hb hK hP hD hS q0 2 qk 5 ha rfl hv rfl hin d (fun H1 locs1 hP1 hD1 hS1 => k H1 locs1 ls hP1 hD1 hS1 hl)
end CtRows
/-- a constructor's contract: from the cells ws0 to cells with P1 -/
def ct_Pc (w : bk_W) (av : List Value) (ws0 : va_W) (sz : Nat) : Array Value → State → Prop := va_Pc av (fun U => U.heap.size = sz ∧ va_P w.1 vwCl ws0 U.heap ∧ va_K w.1 vwCl (bk_tys w) U ∧ bk_N U ∧ va_AO "BackHooks$Sheet" U ∧ va_D (fun _ => True) ws0)
def ct_M (w : bk_W) (y : MethodName) (cc : ByteArray) (mL fr lo ce sl : Nat) (av : List Value) (ws0 : va_W) (P1 : va_W → Prop) : Prop := ∀ (l : Launch) (sz : Nat), Met l y (bk_ws y cc mL none) { frames := fr, cells := ce, slots := sl, locals := lo } (ct_Pc w av ws0 sz) (va_Qv P1 (fun u t => va_P w.1 vwCl u t.heap ∧ va_D (va_A ws0 sz) u) (va_A ws0 sz)) ce sl (va_A ws0 sz)
theorem ct_blind (w : bk_W) (av : List Value) (ws0 : va_W) (sz : Nat) : FrameBlind (ct_Pc w av ws0 sz) := by
  intro a U g mk q
  obtain ⟨q0, q1, qP, qK, qN, qO, qD⟩ := q
  exact ⟨q0, q1, qP, va_K.moved (u := U) (U := U.calling g mk a) (Vm.Alike.refl U.vm) qK, bk_N.same qN rfl, va_AO.moved (u := U) (U := U.calling g mk a) (Vm.Alike.refl U.vm) qO, qD⟩
theorem ct_m {w : bk_W} {y : MethodName} {cc : ByteArray} {mL fr lo ce sl : Nat} {av : List Value} {ws0 : va_W} {P1 : va_W → Prop} (hy : plainName y.cls = true) (hnm : y.name = "<init>") (hlen : (lg_sl av).length ≤ mL) (body : ∀ X : bk_X, ct_Ok w X cc y.cls mL fr lo ce sl → ct_In X → (∀ pc lv ws1, decode cc pc = .ok (.return_, 1) → (∃ ws2, P1 ws2 ∧ ∀ (A : Nat → Prop) (H : Heap), va_P w.1 vwCl ws1 H → va_D A ws1 → va_P w.1 vwCl ws2 H ∧ va_D A ws2) → ct_At w X pc lv [] ws1 ce sl) → ct_At w X 0 (lv_args 0 av) [] ws0 0 0) : ct_M w y cc mL fr lo ce sl av ws0 P1 := by
  intro l sz
  refine Met.ofW (cc := cc) (maxL := mL) (ret := none) hy rfl ?_
  intro p e s m args below meth c s₁ B hml hv
  obtain ⟨rfl, hsz, hP, hK, hN, hO, hD0⟩ := hv
  have hx := B.exec
  have hb := B.bytes
  have hr := B.returns
  have hts0 := atoms_spec (ws := bk_ws y cc mL none) B.pre
  have hts : ∀ w ∈ lw_good, w.before av.toArray s = true := fun w h => hts0 w (List.mem_cons_of_mem _ h)
  have hown : s.vm.findClass y.cls = some m.cls := findClass_of_methodNamed B.named
  have hlocks := B.notSynchronized
  have hin : meth.name = "<init>" := (name_of_methodNamed B.named B.method).1.trans hnm
  subst hsz
  have hD : va_D (va_A ws0 s.heap.size) ws0 := hD0.self
  have hA : ∀ q : Nat, s.heap.size ≤ q → va_A ws0 s.heap.size q := fun q h => Or.inr h
  have hS : va_S (va_A ws0 s.heap.size) s.heap s.heap [] := va_S.rf
  have hl := lv_entry av (n := mL) hlen
  rw [lg_entry_eq]
  exact body ((p, l, e, { frames := fr, cells := ce, slots := sl, locals := lo }, s, m, av.toArray, below, meth, c), (mL, 0, 0, _, va_A ws0 s.heap.size)) ⟨hx, hb, hml, hown, hts, hK, hN, hO, hA, rfl, Nat.le_refl _, Nat.le_refl _, Nat.le_refl _, Nat.le_refl _⟩ hin (fun pc lv ws1 d hp H locs ls hP hD hS hl => by
    obtain ⟨ws2, hp2, hq⟩ := hp
    obtain ⟨hP2, hD2⟩ := hq _ H hP hD
    exact W.vret hx hb hr (fun t ht hW => ⟨⟨ws2, rfl, hp2, by rw [ht]; exact hP2, hD2⟩, hS.F ht⟩) hS.2.2 d) s.heap [] _ hP hD hS hl
theorem ct_same {w : bk_W} {P1 : va_W → Prop} {ws1 : va_W} (h : P1 ws1) : ∃ ws2, P1 ws2 ∧ ∀ (A : Nat → Prop) (H : Heap), va_P w.1 vwCl ws1 H → va_D A ws1 → va_P w.1 vwCl ws2 H ∧ va_D A ws2 := ⟨ws1, h, fun _ _ h1 h2 => ⟨h1, h2⟩⟩
theorem ct_join {A0 : Nat → Prop} {D : va_G} {cl : List vw_C} {wr wc w1 : va_W} {H H1 : Heap} (hP : va_P D cl (wr ++ wc) H) (hD : va_D A0 (wr ++ wc)) (hk : ∀ q : Nat, q < H.size → ¬ va_A wc H.size q → H1[q]? = H[q]?) (hF : ∀ q, va_A wc H.size q → A0 q) (hP1 : va_P D cl w1 H1) (hD1 : va_D (va_A wc H.size) w1) : va_P D cl (wr ++ w1) H1 ∧ va_D A0 (wr ++ w1) := by
  have hr : ∀ (k : Nat) (q : Nat × va_E), wr[k]? = some q → (wr ++ wc)[k]? = some q := fun k q h => by rw [List.getElem?_append_left (List.getElem?_eq_some_iff.mp h).1]; exact h
  have hc : ∀ (k : Nat) (q : Nat × va_E), wc[k]? = some q → (wr ++ wc)[wr.length + k]? = some q := fun k q h => by rw [List.getElem?_append_right (by omega), Nat.add_sub_cancel_left]; exact h
  have apart : ∀ (k : Nat) (q : Nat × va_E), wr[k]? = some q → q.1 < H.size ∧ ¬ va_A wc H.size q.1 := by
    intro k q hq
    have hl := (hP k q (hr k q hq)).lt
    refine ⟨hl, fun h => ?_⟩
    rcases h with ⟨j, e, h⟩ | h
    · have := hD.1 k (wr.length + j) q (q.1, e) (hr k q hq) (hc j _ h) rfl
      have hk2 := (List.getElem?_eq_some_iff.mp hq).1
      omega
    · omega
  refine ⟨va_P.app (fun k q hq => ?_) hP1, va_D.app ⟨fun i j p q hi hj e => hD.1 i j p q (hr i p hi) (hr j q hj) e, fun k q hk => hD.2 k q (hr k q hk)⟩ (hD1.weaken (fun k q _ h => hF q.1 h)) (fun i j x y hx hy hxy => ?_)⟩
  · obtain ⟨g1, g2⟩ := apart k q hq
    exact (hP k q (hr k q hq)).kept (hk q.1 g1 g2)
  · exact (apart i x hx).2 (by rw [hxy]; exact hD1.2 j y hy)
theorem ct_one {q : Nat} {x0 : va_E} : va_D (fun _ => True) [(q, x0)] := ⟨fun i j _ _ hi hj _ => by
  have h1 : i < 1 := (List.getElem?_eq_some_iff.mp hi).1
  have h2 : j < 1 := (List.getElem?_eq_some_iff.mp hj).1
  omega, fun _ _ _ => trivial⟩
theorem ct_free1 {A : Nat → Prop} {ws : va_W} {q : Nat} {x0 : va_E} {H0 H : Heap} {locs : List Loc} (hD : va_D A (ws ++ [(q, x0)])) (hA : ∀ q, H0.size ≤ q → A q) (hS : va_S A H0 H locs) : ∀ r, va_A [(q, x0)] H.size r → A r := by
  rintro r (⟨k, e, hk⟩ | h)
  · have h1 : k < 1 := (List.getElem?_eq_some_iff.mp hk).1
    have h0 : k = 0 := by omega
    subst h0
    exact hD.2 ws.length (r, e) (by rw [List.getElem?_append_right (Nat.le_refl _), Nat.sub_self]; exact hk)
  · exact hA r (Nat.le_trans hS.1 h)
section CtCalls
variable {w : bk_W} {X : bk_X} {cc : ByteArray} {own : String} {n fr lo ce sl pc c0 s0 : Nat} {lv : List (Nat × Value)} {st : List Value} {ws : va_W}
theorem ct_callN (hX : ct_Ok w X cc own n fr lo ce sl) {P1 : va_W → Prop} {q i np mL fr2 lo2 ce2 sl2 : Nat} {y : MethodName} {cc2 : ByteArray} {x0 : va_E} (As rest : List Value) (hy : bk_yk y cc2 mL none np) (hnm : y.name = "<init>") (hv : Cond.instanceMethod y ∈ lw_good) {host : String} (hlk : (own, i, y, host) ∈ bk_nest) (hst : st = As.reverse ++ .ref q :: rest) (hlen : As.length = np) (hcat : (rest.map fun v => v.category).sum ≤ 8) (hR : fr2 + 1 ≤ fr ∧ 8 + (mL + 11) + lo2 ≤ lo) (hC : c0 + ce2 ≤ ce ∧ s0 + sl2 ≤ sl) (d : decode cc pc = .ok (.invokespecial i, 3)) (hM : ct_M w y cc2 mL fr2 lo2 ce2 sl2 (.ref q :: As) [(q, x0)] P1) (k : ∀ w1, P1 w1 → ct_At w X (pc + 3) lv rest (ws ++ w1) (c0 + ce2) (s0 + sl2)) : ct_At w X pc lv st (ws ++ [(q, x0)]) c0 s0 := by
  obtain ⟨⟨p, l, e, R, s, m, args, below, meth, c⟩, nL, cells, slots, Q, A⟩ := X
  obtain ⟨hx, hb, hml, hown, hts, hK, hN, hO, hA, rfl, hfr, hlo, hce, hsl⟩ := hX
  subst hst
  intro H locs ls hP hD hS hl
  have hPc : va_P w.1 vwCl [(q, x0)] H := bl_P2 hP
  have hfree := ct_free1 hD hA hS
  exact va_callv (va_runIN (As := As) (rest := rest) ⟨hx, hb, hml, hown, hts⟩ (hM l H.size) ⟨va_cnB np hts (bk_goodIn hy) rfl rfl rfl (hN _ hlk) (hts _ hy.2.1) ⟨hy.2.2.1, hy.2.2.2.1, hy.2.2.2.2⟩ ⟨Nat.le_trans hR.1 hfr, Nat.le_trans hR.2 hlo⟩, hnm, hts _ hv⟩ ⟨ct_blind w _ _ H.size, fun U hU hW => ⟨rfl, by rw [hU], by rw [hU]; exact hPc, va_K.moved hW.alike hK, hN.warm hW, va_AO.moved hW.alike hO, ct_one⟩⟩ rfl hlen hl.1 rfl (lv_room hcat) d ⟨Nat.le_trans hC.1 hce, Nat.le_trans hC.2 hsl⟩) hS (fun q _ h => hfree q h) hfree (fun u t H1 locs1 ht hvm hw hB hz1 hk1 hS1 => by
    obtain ⟨hP1, hD1⟩ := hB
    rw [ht] at hP1
    obtain ⟨hP2, hD2⟩ := ct_join hP hD hk1 hfree hP1 hD1
    exact k u hw H1 locs1 ls hP2 hD2 hS1 hl)
theorem ct_callI (hX : ct_Ok w X cc own n fr lo ce sl) {P1 : va_W → Prop} {q i np mL fr2 lo2 ce2 sl2 : Nat} {y : MethodName} {cc2 : ByteArray} {x0 : va_E} (As rest : List Value) (hy : bk_yk y cc2 mL none np) (hnm : y.name = "<init>") (hv : Cond.instanceMethod y ∈ lw_good) (hlk : Cond.methodLink own i y ∈ lw_good) (hst : st = As.reverse ++ .ref q :: rest) (hlen : As.length = np) (hcat : (rest.map fun v => v.category).sum ≤ 8) (hR : fr2 + 1 ≤ fr ∧ 8 + (mL + 11) + lo2 ≤ lo) (hC : c0 + ce2 ≤ ce ∧ s0 + sl2 ≤ sl) (d : decode cc pc = .ok (.invokespecial i, 3)) (hM : ct_M w y cc2 mL fr2 lo2 ce2 sl2 (.ref q :: As) [(q, x0)] P1) (k : ∀ w1, P1 w1 → ct_At w X (pc + 3) lv rest (ws ++ w1) (c0 + ce2) (s0 + sl2)) : ct_At w X pc lv st (ws ++ [(q, x0)]) c0 s0 := by
  obtain ⟨⟨p, l, e, R, s, m, args, below, meth, c⟩, nL, cells, slots, Q, A⟩ := X
  obtain ⟨hx, hb, hml, hown, hts, hK, hN, hO, hA, rfl, hfr, hlo, hce, hsl⟩ := hX
  subst hst
  intro H locs ls hP hD hS hl
  have hPc : va_P w.1 vwCl [(q, x0)] H := bl_P2 hP
  have hfree := ct_free1 hD hA hS
  exact va_callv (va_runI (As := As) (rest := rest) ⟨hx, hb, hml, hown, hts⟩ (hM l H.size) ⟨callB_of np hts (bk_goodIn hy) rfl rfl rfl (hts _ hy.2.1) (hts _ hlk) ⟨hy.2.2.1, hy.2.2.2.1, hy.2.2.2.2⟩ ⟨Nat.le_trans hR.1 hfr, Nat.le_trans hR.2 hlo⟩, hnm, hts _ hv⟩ ⟨ct_blind w _ _ H.size, fun U hU hW => ⟨rfl, by rw [hU], by rw [hU]; exact hPc, va_K.moved hW.alike hK, hN.warm hW, va_AO.moved hW.alike hO, ct_one⟩⟩ rfl hlen hl.1 rfl (lv_room hcat) d ⟨Nat.le_trans hC.1 hce, Nat.le_trans hC.2 hsl⟩) hS (fun q _ h => hfree q h) hfree (fun u t H1 locs1 ht hvm hw hB hz1 hk1 hS1 => by
    obtain ⟨hP1, hD1⟩ := hB
    rw [ht] at hP1
    obtain ⟨hP2, hD2⟩ := ct_join hP hD hk1 hfree hP1 hD1
    exact k u hw H1 locs1 ls hP2 hD2 hS1 hl)
end CtCalls
