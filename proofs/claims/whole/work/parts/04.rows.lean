section Rows
variable {Y : bk_Y} {w : bk_W} {X : bk_X} {cc : ByteArray} {own : String} {n fr lo pc : Nat} {lv : List (Nat × Value)} {st : List Value} {σ : bk_S} {Z : Prop}
theorem bk_iadd (hX : bk_Ok Y w X cc own n fr lo) {x y : Int32} (d : decode cc pc = .ok (.iadd, 1)) (k : Z → bk_At Y w X (pc + 1) lv (.int (x + y) :: st) σ) : Z → bk_At Y w X pc lv (.int y :: .int x :: st) σ := by
  obtain ⟨⟨p, l, e, R, s, m, args, below, meth, c⟩, nL, cells, slots, Q, A⟩ := X
  obtain ⟨hx, hb, hml, hown, hts, hK, hN, hD, hA, rfl, hfr, hlo, hce, hsl⟩ := hX
  exact fun z H locs ls hP hS hl => lv_iadd hx hb d  (k z H locs ls hP hS hl)
theorem bk_isub (hX : bk_Ok Y w X cc own n fr lo) {x y : Int32} (d : decode cc pc = .ok (.isub, 1)) (k : Z → bk_At Y w X (pc + 1) lv (.int (x - y) :: st) σ) : Z → bk_At Y w X pc lv (.int y :: .int x :: st) σ := by
  obtain ⟨⟨p, l, e, R, s, m, args, below, meth, c⟩, nL, cells, slots, Q, A⟩ := X
  obtain ⟨hx, hb, hml, hown, hts, hK, hN, hD, hA, rfl, hfr, hlo, hce, hsl⟩ := hX
  exact fun z H locs ls hP hS hl => lv_isub hx hb d  (k z H locs ls hP hS hl)
theorem bk_imul (hX : bk_Ok Y w X cc own n fr lo) {x y : Int32} (d : decode cc pc = .ok (.imul, 1)) (k : Z → bk_At Y w X (pc + 1) lv (.int (x * y) :: st) σ) : Z → bk_At Y w X pc lv (.int y :: .int x :: st) σ := by
  obtain ⟨⟨p, l, e, R, s, m, args, below, meth, c⟩, nL, cells, slots, Q, A⟩ := X
  obtain ⟨hx, hb, hml, hown, hts, hK, hN, hD, hA, rfl, hfr, hlo, hce, hsl⟩ := hX
  exact fun z H locs ls hP hS hl => lv_imul hx hb d  (k z H locs ls hP hS hl)
theorem bk_iand (hX : bk_Ok Y w X cc own n fr lo) {x y : Int32} (d : decode cc pc = .ok (.iand, 1)) (k : Z → bk_At Y w X (pc + 1) lv (.int (x &&& y) :: st) σ) : Z → bk_At Y w X pc lv (.int y :: .int x :: st) σ := by
  obtain ⟨⟨p, l, e, R, s, m, args, below, meth, c⟩, nL, cells, slots, Q, A⟩ := X
  obtain ⟨hx, hb, hml, hown, hts, hK, hN, hD, hA, rfl, hfr, hlo, hce, hsl⟩ := hX
  exact fun z H locs ls hP hS hl => lv_iand hx hb d  (k z H locs ls hP hS hl)
theorem bk_ior (hX : bk_Ok Y w X cc own n fr lo) {x y : Int32} (d : decode cc pc = .ok (.ior, 1)) (k : Z → bk_At Y w X (pc + 1) lv (.int (x ||| y) :: st) σ) : Z → bk_At Y w X pc lv (.int y :: .int x :: st) σ := by
  obtain ⟨⟨p, l, e, R, s, m, args, below, meth, c⟩, nL, cells, slots, Q, A⟩ := X
  obtain ⟨hx, hb, hml, hown, hts, hK, hN, hD, hA, rfl, hfr, hlo, hce, hsl⟩ := hX
  exact fun z H locs ls hP hS hl => lv_ior hx hb d  (k z H locs ls hP hS hl)
theorem bk_ixor (hX : bk_Ok Y w X cc own n fr lo) {x y : Int32} (d : decode cc pc = .ok (.ixor, 1)) (k : Z → bk_At Y w X (pc + 1) lv (.int (x ^^^ y) :: st) σ) : Z → bk_At Y w X pc lv (.int y :: .int x :: st) σ := by
  obtain ⟨⟨p, l, e, R, s, m, args, below, meth, c⟩, nL, cells, slots, Q, A⟩ := X
  obtain ⟨hx, hb, hml, hown, hts, hK, hN, hD, hA, rfl, hfr, hlo, hce, hsl⟩ := hX
  exact fun z H locs ls hP hS hl => lv_ixor hx hb d  (k z H locs ls hP hS hl)
theorem bk_ishl (hX : bk_Ok Y w X cc own n fr lo) {x y : Int32} (d : decode cc pc = .ok (.ishl, 1)) (k : Z → bk_At Y w X (pc + 1) lv (.int (x <<< (y &&& 31)) :: st) σ) : Z → bk_At Y w X pc lv (.int y :: .int x :: st) σ := by
  obtain ⟨⟨p, l, e, R, s, m, args, below, meth, c⟩, nL, cells, slots, Q, A⟩ := X
  obtain ⟨hx, hb, hml, hown, hts, hK, hN, hD, hA, rfl, hfr, hlo, hce, hsl⟩ := hX
  exact fun z H locs ls hP hS hl => lv_ishl hx hb d  (k z H locs ls hP hS hl)
theorem bk_ishr (hX : bk_Ok Y w X cc own n fr lo) {x y : Int32} (d : decode cc pc = .ok (.ishr, 1)) (k : Z → bk_At Y w X (pc + 1) lv (.int (x >>> (y &&& 31)) :: st) σ) : Z → bk_At Y w X pc lv (.int y :: .int x :: st) σ := by
  obtain ⟨⟨p, l, e, R, s, m, args, below, meth, c⟩, nL, cells, slots, Q, A⟩ := X
  obtain ⟨hx, hb, hml, hown, hts, hK, hN, hD, hA, rfl, hfr, hlo, hce, hsl⟩ := hX
  exact fun z H locs ls hP hS hl => lv_ishr hx hb d  (k z H locs ls hP hS hl)
theorem bk_iushr (hX : bk_Ok Y w X cc own n fr lo) {x y : Int32} (d : decode cc pc = .ok (.iushr, 1)) (k : Z → bk_At Y w X (pc + 1) lv (.int ((x.toUInt32 >>> (y.toUInt32 &&& Int32.toUInt32 31)).toInt32) :: st) σ) : Z → bk_At Y w X pc lv (.int y :: .int x :: st) σ := by
  obtain ⟨⟨p, l, e, R, s, m, args, below, meth, c⟩, nL, cells, slots, Q, A⟩ := X
  obtain ⟨hx, hb, hml, hown, hts, hK, hN, hD, hA, rfl, hfr, hlo, hce, hsl⟩ := hX
  exact fun z H locs ls hP hS hl => lv_iushr hx hb d rfl (k z H locs ls hP hS hl)
theorem bk_ladd (hX : bk_Ok Y w X cc own n fr lo) {x y : Int64} (d : decode cc pc = .ok (.ladd, 1)) (k : Z → bk_At Y w X (pc + 1) lv (.long (x + y) :: st) σ) : Z → bk_At Y w X pc lv (.long y :: .long x :: st) σ := by
  obtain ⟨⟨p, l, e, R, s, m, args, below, meth, c⟩, nL, cells, slots, Q, A⟩ := X
  obtain ⟨hx, hb, hml, hown, hts, hK, hN, hD, hA, rfl, hfr, hlo, hce, hsl⟩ := hX
  exact fun z H locs ls hP hS hl => lv_ladd hx hb d  (k z H locs ls hP hS hl)
theorem bk_lsub (hX : bk_Ok Y w X cc own n fr lo) {x y : Int64} (d : decode cc pc = .ok (.lsub, 1)) (k : Z → bk_At Y w X (pc + 1) lv (.long (x - y) :: st) σ) : Z → bk_At Y w X pc lv (.long y :: .long x :: st) σ := by
  obtain ⟨⟨p, l, e, R, s, m, args, below, meth, c⟩, nL, cells, slots, Q, A⟩ := X
  obtain ⟨hx, hb, hml, hown, hts, hK, hN, hD, hA, rfl, hfr, hlo, hce, hsl⟩ := hX
  exact fun z H locs ls hP hS hl => lv_lsub hx hb d  (k z H locs ls hP hS hl)
theorem bk_lmul (hX : bk_Ok Y w X cc own n fr lo) {x y : Int64} (d : decode cc pc = .ok (.lmul, 1)) (k : Z → bk_At Y w X (pc + 1) lv (.long (x * y) :: st) σ) : Z → bk_At Y w X pc lv (.long y :: .long x :: st) σ := by
  obtain ⟨⟨p, l, e, R, s, m, args, below, meth, c⟩, nL, cells, slots, Q, A⟩ := X
  obtain ⟨hx, hb, hml, hown, hts, hK, hN, hD, hA, rfl, hfr, hlo, hce, hsl⟩ := hX
  exact fun z H locs ls hP hS hl => lv_lmul hx hb d  (k z H locs ls hP hS hl)
theorem bk_land (hX : bk_Ok Y w X cc own n fr lo) {x y : Int64} (d : decode cc pc = .ok (.land, 1)) (k : Z → bk_At Y w X (pc + 1) lv (.long (x &&& y) :: st) σ) : Z → bk_At Y w X pc lv (.long y :: .long x :: st) σ := by
  obtain ⟨⟨p, l, e, R, s, m, args, below, meth, c⟩, nL, cells, slots, Q, A⟩ := X
  obtain ⟨hx, hb, hml, hown, hts, hK, hN, hD, hA, rfl, hfr, hlo, hce, hsl⟩ := hX
  exact fun z H locs ls hP hS hl => lv_land hx hb d  (k z H locs ls hP hS hl)
theorem bk_lcmp (hX : bk_Ok Y w X cc own n fr lo) {x y : Int64} (d : decode cc pc = .ok (.lcmp, 1)) (k : Z → bk_At Y w X (pc + 1) lv (.int (lg_cmp x y) :: st) σ) : Z → bk_At Y w X pc lv (.long y :: .long x :: st) σ := by
  obtain ⟨⟨p, l, e, R, s, m, args, below, meth, c⟩, nL, cells, slots, Q, A⟩ := X
  obtain ⟨hx, hb, hml, hown, hts, hK, hN, hD, hA, rfl, hfr, hlo, hce, hsl⟩ := hX
  exact fun z H locs ls hP hS hl => W.lcmp hx hb d  (k z H locs ls hP hS hl)
theorem bk_lshl (hX : bk_Ok Y w X cc own n fr lo) {x : Int64} {y : Int32} (d : decode cc pc = .ok (.lshl, 1)) (k : Z → bk_At Y w X (pc + 1) lv (.long (x <<< (y.toInt64 &&& 63)) :: st) σ) : Z → bk_At Y w X pc lv (.int y :: .long x :: st) σ := by
  obtain ⟨⟨p, l, e, R, s, m, args, below, meth, c⟩, nL, cells, slots, Q, A⟩ := X
  obtain ⟨hx, hb, hml, hown, hts, hK, hN, hD, hA, rfl, hfr, hlo, hce, hsl⟩ := hX
  exact fun z H locs ls hP hS hl => lv_lshl hx hb d rfl (k z H locs ls hP hS hl)
theorem bk_lshr (hX : bk_Ok Y w X cc own n fr lo) {x : Int64} {y : Int32} (d : decode cc pc = .ok (.lshr, 1)) (k : Z → bk_At Y w X (pc + 1) lv (.long (x >>> (y.toInt64 &&& 63)) :: st) σ) : Z → bk_At Y w X pc lv (.int y :: .long x :: st) σ := by
  obtain ⟨⟨p, l, e, R, s, m, args, below, meth, c⟩, nL, cells, slots, Q, A⟩ := X
  obtain ⟨hx, hb, hml, hown, hts, hK, hN, hD, hA, rfl, hfr, hlo, hce, hsl⟩ := hX
  exact fun z H locs ls hP hS hl => lv_lshr hx hb d rfl (k z H locs ls hP hS hl)
theorem bk_i2l (hX : bk_Ok Y w X cc own n fr lo) {x : Int32} (d : decode cc pc = .ok (.i2l, 1)) (k : Z → bk_At Y w X (pc + 1) lv (.long x.toInt64 :: st) σ) : Z → bk_At Y w X pc lv (.int x :: st) σ := by
  obtain ⟨⟨p, l, e, R, s, m, args, below, meth, c⟩, nL, cells, slots, Q, A⟩ := X
  obtain ⟨hx, hb, hml, hown, hts, hK, hN, hD, hA, rfl, hfr, hlo, hce, hsl⟩ := hX
  exact fun z H locs ls hP hS hl => lv_i2l hx hb d rfl (k z H locs ls hP hS hl)
theorem bk_i2b (hX : bk_Ok Y w X cc own n fr lo) {x : Int32} (d : decode cc pc = .ok (.i2b, 1)) (k : Z → bk_At Y w X (pc + 1) lv (.int x.toInt8.toInt32 :: st) σ) : Z → bk_At Y w X pc lv (.int x :: st) σ := by
  obtain ⟨⟨p, l, e, R, s, m, args, below, meth, c⟩, nL, cells, slots, Q, A⟩ := X
  obtain ⟨hx, hb, hml, hown, hts, hK, hN, hD, hA, rfl, hfr, hlo, hce, hsl⟩ := hX
  exact fun z H locs ls hP hS hl => lv_i2b hx hb d rfl (k z H locs ls hP hS hl)
theorem bk_i2s (hX : bk_Ok Y w X cc own n fr lo) {x : Int32} (d : decode cc pc = .ok (.i2s, 1)) (k : Z → bk_At Y w X (pc + 1) lv (.int x.toInt16.toInt32 :: st) σ) : Z → bk_At Y w X pc lv (.int x :: st) σ := by
  obtain ⟨⟨p, l, e, R, s, m, args, below, meth, c⟩, nL, cells, slots, Q, A⟩ := X
  obtain ⟨hx, hb, hml, hown, hts, hK, hN, hD, hA, rfl, hfr, hlo, hce, hsl⟩ := hX
  exact fun z H locs ls hP hS hl => lv_i2s hx hb d rfl (k z H locs ls hP hS hl)
theorem bk_dup (hX : bk_Ok Y w X cc own n fr lo) {va : Value} (hv : va.category = 1) (d : decode cc pc = .ok (.dup, 1)) (k : Z → bk_At Y w X (pc + 1) lv (va :: va :: st) σ) : Z → bk_At Y w X pc lv (va :: st) σ := by
  obtain ⟨⟨p, l, e, R, s, m, args, below, meth, c⟩, nL, cells, slots, Q, A⟩ := X
  obtain ⟨hx, hb, hml, hown, hts, hK, hN, hD, hA, rfl, hfr, hlo, hce, hsl⟩ := hX
  exact fun z H locs ls hP hS hl => lv_dup hx hb d hv (k z H locs ls hP hS hl)
theorem bk_pop (hX : bk_Ok Y w X cc own n fr lo) {va : Value} (hv : va.category = 1) (d : decode cc pc = .ok (.pop, 1)) (k : Z → bk_At Y w X (pc + 1) lv (st) σ) : Z → bk_At Y w X pc lv (va :: st) σ := by
  obtain ⟨⟨p, l, e, R, s, m, args, below, meth, c⟩, nL, cells, slots, Q, A⟩ := X
  obtain ⟨hx, hb, hml, hown, hts, hK, hN, hD, hA, rfl, hfr, hlo, hce, hsl⟩ := hX
  exact fun z H locs ls hP hS hl => lv_pop hx hb d hv (k z H locs ls hP hS hl)
theorem bk_dup2 (hX : bk_Ok Y w X cc own n fr lo) {va vb : Value} (hv : va.category = 1) (hu : vb.category = 1) (d : decode cc pc = .ok (.dup2, 1)) (k : Z → bk_At Y w X (pc + 1) lv (va :: vb :: va :: vb :: st) σ) : Z → bk_At Y w X pc lv (va :: vb :: st) σ := by
  obtain ⟨⟨p, l, e, R, s, m, args, below, meth, c⟩, nL, cells, slots, Q, A⟩ := X
  obtain ⟨hx, hb, hml, hown, hts, hK, hN, hD, hA, rfl, hfr, hlo, hce, hsl⟩ := hX
  exact fun z H locs ls hP hS hl => lv_dup2_11 hx hb d hv hu (k z H locs ls hP hS hl)
theorem bk_iconst (hX : bk_Ok Y w X cc own n fr lo) {i : Int} {v : Int32} (hv : Int32.ofInt i = v) (d : decode cc pc = .ok (.iconst i, 1)) (k : Z → bk_At Y w X (pc + 1) lv (.int v :: st) σ) : Z → bk_At Y w X pc lv (st) σ := by
  obtain ⟨⟨p, l, e, R, s, m, args, below, meth, c⟩, nL, cells, slots, Q, A⟩ := X
  obtain ⟨hx, hb, hml, hown, hts, hK, hN, hD, hA, rfl, hfr, hlo, hce, hsl⟩ := hX
  exact fun z H locs ls hP hS hl => lv_iconst hx hb d hv (k z H locs ls hP hS hl)
theorem bk_bipush (hX : bk_Ok Y w X cc own n fr lo) {i : Int} {v : Int32} (hv : (Int8.ofInt i).toInt32 = v) (d : decode cc pc = .ok (.bipush i, 2)) (k : Z → bk_At Y w X (pc + 2) lv (.int v :: st) σ) : Z → bk_At Y w X pc lv (st) σ := by
  obtain ⟨⟨p, l, e, R, s, m, args, below, meth, c⟩, nL, cells, slots, Q, A⟩ := X
  obtain ⟨hx, hb, hml, hown, hts, hK, hN, hD, hA, rfl, hfr, hlo, hce, hsl⟩ := hX
  exact fun z H locs ls hP hS hl => lv_bipush hx hb d hv (k z H locs ls hP hS hl)
theorem bk_sipush (hX : bk_Ok Y w X cc own n fr lo) {i : Int} {v : Int32} (hv : (Int16.ofInt i).toInt32 = v) (d : decode cc pc = .ok (.sipush i, 3)) (k : Z → bk_At Y w X (pc + 3) lv (.int v :: st) σ) : Z → bk_At Y w X pc lv (st) σ := by
  obtain ⟨⟨p, l, e, R, s, m, args, below, meth, c⟩, nL, cells, slots, Q, A⟩ := X
  obtain ⟨hx, hb, hml, hown, hts, hK, hN, hD, hA, rfl, hfr, hlo, hce, hsl⟩ := hX
  exact fun z H locs ls hP hS hl => lv_sipush hx hb d hv (k z H locs ls hP hS hl)
theorem bk_lconst (hX : bk_Ok Y w X cc own n fr lo) {i : Fin 2} {v : Int64} (hv : Int64.ofNat (i : Nat) = v) (d : decode cc pc = .ok (.lconst i, 1)) (k : Z → bk_At Y w X (pc + 1) lv (.long v :: st) σ) : Z → bk_At Y w X pc lv (st) σ := by
  obtain ⟨⟨p, l, e, R, s, m, args, below, meth, c⟩, nL, cells, slots, Q, A⟩ := X
  obtain ⟨hx, hb, hml, hown, hts, hK, hN, hD, hA, rfl, hfr, hlo, hce, hsl⟩ := hX
  exact fun z H locs ls hP hS hl => lv_lconst hx hb d hv (k z H locs ls hP hS hl)
theorem bk_ldc (hX : bk_Ok Y w X cc own n fr lo) {i : Nat} {v : Int32} (hc : Jvm.Cond.constant own i v ∈ lw_good) (d : decode cc pc = .ok (.ldc i, 2)) (k : Z → bk_At Y w X (pc + 2) lv (.int v :: st) σ) : Z → bk_At Y w X pc lv st σ := by
  obtain ⟨⟨p, l, e, R, s, m, args, below, meth, c⟩, nL, cells, slots, Q, A⟩ := X
  obtain ⟨hx, hb, hml, hown, hts, hK, hN, hD, hA, rfl, hfr, hlo, hce, hsl⟩ := hX
  exact fun z H locs ls hP hS hl => lv_ldc hx hb hown (hts _ hc) d (k z H locs ls hP hS hl)
theorem bk_ldcw (hX : bk_Ok Y w X cc own n fr lo) {i : Nat} {v : Int32} (hc : Jvm.Cond.constant own i v ∈ lw_good) (d : decode cc pc = .ok (.ldc_w i, 3)) (k : Z → bk_At Y w X (pc + 3) lv (.int v :: st) σ) : Z → bk_At Y w X pc lv st σ := by
  obtain ⟨⟨p, l, e, R, s, m, args, below, meth, c⟩, nL, cells, slots, Q, A⟩ := X
  obtain ⟨hx, hb, hml, hown, hts, hK, hN, hD, hA, rfl, hfr, hlo, hce, hsl⟩ := hX
  exact fun z H locs ls hP hS hl => lv_ldcw hx hb hown (hts _ hc) d (k z H locs ls hP hS hl)
theorem bk_ldc2 (hX : bk_Ok Y w X cc own n fr lo) {i : Nat} {v : Int64} (hc : Jvm.Cond.constantLong own i v ∈ lw_good) (d : decode cc pc = .ok (.ldc2_w i, 3)) (k : Z → bk_At Y w X (pc + 3) lv (.long v :: st) σ) : Z → bk_At Y w X pc lv st σ := by
  obtain ⟨⟨p, l, e, R, s, m, args, below, meth, c⟩, nL, cells, slots, Q, A⟩ := X
  obtain ⟨hx, hb, hml, hown, hts, hK, hN, hD, hA, rfl, hfr, hlo, hce, hsl⟩ := hX
  exact fun z H locs ls hP hS hl => lv_ldc2 hx hb hown (hts _ hc) d (k z H locs ls hP hS hl)
theorem bk_irem (hX : bk_Ok Y w X cc own n fr lo) {x y : Int32} (d : decode cc pc = .ok (.irem, 1)) (k : Z → bk_At Y w X (pc + 1) lv (.int (x - x / y * y) :: st) σ) : ¬ y = 0 ∧ Z → bk_At Y w X pc lv (.int y :: .int x :: st) σ := by
  obtain ⟨⟨p, l, e, R, s, m, args, below, meth, c⟩, nL, cells, slots, Q, A⟩ := X
  obtain ⟨hx, hb, hml, hown, hts, hK, hN, hD, hA, rfl, hfr, hlo, hce, hsl⟩ := hX
  exact fun z H locs ls hP hS hl => lv_irem hx hb d z.1 (k z.2 H locs ls hP hS hl)
theorem bk_idiv (hX : bk_Ok Y w X cc own n fr lo) {x y : Int32} (d : decode cc pc = .ok (.idiv, 1)) (k : Z → bk_At Y w X (pc + 1) lv (.int (x / y) :: st) σ) : ¬ y = 0 ∧ Z → bk_At Y w X pc lv (.int y :: .int x :: st) σ := by
  obtain ⟨⟨p, l, e, R, s, m, args, below, meth, c⟩, nL, cells, slots, Q, A⟩ := X
  obtain ⟨hx, hb, hml, hown, hts, hK, hN, hD, hA, rfl, hfr, hlo, hce, hsl⟩ := hX
  exact fun z H locs ls hP hS hl => lv_idiv hx hb d z.1 (k z.2 H locs ls hP hS hl)
theorem bk_lrem (hX : bk_Ok Y w X cc own n fr lo) {x y : Int64} (d : decode cc pc = .ok (.lrem, 1)) (k : Z → bk_At Y w X (pc + 1) lv (.long (x - x / y * y) :: st) σ) : ¬ y = 0 ∧ Z → bk_At Y w X pc lv (.long y :: .long x :: st) σ := by
  obtain ⟨⟨p, l, e, R, s, m, args, below, meth, c⟩, nL, cells, slots, Q, A⟩ := X
  obtain ⟨hx, hb, hml, hown, hts, hK, hN, hD, hA, rfl, hfr, hlo, hce, hsl⟩ := hX
  exact fun z H locs ls hP hS hl => lv_lrem hx hb d z.1 (k z.2 H locs ls hP hS hl)
theorem bk_ldiv (hX : bk_Ok Y w X cc own n fr lo) {x y : Int64} (d : decode cc pc = .ok (.ldiv, 1)) (k : Z → bk_At Y w X (pc + 1) lv (.long (x / y) :: st) σ) : ¬ y = 0 ∧ Z → bk_At Y w X pc lv (.long y :: .long x :: st) σ := by
  obtain ⟨⟨p, l, e, R, s, m, args, below, meth, c⟩, nL, cells, slots, Q, A⟩ := X
  obtain ⟨hx, hb, hml, hown, hts, hK, hN, hD, hA, rfl, hfr, hlo, hce, hsl⟩ := hX
  exact fun z H locs ls hP hS hl => lv_ldiv hx hb d z.1 (k z.2 H locs ls hP hS hl)
theorem bk_iload_n (hX : bk_Ok Y w X cc own n fr lo) (j : Nat) {i : Fin 4} {x : Int32} (d : decode cc pc = .ok (.iload_n i, 1)) (h : lv[j]? = some ((i : Nat), .int x)) (k : Z → bk_At Y w X (pc + 1) lv (.int x :: st) σ) : Z → bk_At Y w X pc lv st σ := by
  obtain ⟨⟨p, l, e, R, s, m, args, below, meth, c⟩, nL, cells, slots, Q, A⟩ := X
  obtain ⟨hx, hb, hml, hown, hts, hK, hN, hD, hA, rfl, hfr, hlo, hce, hsl⟩ := hX
  exact fun z H locs ls hP hS hl => lv_iload_n hx hb d rfl (lv_at hl j h) (k z H locs ls hP hS hl)
theorem bk_iload (hX : bk_Ok Y w X cc own n fr lo) (j : Nat) {i : Nat} {x : Int32} (d : decode cc pc = .ok (.iload i, 2)) (h : lv[j]? = some (i, .int x)) (k : Z → bk_At Y w X (pc + 2) lv (.int x :: st) σ) : Z → bk_At Y w X pc lv st σ := by
  obtain ⟨⟨p, l, e, R, s, m, args, below, meth, c⟩, nL, cells, slots, Q, A⟩ := X
  obtain ⟨hx, hb, hml, hown, hts, hK, hN, hD, hA, rfl, hfr, hlo, hce, hsl⟩ := hX
  exact fun z H locs ls hP hS hl => lv_iload hx hb d (lv_at hl j h) (k z H locs ls hP hS hl)
theorem bk_lload_n (hX : bk_Ok Y w X cc own n fr lo) (j : Nat) {i : Fin 4} {x : Int64} (d : decode cc pc = .ok (.lload_n i, 1)) (h : lv[j]? = some ((i : Nat), .long x)) (k : Z → bk_At Y w X (pc + 1) lv (.long x :: st) σ) : Z → bk_At Y w X pc lv st σ := by
  obtain ⟨⟨p, l, e, R, s, m, args, below, meth, c⟩, nL, cells, slots, Q, A⟩ := X
  obtain ⟨hx, hb, hml, hown, hts, hK, hN, hD, hA, rfl, hfr, hlo, hce, hsl⟩ := hX
  exact fun z H locs ls hP hS hl => lv_lload_n hx hb d rfl (lv_at hl j h) (k z H locs ls hP hS hl)
theorem bk_lload (hX : bk_Ok Y w X cc own n fr lo) (j : Nat) {i : Nat} {x : Int64} (d : decode cc pc = .ok (.lload i, 2)) (h : lv[j]? = some (i, .long x)) (k : Z → bk_At Y w X (pc + 2) lv (.long x :: st) σ) : Z → bk_At Y w X pc lv st σ := by
  obtain ⟨⟨p, l, e, R, s, m, args, below, meth, c⟩, nL, cells, slots, Q, A⟩ := X
  obtain ⟨hx, hb, hml, hown, hts, hK, hN, hD, hA, rfl, hfr, hlo, hce, hsl⟩ := hX
  exact fun z H locs ls hP hS hl => lv_lload hx hb d (lv_at hl j h) (k z H locs ls hP hS hl)
theorem bk_aload_n (hX : bk_Ok Y w X cc own n fr lo) (j : Nat) {i : Fin 4} {x : Nat} (d : decode cc pc = .ok (.aload_n i, 1)) (h : lv[j]? = some ((i : Nat), .ref x)) (k : Z → bk_At Y w X (pc + 1) lv (.ref x :: st) σ) : Z → bk_At Y w X pc lv st σ := by
  obtain ⟨⟨p, l, e, R, s, m, args, below, meth, c⟩, nL, cells, slots, Q, A⟩ := X
  obtain ⟨hx, hb, hml, hown, hts, hK, hN, hD, hA, rfl, hfr, hlo, hce, hsl⟩ := hX
  exact fun z H locs ls hP hS hl => lv_aload_n hx hb d rfl (lv_at hl j h) (k z H locs ls hP hS hl)
theorem bk_aload (hX : bk_Ok Y w X cc own n fr lo) (j : Nat) {i : Nat} {x : Nat} (d : decode cc pc = .ok (.aload i, 2)) (h : lv[j]? = some (i, .ref x)) (k : Z → bk_At Y w X (pc + 2) lv (.ref x :: st) σ) : Z → bk_At Y w X pc lv st σ := by
  obtain ⟨⟨p, l, e, R, s, m, args, below, meth, c⟩, nL, cells, slots, Q, A⟩ := X
  obtain ⟨hx, hb, hml, hown, hts, hK, hN, hD, hA, rfl, hfr, hlo, hce, hsl⟩ := hX
  exact fun z H locs ls hP hS hl => lv_aload hx hb d (lv_at hl j h) (k z H locs ls hP hS hl)
theorem bk_istore_n (hX : bk_Ok Y w X cc own n fr lo) (lv' : Int32 → List (Nat × Value)) {Z : Int32 → Prop} {i : Fin 4} {x : Int32} (d : decode cc pc = .ok (.istore_n i, 1)) (hn : (i : Nat) < n) (h : ∀ v, ((i : Nat), Value.int v) :: lv.filter (fun q => !(q.1 == (i : Nat)) && !(q.1 + 1 == (i : Nat) && q.2.category == 2)) = lv' v) (k : ∀ v, Z v → bk_At Y w X (pc + 1) (lv' v) st σ) : bk_lt x Z → bk_At Y w X pc lv (.int x :: st) σ := by
  obtain ⟨⟨p, l, e, R, s, m, args, below, meth, c⟩, nL, cells, slots, Q, A⟩ := X
  obtain ⟨hx, hb, hml, hown, hts, hK, hN, hD, hA, rfl, hfr, hlo, hce, hsl⟩ := hX
  exact fun z H locs ls hP hS hl => lv_istore_n hx hb d rfl hl hn (h x) (fun ls hl => k x z H locs ls hP hS hl)
theorem bk_istore (hX : bk_Ok Y w X cc own n fr lo) (lv' : Int32 → List (Nat × Value)) {Z : Int32 → Prop} {i : Nat} {x : Int32} (d : decode cc pc = .ok (.istore i, 2)) (hn : (i : Nat) < n) (h : ∀ v, ((i : Nat), Value.int v) :: lv.filter (fun q => !(q.1 == (i : Nat)) && !(q.1 + 1 == (i : Nat) && q.2.category == 2)) = lv' v) (k : ∀ v, Z v → bk_At Y w X (pc + 2) (lv' v) st σ) : bk_lt x Z → bk_At Y w X pc lv (.int x :: st) σ := by
  obtain ⟨⟨p, l, e, R, s, m, args, below, meth, c⟩, nL, cells, slots, Q, A⟩ := X
  obtain ⟨hx, hb, hml, hown, hts, hK, hN, hD, hA, rfl, hfr, hlo, hce, hsl⟩ := hX
  exact fun z H locs ls hP hS hl => lv_istore hx hb d hl hn (h x) (fun ls hl => k x z H locs ls hP hS hl)
theorem bk_lstore_n (hX : bk_Ok Y w X cc own n fr lo) (lv' : Int64 → List (Nat × Value)) {Z : Int64 → Prop} {i : Fin 4} {x : Int64} (d : decode cc pc = .ok (.lstore_n i, 1)) (hn : (i : Nat) + 1 < n) (h : ∀ v, ((i : Nat), Value.long v) :: lv.filter (fun q => !(q.1 == (i : Nat)) && (!(q.1 == (i : Nat) + 1) && !(q.1 + 1 == (i : Nat) && q.2.category == 2))) = lv' v) (k : ∀ v, Z v → bk_At Y w X (pc + 1) (lv' v) st σ) : bk_lt x Z → bk_At Y w X pc lv (.long x :: st) σ := by
  obtain ⟨⟨p, l, e, R, s, m, args, below, meth, c⟩, nL, cells, slots, Q, A⟩ := X
  obtain ⟨hx, hb, hml, hown, hts, hK, hN, hD, hA, rfl, hfr, hlo, hce, hsl⟩ := hX
  exact fun z H locs ls hP hS hl => lv_lstore_n hx hb d rfl hl hn (h x) (fun ls hl => k x z H locs ls hP hS hl)
theorem bk_lstore (hX : bk_Ok Y w X cc own n fr lo) (lv' : Int64 → List (Nat × Value)) {Z : Int64 → Prop} {i : Nat} {x : Int64} (d : decode cc pc = .ok (.lstore i, 2)) (hn : (i : Nat) + 1 < n) (h : ∀ v, ((i : Nat), Value.long v) :: lv.filter (fun q => !(q.1 == (i : Nat)) && (!(q.1 == (i : Nat) + 1) && !(q.1 + 1 == (i : Nat) && q.2.category == 2))) = lv' v) (k : ∀ v, Z v → bk_At Y w X (pc + 2) (lv' v) st σ) : bk_lt x Z → bk_At Y w X pc lv (.long x :: st) σ := by
  obtain ⟨⟨p, l, e, R, s, m, args, below, meth, c⟩, nL, cells, slots, Q, A⟩ := X
  obtain ⟨hx, hb, hml, hown, hts, hK, hN, hD, hA, rfl, hfr, hlo, hce, hsl⟩ := hX
  exact fun z H locs ls hP hS hl => lv_lstore hx hb d hl hn (h x) (fun ls hl => k x z H locs ls hP hS hl)
theorem bk_astore_n (hX : bk_Ok Y w X cc own n fr lo) (lv' : List (Nat × Value)) {i : Fin 4} {x : Nat} (d : decode cc pc = .ok (.astore_n i, 1)) (hn : (i : Nat) < n) (h : ((i : Nat), Value.ref x) :: lv.filter (fun q => !(q.1 == (i : Nat)) && !(q.1 + 1 == (i : Nat) && q.2.category == 2)) = lv') (k : Z → bk_At Y w X (pc + 1) lv' st σ) : Z → bk_At Y w X pc lv (.ref x :: st) σ := by
  obtain ⟨⟨p, l, e, R, s, m, args, below, meth, c⟩, nL, cells, slots, Q, A⟩ := X
  obtain ⟨hx, hb, hml, hown, hts, hK, hN, hD, hA, rfl, hfr, hlo, hce, hsl⟩ := hX
  exact fun z H locs ls hP hS hl => lv_astore_n hx hb d rfl hl hn h (fun ls hl => k z H locs ls hP hS hl)
theorem bk_astore (hX : bk_Ok Y w X cc own n fr lo) (lv' : List (Nat × Value)) {i : Nat} {x : Nat} (d : decode cc pc = .ok (.astore i, 2)) (hn : (i : Nat) < n) (h : ((i : Nat), Value.ref x) :: lv.filter (fun q => !(q.1 == (i : Nat)) && !(q.1 + 1 == (i : Nat) && q.2.category == 2)) = lv') (k : Z → bk_At Y w X (pc + 2) lv' st σ) : Z → bk_At Y w X pc lv (.ref x :: st) σ := by
  obtain ⟨⟨p, l, e, R, s, m, args, below, meth, c⟩, nL, cells, slots, Q, A⟩ := X
  obtain ⟨hx, hb, hml, hown, hts, hK, hN, hD, hA, rfl, hfr, hlo, hce, hsl⟩ := hX
  exact fun z H locs ls hP hS hl => lv_astore hx hb d hl hn h (fun ls hl => k z H locs ls hP hS hl)
theorem bk_iinc (hX : bk_Ok Y w X cc own n fr lo) (j : Nat) (lv' : Int32 → List (Nat × Value)) {Z : Int32 → Prop} {i : Nat} {a : Int} {x v0 : Int32} (d : decode cc pc = .ok (.iinc i a, 3)) (hj : lv[j]? = some (i, .int x)) (hv : Int32.ofInt a = v0) (hn : i < n) (h : ∀ v, (i, Value.int v) :: lv.filter (fun q => !(q.1 == i) && !(q.1 + 1 == i && q.2.category == 2)) = lv' v) (k : ∀ v, Z v → bk_At Y w X (pc + 3) (lv' v) st σ) : bk_lt (x + v0) Z → bk_At Y w X pc lv st σ := by
  obtain ⟨⟨p, l, e, R, s, m, args, below, meth, c⟩, nL, cells, slots, Q, A⟩ := X
  obtain ⟨hx, hb, hml, hown, hts, hK, hN, hD, hA, rfl, hfr, hlo, hce, hsl⟩ := hX
  exact fun z H locs ls hP hS hl => lv_iinc (v := x + v0) hx hb d hl hj (by rw [hv]) hn (h _) (fun ls hl => k _ z H locs ls hP hS hl)
theorem bk_if_eq (hX : bk_Ok Y w X cc own n fr lo) {Z1 Z2 : Prop} {x : Int32} {off : Int} (tgt : Nat) (d : decode cc pc = .ok (.ifCond .eq off, 3)) (ht : (pc : Int) + off = (tgt : Int)) (k1 : Z1 → bk_At Y w X tgt lv st σ) (k2 : Z2 → bk_At Y w X (pc + 3) lv st σ) : (x = 0 → Z1) ∧ (¬ x = 0 → Z2) → bk_At Y w X pc lv (.int x :: st) σ := by
  obtain ⟨⟨p, l, e, R, s, m, args, below, meth, c⟩, nL, cells, slots, Q, A⟩ := X
  obtain ⟨hx, hb, hml, hown, hts, hK, hN, hD, hA, rfl, hfr, hlo, hce, hsl⟩ := hX
  exact fun z H locs ls hP hS hl => lv_if_eq hx hb d ht (fun h => k1 (z.1 h) H locs ls hP hS hl) (fun h => k2 (z.2 h) H locs ls hP hS hl)
theorem bk_if_ne (hX : bk_Ok Y w X cc own n fr lo) {Z1 Z2 : Prop} {x : Int32} {off : Int} (tgt : Nat) (d : decode cc pc = .ok (.ifCond .ne off, 3)) (ht : (pc : Int) + off = (tgt : Int)) (k1 : Z1 → bk_At Y w X tgt lv st σ) (k2 : Z2 → bk_At Y w X (pc + 3) lv st σ) : (¬ x = 0 → Z1) ∧ (x = 0 → Z2) → bk_At Y w X pc lv (.int x :: st) σ := by
  obtain ⟨⟨p, l, e, R, s, m, args, below, meth, c⟩, nL, cells, slots, Q, A⟩ := X
  obtain ⟨hx, hb, hml, hown, hts, hK, hN, hD, hA, rfl, hfr, hlo, hce, hsl⟩ := hX
  exact fun z H locs ls hP hS hl => lv_if_ne hx hb d ht (fun h => k1 (z.1 h) H locs ls hP hS hl) (fun h => k2 (z.2 h) H locs ls hP hS hl)
theorem bk_if_lt (hX : bk_Ok Y w X cc own n fr lo) {Z1 Z2 : Prop} {x : Int32} {off : Int} (tgt : Nat) (d : decode cc pc = .ok (.ifCond .lt off, 3)) (ht : (pc : Int) + off = (tgt : Int)) (k1 : Z1 → bk_At Y w X tgt lv st σ) (k2 : Z2 → bk_At Y w X (pc + 3) lv st σ) : (x < 0 → Z1) ∧ (¬ x < 0 → Z2) → bk_At Y w X pc lv (.int x :: st) σ := by
  obtain ⟨⟨p, l, e, R, s, m, args, below, meth, c⟩, nL, cells, slots, Q, A⟩ := X
  obtain ⟨hx, hb, hml, hown, hts, hK, hN, hD, hA, rfl, hfr, hlo, hce, hsl⟩ := hX
  exact fun z H locs ls hP hS hl => lv_if_lt hx hb d ht (fun h => k1 (z.1 h) H locs ls hP hS hl) (fun h => k2 (z.2 h) H locs ls hP hS hl)
theorem bk_if_ge (hX : bk_Ok Y w X cc own n fr lo) {Z1 Z2 : Prop} {x : Int32} {off : Int} (tgt : Nat) (d : decode cc pc = .ok (.ifCond .ge off, 3)) (ht : (pc : Int) + off = (tgt : Int)) (k1 : Z1 → bk_At Y w X tgt lv st σ) (k2 : Z2 → bk_At Y w X (pc + 3) lv st σ) : (0 ≤ x → Z1) ∧ (¬ 0 ≤ x → Z2) → bk_At Y w X pc lv (.int x :: st) σ := by
  obtain ⟨⟨p, l, e, R, s, m, args, below, meth, c⟩, nL, cells, slots, Q, A⟩ := X
  obtain ⟨hx, hb, hml, hown, hts, hK, hN, hD, hA, rfl, hfr, hlo, hce, hsl⟩ := hX
  exact fun z H locs ls hP hS hl => lv_if_ge hx hb d ht (fun h => k1 (z.1 h) H locs ls hP hS hl) (fun h => k2 (z.2 h) H locs ls hP hS hl)
theorem bk_if_gt (hX : bk_Ok Y w X cc own n fr lo) {Z1 Z2 : Prop} {x : Int32} {off : Int} (tgt : Nat) (d : decode cc pc = .ok (.ifCond .gt off, 3)) (ht : (pc : Int) + off = (tgt : Int)) (k1 : Z1 → bk_At Y w X tgt lv st σ) (k2 : Z2 → bk_At Y w X (pc + 3) lv st σ) : (0 < x → Z1) ∧ (¬ 0 < x → Z2) → bk_At Y w X pc lv (.int x :: st) σ := by
  obtain ⟨⟨p, l, e, R, s, m, args, below, meth, c⟩, nL, cells, slots, Q, A⟩ := X
  obtain ⟨hx, hb, hml, hown, hts, hK, hN, hD, hA, rfl, hfr, hlo, hce, hsl⟩ := hX
  exact fun z H locs ls hP hS hl => lv_if_gt hx hb d ht (fun h => k1 (z.1 h) H locs ls hP hS hl) (fun h => k2 (z.2 h) H locs ls hP hS hl)
theorem bk_if_le (hX : bk_Ok Y w X cc own n fr lo) {Z1 Z2 : Prop} {x : Int32} {off : Int} (tgt : Nat) (d : decode cc pc = .ok (.ifCond .le off, 3)) (ht : (pc : Int) + off = (tgt : Int)) (k1 : Z1 → bk_At Y w X tgt lv st σ) (k2 : Z2 → bk_At Y w X (pc + 3) lv st σ) : (x ≤ 0 → Z1) ∧ (¬ x ≤ 0 → Z2) → bk_At Y w X pc lv (.int x :: st) σ := by
  obtain ⟨⟨p, l, e, R, s, m, args, below, meth, c⟩, nL, cells, slots, Q, A⟩ := X
  obtain ⟨hx, hb, hml, hown, hts, hK, hN, hD, hA, rfl, hfr, hlo, hce, hsl⟩ := hX
  exact fun z H locs ls hP hS hl => lv_if_le hx hb d ht (fun h => k1 (z.1 h) H locs ls hP hS hl) (fun h => k2 (z.2 h) H locs ls hP hS hl)
theorem bk_icmp_eq (hX : bk_Ok Y w X cc own n fr lo) {Z1 Z2 : Prop} {x y : Int32} {off : Int} (tgt : Nat) (d : decode cc pc = .ok (.if_icmp .eq off, 3)) (ht : (pc : Int) + off = (tgt : Int)) (k1 : Z1 → bk_At Y w X tgt lv st σ) (k2 : Z2 → bk_At Y w X (pc + 3) lv st σ) : (x = y → Z1) ∧ (¬ x = y → Z2) → bk_At Y w X pc lv (.int y :: .int x :: st) σ := by
  obtain ⟨⟨p, l, e, R, s, m, args, below, meth, c⟩, nL, cells, slots, Q, A⟩ := X
  obtain ⟨hx, hb, hml, hown, hts, hK, hN, hD, hA, rfl, hfr, hlo, hce, hsl⟩ := hX
  exact fun z H locs ls hP hS hl => lv_icmp_eq hx hb d ht (fun h => k1 (z.1 h) H locs ls hP hS hl) (fun h => k2 (z.2 h) H locs ls hP hS hl)
theorem bk_icmp_ne (hX : bk_Ok Y w X cc own n fr lo) {Z1 Z2 : Prop} {x y : Int32} {off : Int} (tgt : Nat) (d : decode cc pc = .ok (.if_icmp .ne off, 3)) (ht : (pc : Int) + off = (tgt : Int)) (k1 : Z1 → bk_At Y w X tgt lv st σ) (k2 : Z2 → bk_At Y w X (pc + 3) lv st σ) : (¬ x = y → Z1) ∧ (x = y → Z2) → bk_At Y w X pc lv (.int y :: .int x :: st) σ := by
  obtain ⟨⟨p, l, e, R, s, m, args, below, meth, c⟩, nL, cells, slots, Q, A⟩ := X
  obtain ⟨hx, hb, hml, hown, hts, hK, hN, hD, hA, rfl, hfr, hlo, hce, hsl⟩ := hX
  exact fun z H locs ls hP hS hl => lv_icmp_ne hx hb d ht (fun h => k1 (z.1 h) H locs ls hP hS hl) (fun h => k2 (z.2 h) H locs ls hP hS hl)
theorem bk_icmp_lt (hX : bk_Ok Y w X cc own n fr lo) {Z1 Z2 : Prop} {x y : Int32} {off : Int} (tgt : Nat) (d : decode cc pc = .ok (.if_icmp .lt off, 3)) (ht : (pc : Int) + off = (tgt : Int)) (k1 : Z1 → bk_At Y w X tgt lv st σ) (k2 : Z2 → bk_At Y w X (pc + 3) lv st σ) : (x < y → Z1) ∧ (¬ x < y → Z2) → bk_At Y w X pc lv (.int y :: .int x :: st) σ := by
  obtain ⟨⟨p, l, e, R, s, m, args, below, meth, c⟩, nL, cells, slots, Q, A⟩ := X
  obtain ⟨hx, hb, hml, hown, hts, hK, hN, hD, hA, rfl, hfr, hlo, hce, hsl⟩ := hX
  exact fun z H locs ls hP hS hl => lv_icmp_lt hx hb d ht (fun h => k1 (z.1 h) H locs ls hP hS hl) (fun h => k2 (z.2 h) H locs ls hP hS hl)
theorem bk_icmp_ge (hX : bk_Ok Y w X cc own n fr lo) {Z1 Z2 : Prop} {x y : Int32} {off : Int} (tgt : Nat) (d : decode cc pc = .ok (.if_icmp .ge off, 3)) (ht : (pc : Int) + off = (tgt : Int)) (k1 : Z1 → bk_At Y w X tgt lv st σ) (k2 : Z2 → bk_At Y w X (pc + 3) lv st σ) : (y ≤ x → Z1) ∧ (¬ y ≤ x → Z2) → bk_At Y w X pc lv (.int y :: .int x :: st) σ := by
  obtain ⟨⟨p, l, e, R, s, m, args, below, meth, c⟩, nL, cells, slots, Q, A⟩ := X
  obtain ⟨hx, hb, hml, hown, hts, hK, hN, hD, hA, rfl, hfr, hlo, hce, hsl⟩ := hX
  exact fun z H locs ls hP hS hl => lv_icmp_ge hx hb d ht (fun h => k1 (z.1 h) H locs ls hP hS hl) (fun h => k2 (z.2 h) H locs ls hP hS hl)
theorem bk_icmp_gt (hX : bk_Ok Y w X cc own n fr lo) {Z1 Z2 : Prop} {x y : Int32} {off : Int} (tgt : Nat) (d : decode cc pc = .ok (.if_icmp .gt off, 3)) (ht : (pc : Int) + off = (tgt : Int)) (k1 : Z1 → bk_At Y w X tgt lv st σ) (k2 : Z2 → bk_At Y w X (pc + 3) lv st σ) : (y < x → Z1) ∧ (¬ y < x → Z2) → bk_At Y w X pc lv (.int y :: .int x :: st) σ := by
  obtain ⟨⟨p, l, e, R, s, m, args, below, meth, c⟩, nL, cells, slots, Q, A⟩ := X
  obtain ⟨hx, hb, hml, hown, hts, hK, hN, hD, hA, rfl, hfr, hlo, hce, hsl⟩ := hX
  exact fun z H locs ls hP hS hl => lv_icmp_gt hx hb d ht (fun h => k1 (z.1 h) H locs ls hP hS hl) (fun h => k2 (z.2 h) H locs ls hP hS hl)
theorem bk_icmp_le (hX : bk_Ok Y w X cc own n fr lo) {Z1 Z2 : Prop} {x y : Int32} {off : Int} (tgt : Nat) (d : decode cc pc = .ok (.if_icmp .le off, 3)) (ht : (pc : Int) + off = (tgt : Int)) (k1 : Z1 → bk_At Y w X tgt lv st σ) (k2 : Z2 → bk_At Y w X (pc + 3) lv st σ) : (x ≤ y → Z1) ∧ (¬ x ≤ y → Z2) → bk_At Y w X pc lv (.int y :: .int x :: st) σ := by
  obtain ⟨⟨p, l, e, R, s, m, args, below, meth, c⟩, nL, cells, slots, Q, A⟩ := X
  obtain ⟨hx, hb, hml, hown, hts, hK, hN, hD, hA, rfl, hfr, hlo, hce, hsl⟩ := hX
  exact fun z H locs ls hP hS hl => lv_icmp_le hx hb d ht (fun h => k1 (z.1 h) H locs ls hP hS hl) (fun h => k2 (z.2 h) H locs ls hP hS hl)
theorem bk_goto (hX : bk_Ok Y w X cc own n fr lo) {off : Int} (tgt : Nat) (d : decode cc pc = .ok (.goto off, 3)) (ht : (pc : Int) + off = (tgt : Int)) (k : Z → bk_At Y w X tgt lv st σ) : Z → bk_At Y w X pc lv st σ := by
  obtain ⟨⟨p, l, e, R, s, m, args, below, meth, c⟩, nL, cells, slots, Q, A⟩ := X
  obtain ⟨hx, hb, hml, hown, hts, hK, hN, hD, hA, rfl, hfr, hlo, hce, hsl⟩ := hX
  exact fun z H locs ls hP hS hl => lv_goto hx hb d ht (k z H locs ls hP hS hl)
/-- a field of class ci, place j, as 'own' links it at its entry i -/
def bk_Fl (own : String) (i ci j : Nat) : Prop := ∃ (C : String) (T : u_T) (N : Nat), vwCl[ci]? = some (C, T, N) ∧ (∀ w ∈ u_ws C T N, w ∈ lw_good) ∧ j < N ∧ Cond.fieldLink own i (T j).1 (T j).2.1 (T j).2.2.1 ∈ lw_good
def bk_Fp (own : String) (i ci j : Nat) (ty : FieldType) : Prop := ∃ (C : String) (T : u_T) (N : Nat) (t0 : Nat → FieldType), vwCl[ci]? = some (C, T, N) ∧ (∀ w ∈ u_ws C T N, w ∈ lw_good) ∧ j < N ∧ Cond.fieldLink own i (T j).1 (T j).2.1 (T j).2.2.1 ∈ lw_good ∧ (∀ k, k < N → parseFieldDescriptor (T k).2.2.1 = some (t0 k)) ∧ (∀ a, a < N → ∀ b, b < N → a ≠ b → (T a).2.1 ≠ (T b).2.1) ∧ (T j).2.2.2 = false ∧ parseFieldDescriptor (T j).2.2.1 = some ty
theorem bk_geti (hX : bk_Ok Y w X cc own n fr lo) {q i ci j : Nat} {fs : List (Option Nat)} (ho : bk_is Y q (.inr (.inl (ci, fs)))) (hf : fs[j]? = some (none)) (hF : bk_Fl own i ci j) (d : decode cc pc = .ok (.getfield i, 3)) (k : Z → bk_At Y w X (pc + 3) lv (.int (σ q j) :: st) σ) : Z → bk_At Y w X pc lv (.ref (bk_r w q) :: st) σ := by
  obtain ⟨⟨p, l, e, R, s, m, args, below, meth, c⟩, nL, cells, slots, Q, A⟩ := X
  obtain ⟨hx, hb, hml, hown, hts, hK, hN, hD, hA, rfl, hfr, hlo, hce, hsl⟩ := hX
  have hcell : (bk_wl Y w σ)[bk_ps Y q]? = some (bk_r w q, bk_cell Y w σ q) := bk_wl_get Y w σ ho.2
  rw [bk_cell, ho.1] at hcell
  obtain ⟨C, T, N, h1, h2, h3, h4⟩ := hF
  exact fun z H locs ls hP hS hl => va_get (D := w.1) (ci := ci) hx hb hts h2 hown hK hP (bk_ps Y q) hcell h1 j h3 (hts _ h4) (fun _ h9 => h9) (by rw [bk_fs_get, hf]; simp) d (k z H locs ls hP hS hl)
theorem bk_getr (hX : bk_Ok Y w X cc own n fr lo) {q i ci j : Nat} {r : Nat} {fs : List (Option Nat)} (ho : bk_is Y q (.inr (.inl (ci, fs)))) (hf : fs[j]? = some (some r)) (hF : bk_Fl own i ci j) (d : decode cc pc = .ok (.getfield i, 3)) (k : Z → bk_At Y w X (pc + 3) lv (.ref (bk_r w r) :: st) σ) : Z → bk_At Y w X pc lv (.ref (bk_r w q) :: st) σ := by
  obtain ⟨⟨p, l, e, R, s, m, args, below, meth, c⟩, nL, cells, slots, Q, A⟩ := X
  obtain ⟨hx, hb, hml, hown, hts, hK, hN, hD, hA, rfl, hfr, hlo, hce, hsl⟩ := hX
  have hcell : (bk_wl Y w σ)[bk_ps Y q]? = some (bk_r w q, bk_cell Y w σ q) := bk_wl_get Y w σ ho.2
  rw [bk_cell, ho.1] at hcell
  obtain ⟨C, T, N, h1, h2, h3, h4⟩ := hF
  exact fun z H locs ls hP hS hl => va_get (D := w.1) (ci := ci) hx hb hts h2 hown hK hP (bk_ps Y q) hcell h1 j h3 (hts _ h4) (fun _ h9 => h9) (by rw [bk_fs_get, hf]; simp) d (k z H locs ls hP hS hl)
theorem bk_puti (hX : bk_Ok Y w X cc own n fr lo) {Z : bk_S → Prop} {q i ci j : Nat} {ty : FieldType} {x : Int32} {fs : List (Option Nat)} (ho : bk_is Y q (.inr (.inl (ci, fs)))) (hf : fs[j]? = some none) (hF : bk_Fp own i ci j ty) (hn : narrow ty (.int x) = .int x) (hft : fits ty (.int x) = true) (d : decode cc pc = .ok (.putfield i, 3)) (k : ∀ σ', Z σ' → bk_At Y w X (pc + 3) lv st σ') : bk_lt (bk_u σ q j x) Z → bk_At Y w X pc lv (.int x :: .ref (bk_r w q) :: st) σ := by
  obtain ⟨⟨p, l, e, R, s, m, args, below, meth, c⟩, nL, cells, slots, Q, A⟩ := X
  obtain ⟨hx, hb, hml, hown, hts, hK, hN, hD, hA, rfl, hfr, hlo, hce, hsl⟩ := hX
  have hcell : (bk_wl Y w σ)[bk_ps Y q]? = some (bk_r w q, bk_cell Y w σ q) := bk_wl_get Y w σ ho.2
  rw [bk_cell, ho.1] at hcell
  obtain ⟨C, T, N, t0, h1, h2, h3, h4, h5, h6, h7, h8⟩ := hF
  have hset : (bk_wl Y w σ).set (bk_ps Y q) (bk_r w q, .inr (ci, (bk_fs w (σ q) 0 fs).set j (.int x))) = bk_wl Y w (bk_u σ q j x) := by
    refine bk_wl_set Y w σ _ ho.2 _ ?_
    rw [bk_cell, ho.1]
    simp only [bk_w_s, bk_fs_set w (σ q) x fs 0 j hf, Nat.zero_add]
  intro z H locs ls hP hS hl
  refine va_put (D := w.1) (ci := ci) (v := .int x) (ty := ty) hx hb hts h2 t0 h5 h6 hown hK hP (hD.va σ) hS (bk_ps Y q) hcell h1 j h3 (hts _ h4) (fun _ h9 => h9) h7 h8 hn hft (by rw [bk_fs_len]; exact (List.getElem?_eq_some_iff.mp hf).1) d (fun H1 locs1 hP1 _ hS1 => ?_)
  rw [hset] at hP1
  exact k _ z H1 locs1 ls hP1 hS1 hl
theorem bk_putI (hX : bk_Ok Y w X cc own n fr lo) {Z : bk_S → Prop} {q i ci j : Nat} {x : Int32} {fs : List (Option Nat)} (ho : bk_is Y q (.inr (.inl (ci, fs)))) (hf : fs[j]? = some none) (hF : bk_Fp own i ci j .int) (d : decode cc pc = .ok (.putfield i, 3)) (k : ∀ σ', Z σ' → bk_At Y w X (pc + 3) lv st σ') : bk_lt (bk_u σ q j x) Z → bk_At Y w X pc lv (.int x :: .ref (bk_r w q) :: st) σ := bk_puti hX ho hf hF rfl rfl d k
theorem bk_putZ (hX : bk_Ok Y w X cc own n fr lo) {Z : bk_S → Prop} {q i ci j : Nat} {x : Int32} {fs : List (Option Nat)} (ho : bk_is Y q (.inr (.inl (ci, fs)))) (hf : fs[j]? = some none) (hF : bk_Fp own i ci j .boolean) (hn : narrow .boolean (.int x) = .int x) (hft : fits .boolean (.int x) = true) (d : decode cc pc = .ok (.putfield i, 3)) (k : ∀ σ', Z σ' → bk_At Y w X (pc + 3) lv st σ') : bk_lt (bk_u σ q j x) Z → bk_At Y w X pc lv (.int x :: .ref (bk_r w q) :: st) σ := bk_puti hX ho hf hF hn hft d k
theorem bk_iaload (hX : bk_Ok Y w X cc own n fr lo) {q N : Nat} {i : Int32} (ho : bk_is Y q (.inl (0, N))) (d : decode cc pc = .ok (.iaload, 1)) (k : Z → bk_At Y w X (pc + 1) lv (.int (σ q i.toNatClampNeg) :: st) σ) : vp_in i N ∧ Z → bk_At Y w X pc lv (.int i :: .ref (bk_r w q) :: st) σ := by
  obtain ⟨⟨p, l, e, R, s, m, args, below, meth, c⟩, nL, cells, slots, Q, A⟩ := X
  obtain ⟨hx, hb, hml, hown, hts, hK, hN, hD, hA, rfl, hfr, hlo, hce, hsl⟩ := hX
  have hcell : (bk_wl Y w σ)[bk_ps Y q]? = some (bk_r w q, bk_cell Y w σ q) := bk_wl_get Y w σ ho.2
  rw [bk_cell, ho.1] at hcell
  exact fun z H locs ls hP hS hl => va_iald (D := w.1) hx hb hK hP (bk_ps Y q) 0 hcell rfl z.1 d (k z.2 H locs ls hP hS hl)
theorem bk_baload (hX : bk_Ok Y w X cc own n fr lo) {q N : Nat} {i : Int32} (ho : bk_is Y q (.inl (1, N))) (d : decode cc pc = .ok (.baload, 1)) (k : Z → bk_At Y w X (pc + 1) lv (.int (σ q i.toNatClampNeg) :: st) σ) : vp_in i N ∧ Z → bk_At Y w X pc lv (.int i :: .ref (bk_r w q) :: st) σ := by
  obtain ⟨⟨p, l, e, R, s, m, args, below, meth, c⟩, nL, cells, slots, Q, A⟩ := X
  obtain ⟨hx, hb, hml, hown, hts, hK, hN, hD, hA, rfl, hfr, hlo, hce, hsl⟩ := hX
  have hcell : (bk_wl Y w σ)[bk_ps Y q]? = some (bk_r w q, bk_cell Y w σ q) := bk_wl_get Y w σ ho.2
  rw [bk_cell, ho.1] at hcell
  exact fun z H locs ls hP hS hl => va_zald (D := w.1) hx hb hK hP (bk_ps Y q) 1 hcell rfl z.1 d (k z.2 H locs ls hP hS hl)
theorem bk_iastore (hX : bk_Ok Y w X cc own n fr lo) {Z : bk_S → Prop} {q N : Nat} {i x : Int32} (ho : bk_is Y q (.inl (0, N))) (d : decode cc pc = .ok (.iastore, 1)) (k : ∀ σ', Z σ' → bk_At Y w X (pc + 1) lv st σ') : vp_in i N ∧ bk_lt (bk_u σ q i.toNatClampNeg (x)) Z → bk_At Y w X pc lv (.int x :: .int i :: .ref (bk_r w q) :: st) σ := by
  obtain ⟨⟨p, l, e, R, s, m, args, below, meth, c⟩, nL, cells, slots, Q, A⟩ := X
  obtain ⟨hx, hb, hml, hown, hts, hK, hN, hD, hA, rfl, hfr, hlo, hce, hsl⟩ := hX
  have hcell : (bk_wl Y w σ)[bk_ps Y q]? = some (bk_r w q, bk_cell Y w σ q) := bk_wl_get Y w σ ho.2
  rw [bk_cell, ho.1] at hcell
  have hset : (bk_wl Y w σ).set (bk_ps Y q) (bk_r w q, .inl (w.2.2 0, N, .inl (upd (σ q) i.toNatClampNeg (x)))) = bk_wl Y w (bk_u σ q i.toNatClampNeg (x)) := by
    refine bk_wl_set Y w σ _ ho.2 _ ?_
    rw [bk_cell, ho.1]
    simp only [bk_w_s]
  intro z H locs ls hP hS hl
  refine va_iast (D := w.1) hx hb hK hP (hD.va σ) hS (bk_ps Y q) 0 hcell rfl z.1 d (fun H1 locs1 hP1 _ hS1 => ?_)
  rw [hset] at hP1
  exact k _ z.2 H1 locs1 ls hP1 hS1 hl
theorem bk_bastore (hX : bk_Ok Y w X cc own n fr lo) {Z : bk_S → Prop} {q N : Nat} {i x : Int32} (ho : bk_is Y q (.inl (1, N))) (d : decode cc pc = .ok (.bastore, 1)) (k : ∀ σ', Z σ' → bk_At Y w X (pc + 1) lv st σ') : vp_in i N ∧ bk_lt (bk_u σ q i.toNatClampNeg (vp_nar .boolean x)) Z → bk_At Y w X pc lv (.int x :: .int i :: .ref (bk_r w q) :: st) σ := by
  obtain ⟨⟨p, l, e, R, s, m, args, below, meth, c⟩, nL, cells, slots, Q, A⟩ := X
  obtain ⟨hx, hb, hml, hown, hts, hK, hN, hD, hA, rfl, hfr, hlo, hce, hsl⟩ := hX
  have hcell : (bk_wl Y w σ)[bk_ps Y q]? = some (bk_r w q, bk_cell Y w σ q) := bk_wl_get Y w σ ho.2
  rw [bk_cell, ho.1] at hcell
  have hset : (bk_wl Y w σ).set (bk_ps Y q) (bk_r w q, .inl (w.2.2 1, N, .inl (upd (σ q) i.toNatClampNeg (vp_nar .boolean x)))) = bk_wl Y w (bk_u σ q i.toNatClampNeg (vp_nar .boolean x)) := by
    refine bk_wl_set Y w σ _ ho.2 _ ?_
    rw [bk_cell, ho.1]
    simp only [bk_w_s]
  intro z H locs ls hP hS hl
  refine va_zast (D := w.1) hx hb hK hP (hD.va σ) hS (bk_ps Y q) 1 hcell rfl z.1 d (fun H1 locs1 hP1 _ hS1 => ?_)
  rw [hset] at hP1
  exact k _ z.2 H1 locs1 ls hP1 hS1 hl
theorem bk_aaload (hX : bk_Ok Y w X cc own n fr lo) {q N : Nat} {f : Nat → Nat} {i : Int32} (ho : bk_is Y q (.inr (.inr (N, f)))) (d : decode cc pc = .ok (.aaload, 1)) (k : vp_in i N → Z → bk_At Y w X (pc + 1) lv (.ref (bk_r w (f i.toNatClampNeg)) :: st) σ) : vp_in i N ∧ Z → bk_At Y w X pc lv (.int i :: .ref (bk_r w q) :: st) σ := by
  obtain ⟨⟨p, l, e, R, s, m, args, below, meth, c⟩, nL, cells, slots, Q, A⟩ := X
  obtain ⟨hx, hb, hml, hown, hts, hK, hN, hD, hA, rfl, hfr, hlo, hce, hsl⟩ := hX
  have hcell : (bk_wl Y w σ)[bk_ps Y q]? = some (bk_r w q, bk_cell Y w σ q) := bk_wl_get Y w σ ho.2
  rw [bk_cell, ho.1] at hcell
  exact fun z H locs ls hP hS hl => va_aldq (D := w.1) hx hb hK hP (bk_ps Y q) 2 hcell rfl z.1 d (k z.1 z.2 H locs ls hP hS hl)
theorem bk_alen (hX : bk_Ok Y w X cc own n fr lo) {q t N : Nat} {v : Int32} (ho : bk_is Y q (.inl (t, N))) (ht : t < 2) (hv : Int32.ofNat N = v) (d : decode cc pc = .ok (.arraylength, 1)) (k : Z → bk_At Y w X (pc + 1) lv (.int v :: st) σ) : Z → bk_At Y w X pc lv (.ref (bk_r w q) :: st) σ := by
  obtain ⟨⟨p, l, e, R, s, m, args, below, meth, c⟩, nL, cells, slots, Q, A⟩ := X
  obtain ⟨hx, hb, hml, hown, hts, hK, hN, hD, hA, rfl, hfr, hlo, hce, hsl⟩ := hX
  have hcell : (bk_wl Y w σ)[bk_ps Y q]? = some (bk_r w q, bk_cell Y w σ q) := bk_wl_get Y w σ ho.2
  rw [bk_cell, ho.1] at hcell
  intro z H locs ls hP hS hl
  match t, ht with
  | 0, _ => exact va_alen (D := w.1) hx hb hK hP (bk_ps Y q) 0 hcell rfl hv d (k z H locs ls hP hS hl)
  | 1, _ => exact va_alen (D := w.1) hx hb hK hP (bk_ps Y q) 1 hcell rfl hv d (k z H locs ls hP hS hl)
theorem bk_copy (hX : bk_Ok Y w X cc own n fr lo) {Z : bk_S → Prop} {q0 q1 N0 N1 i : Nat} {sp dp m0 : Int32} (h0 : bk_is Y q0 (.inl (0, N0))) (h1 : bk_is Y q1 (.inl (0, N1))) (hl1 : Cond.methodLink own i arraycopyName ∈ lw_good) (hl2 : Cond.native arraycopyName ∈ lw_good) (hl3 : Cond.static arraycopyName ∈ lw_good) (hl4 : Cond.initialized "java/lang/System" ∈ lw_good) (hr1 : 1 ≤ fr) (hr2 : (st.map fun v => v.category).sum + (nativeFrameWords "java/lang/System" "arraycopy" 5 + 11) ≤ lo) (d : decode cc pc = .ok (.invokestatic i, 3)) (k : ∀ σ', Z σ' → bk_At Y w X (pc + 3) lv st σ') : (¬ sp < 0 ∧ ¬ dp < 0 ∧ ¬ m0 < 0 ∧ sp.toNatClampNeg + m0.toNatClampNeg ≤ N0 ∧ dp.toNatClampNeg + m0.toNatClampNeg ≤ N1) ∧ bk_lt (bk_w σ q1 (va_cpy (σ q0) (σ q1) sp.toNatClampNeg dp.toNatClampNeg m0.toNatClampNeg)) Z → bk_At Y w X pc lv (.int m0 :: .int dp :: .ref (bk_r w q1) :: .int sp :: .ref (bk_r w q0) :: st) σ := by
  obtain ⟨⟨p, l, e, R, s, m, args, below, meth, c⟩, nL, cells, slots, Q, A⟩ := X
  obtain ⟨hx, hb, hml, hown, hts, hK, hN, hD, hA, rfl, hfr, hlo, hce, hsl⟩ := hX
  have hc0 : (bk_wl Y w σ)[bk_ps Y q0]? = some (bk_r w q0, bk_cell Y w σ q0) := bk_wl_get Y w σ h0.2
  rw [bk_cell, h0.1] at hc0
  have hc1 : (bk_wl Y w σ)[bk_ps Y q1]? = some (bk_r w q1, bk_cell Y w σ q1) := bk_wl_get Y w σ h1.2
  rw [bk_cell, h1.1] at hc1
  have hset : (bk_wl Y w σ).set (bk_ps Y q1) (bk_r w q1, .inl (w.2.2 0, N1, .inl (va_cpy (σ q0) (σ q1) sp.toNatClampNeg dp.toNatClampNeg m0.toNatClampNeg))) = bk_wl Y w (bk_w σ q1 (va_cpy (σ q0) (σ q1) sp.toNatClampNeg dp.toNatClampNeg m0.toNatClampNeg)) := by
    refine bk_wl_set Y w σ _ h1.2 _ ?_
    rw [bk_cell, h1.1]
    simp only [bk_w_s]
  intro z H locs ls hP hS hl
  obtain ⟨⟨a1, a2, a3, a4, a5⟩, z⟩ := z
  refine va_copyi (D := w.1) hx hb (by rw [hml]; exact hl.1.symm) hown (hts _ hl1) (hts _ hl2) (hts _ hl3) (hts _ hl4) hK hP (hD.va σ) hS (bk_ps Y q0) (bk_ps Y q1) 0 0 hc0 hc1 rfl rfl rfl a1 a2 a3 a4 a5 (fun _ _ => rfl) (by omega) (by omega) d (fun H1 locs1 hP1 _ hS1 => ?_)
  rw [hset] at hP1
  exact k _ z H1 locs1 ls hP1 hS1 hl
theorem bk_min (hX : bk_Ok Y w X cc own n fr lo) {i : Nat} {x y : Int32} (hl1 : Cond.methodLink own i Lib.Math.min.name ∈ lw_good) (hl2 : Cond.static Lib.Math.min.name ∈ lw_good) (hl3 : Cond.initialized "java/lang/Math" ∈ lw_good) (hl4 : Cond.code Lib.Math.min.name Lib.Math.min.code 2 (some .int) ∈ lw_good) (hr1 : 1 ≤ fr) (hr2 : (st.map fun v => v.category).sum + 13 ≤ lo) (d : decode cc pc = .ok (.invokestatic i, 3)) (k : Z → bk_At Y w X (pc + 3) lv (.int (if y < x then y else x) :: st) σ) : Z → bk_At Y w X pc lv (.int y :: .int x :: st) σ := by
  obtain ⟨⟨p, l, e, R, s, m, args, below, meth, c⟩, nL, cells, slots, Q, A⟩ := X
  obtain ⟨hx, hb, hml, hown, hts, hK, hN, hD, hA, rfl, hfr, hlo, hce, hsl⟩ := hX
  exact fun z H locs ls hP hS hl => va_mmin hx hb (by rw [hml]; exact hl.1.symm) hown (hts _ hl1) (hts _ hl2) (hts _ hl3) (hts _ hl4) (by omega) (by omega) hce hsl d (k z H locs ls hP hS hl)
theorem bk_max (hX : bk_Ok Y w X cc own n fr lo) {i : Nat} {x y : Int32} (hl1 : Cond.methodLink own i Lib.Math.max.name ∈ lw_good) (hl2 : Cond.static Lib.Math.max.name ∈ lw_good) (hl3 : Cond.initialized "java/lang/Math" ∈ lw_good) (hl4 : Cond.code Lib.Math.max.name Lib.Math.max.code 2 (some .int) ∈ lw_good) (hr1 : 1 ≤ fr) (hr2 : (st.map fun v => v.category).sum + 13 ≤ lo) (d : decode cc pc = .ok (.invokestatic i, 3)) (k : Z → bk_At Y w X (pc + 3) lv (.int (if x < y then y else x) :: st) σ) : Z → bk_At Y w X pc lv (.int y :: .int x :: st) σ := by
  obtain ⟨⟨p, l, e, R, s, m, args, below, meth, c⟩, nL, cells, slots, Q, A⟩ := X
  obtain ⟨hx, hb, hml, hown, hts, hK, hN, hD, hA, rfl, hfr, hlo, hce, hsl⟩ := hX
  exact fun z H locs ls hP hS hl => va_mmax hx hb (by rw [hml]; exact hl.1.symm) hown (hts _ hl1) (hts _ hl2) (hts _ hl3) (hts _ hl4) (by omega) (by omega) hce hsl d (k z H locs ls hP hS hl)
/-- fewer locals, in another order -/
theorem bk_pick (ps : List Nat) {lv' : List (Nat × Value)} (h : lv_pick lv ps = lv') (k : Z → bk_At Y w X pc lv' st σ) : Z → bk_At Y w X pc lv st σ := by
  obtain ⟨⟨p, l, e, R, s, m, args, below, meth, c⟩, nL, cells, slots, Q, A⟩ := X
  exact fun z H locs ls hP hS hl => k z H locs ls hP hS (lv_sub hl ps h)
end Rows
theorem bk_r_jn {α : Type} {rest : α → Prop} {F : (α → Prop) → Prop} {G : Prop} (J : α → Prop) (hr : ∀ a, rest a → J a) (hF : ∀ K : α → Prop, (∀ a, K a → J a) → F K → G) : bk_jn rest F → G := fun h => hF rest hr h
theorem bk_r_loop {α : Type} {F : (α → Prop) → α → Prop} (J : α → Prop) (a : α) (hF : ∀ K : α → Prop, (∀ a, K a → J a) → ∀ a, F K a → J a) : bk_loop F a → J a := by
  rintro ⟨n, h⟩
  induction n generalizing a with
  | zero => exact h.elim
  | succ n ih => exact hF _ (fun a h => ih a h) a h
