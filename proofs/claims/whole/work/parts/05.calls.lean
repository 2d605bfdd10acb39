/-! Contracts of methods over the world, rows of calls, a method's entry. -/
def bk_ws (y : MethodName) (cc : ByteArray) (mL : Nat) (ret : Option FieldType) : List Cond := .code y cc mL ret :: lw_good
def bk_Pc (Y : bk_Y) (w : bk_W) (av : List Value) (σ : bk_S) (sz : Nat) : Array Value → State → Prop := va_Pc av (fun U => U.heap.size = sz ∧ va_P w.1 vwCl (bk_wl Y w σ) U.heap ∧ va_K w.1 vwCl (bk_tys w) U ∧ bk_N U ∧ bk_D Y w (fun _ => True))
def bk_B (Y : bk_Y) (w : bk_W) (σ : bk_S) (t : State) : Prop := va_P w.1 vwCl (bk_wl Y w σ) t.heap ∧ va_K w.1 vwCl (bk_tys w) t
def bk_Mi (Y : bk_Y) (w : bk_W) (y : MethodName) (cc : ByteArray) (mL : Nat) (ty : FieldType) (fr lo : Nat) (av : List Value) (σ : bk_S) (post : Int32 → bk_S → Prop) : Prop := ∀ (l : Launch) (sz : Nat), Met l y (bk_ws y cc mL (some ty)) { frames := fr, cells := 0, slots := 0, locals := lo } (bk_Pc Y w av σ sz) (va_Qi post (bk_B Y w) (va_A (bk_wl Y w σ) sz)) 0 0 (va_A (bk_wl Y w σ) sz)
def bk_Ml (Y : bk_Y) (w : bk_W) (y : MethodName) (cc : ByteArray) (mL : Nat) (fr lo : Nat) (av : List Value) (σ : bk_S) (post : Int64 → bk_S → Prop) : Prop := ∀ (l : Launch) (sz : Nat), Met l y (bk_ws y cc mL (some .long)) { frames := fr, cells := 0, slots := 0, locals := lo } (bk_Pc Y w av σ sz) (va_Ql post (bk_B Y w) (va_A (bk_wl Y w σ) sz)) 0 0 (va_A (bk_wl Y w σ) sz)
def bk_Mv (Y : bk_Y) (w : bk_W) (y : MethodName) (cc : ByteArray) (mL : Nat) (fr lo : Nat) (av : List Value) (σ : bk_S) (post : bk_S → Prop) : Prop := ∀ (l : Launch) (sz : Nat), Met l y (bk_ws y cc mL none) { frames := fr, cells := 0, slots := 0, locals := lo } (bk_Pc Y w av σ sz) (va_Qv post (bk_B Y w) (va_A (bk_wl Y w σ) sz)) 0 0 (va_A (bk_wl Y w σ) sz)
/-- a reference is answered: the cell's number comes with the state -/
def bk_Mr (Y : bk_Y) (w : bk_W) (y : MethodName) (cc : ByteArray) (mL : Nat) (rt : FieldType) (fr lo : Nat) (av : List Value) (σ : bk_S) (post : Nat → bk_S → Prop) : Prop := ∀ (l : Launch) (sz : Nat), Met l y (bk_ws y cc mL (some rt)) { frames := fr, cells := 0, slots := 0, locals := lo } (bk_Pc Y w av σ sz) (va_Qr (fun u : Nat × bk_S => post u.1 u.2) (fun u a t => a = bk_r w u.1 ∧ bk_B Y w u.2 t) (va_A (bk_wl Y w σ) sz)) 0 0 (va_A (bk_wl Y w σ) sz)
def bk_yk (y : MethodName) (cc : ByteArray) (mL : Nat) (ret : Option FieldType) (np : Nat) : Prop := Cond.code y cc mL ret ∈ lw_good ∧ Cond.initialized y.cls ∈ lw_good ∧ y.cls ≠ "java/lang/invoke/MethodHandle" ∧ y.cls ≠ "java/lang/invoke/VarHandle" ∧ (parseMethodDescriptor y.desc).map (fun d => d.parameters.length) = some np
def bk_yv (y : MethodName) : Prop := Cond.instanceMethod y ∈ lw_good ∧ Cond.selects y.cls y y ∈ lw_good
theorem bk_goodIn {y : MethodName} {cc : ByteArray} {mL : Nat} {ret : Option FieldType} {np : Nat} (h : bk_yk y cc mL ret np) : GoodIn lw_good (bk_ws y cc mL ret) := by
  intro q hq
  have hm : q ∈ lw_good := (List.mem_cons.mp hq).elim (fun e => e ▸ h.1) id
  exact ⟨hm, good_of_word (List.mem_filter.mp hm).2⟩
theorem bk_blind (Y : bk_Y) (w : bk_W) (av : List Value) (σ : bk_S) (sz : Nat) : FrameBlind (bk_Pc Y w av σ sz) := by
  intro a U g mk q
  obtain ⟨q0, q1, qP, qK, qN, qD⟩ := q
  exact ⟨q0, q1, qP, va_K.moved (u := U) (U := U.calling g mk a) (Vm.Alike.refl U.vm) qK, bk_N.same qN rfl, qD⟩
theorem bk_freeA {Y : bk_Y} {w : bk_W} {A : Nat → Prop} {H0 H : Heap} {locs : List Loc} {σ : bk_S} (hD : bk_D Y w A) (hA : ∀ q, H0.size ≤ q → A q) (hS : va_S A H0 H locs) : ∀ q, va_A (bk_wl Y w σ) H.size q → A q := by
  rintro q (⟨k, e, hk⟩ | h)
  · obtain ⟨a, h1, -, h2⟩ := bk_wl_some hk
    cases h2
    exact hD.2 a h1
  · exact hA q (Nat.le_trans hS.1 h)
section Calls2
variable {Y : bk_Y} {w : bk_W} {X : bk_X} {cc : ByteArray} {own : String} {n fr lo pc : Nat} {lv : List (Nat × Value)} {st : List Value} {σ : bk_S} {Z : Prop}
theorem bk_callV_i (hX : bk_Ok Y w X cc own n fr lo) {post : Int32 → bk_S → Prop} {ty : FieldType} {q i ci np mL fr2 lo2 : Nat} {y : MethodName} {cc2 : ByteArray} {fs : List (Option Nat)} {r0 : vw_C} (As rest : List Value) (hy : bk_yk y cc2 mL (some ty) np) (hv : bk_yv y) (hlk : Cond.methodLink own i y ∈ lw_good) (hci : vwCl[ci]? = some r0) (hcn : r0.1 = y.cls) (ho : bk_is Y q (.inr (.inl (ci, fs)))) (hst : st = As.reverse ++ .ref (bk_r w q) :: rest) (hlen : As.length = np) (hcat : (rest.map fun v => v.category).sum ≤ 8) (hR : fr2 + 1 ≤ fr ∧ 8 + (mL + 11) + lo2 ≤ lo) (d : decode cc pc = .ok (.invokevirtual i, 3)) (hM : Z → bk_Mi Y w y cc2 mL ty fr2 lo2 (.ref (bk_r w q) :: As) σ post) (k : ∀ r σ1, post r σ1 → bk_At Y w X (pc + 3) lv (.int r :: rest) σ1) : Z → bk_At Y w X pc lv st σ := by
  obtain ⟨⟨p, l, e, R, s, m, args, below, meth, c⟩, nL, cells, slots, Q, A⟩ := X
  obtain ⟨hx, hb, hml, hown, hts, hK, hN, hD, hA, rfl, hfr, hlo, hce, hsl⟩ := hX
  subst hst
  have hcell : (bk_wl Y w σ)[bk_ps Y q]? = some (bk_r w q, bk_cell Y w σ q) := bk_wl_get Y w σ ho.2
  rw [bk_cell, ho.1] at hcell
  intro z H locs ls hP hS hl
  have hM := hM z l H.size
  have hfree := bk_freeA (σ := σ) hD hA hS
  have hrecv := va_recv hK hP hci hcell
  rw [hcn] at hrecv
  exact va_calli (va_runV (As := As) (rest := rest) ⟨hx, hb, hml, hown, hts⟩ hM ⟨callB_of np hts (bk_goodIn hy) rfl rfl rfl (hts _ hy.2.1) (hts _ hlk) ⟨hy.2.2.1, hy.2.2.2.1, hy.2.2.2.2⟩ ⟨Nat.le_trans hR.1 hfr, Nat.le_trans hR.2 hlo⟩, hts _ hv.1, hts _ hv.2⟩ ⟨bk_blind Y w _ σ H.size, hrecv, fun U hU hW => ⟨rfl, by rw [hU], by rw [hU]; exact hP, va_K.moved hW.alike hK, hN.warm hW, hD.1, fun _ _ => trivial⟩⟩ rfl hlen hl.1 rfl (lv_room hcat) d ⟨hce, hsl⟩) hS (fun q _ h => hfree q h) hfree (fun r u t H1 locs1 ht hvm hw hB hz1 hk1 hS1 => k r u hw H1 locs1 ls (by rw [← ht]; exact hB.1) hS1 hl)
theorem bk_callS_i (hX : bk_Ok Y w X cc own n fr lo) {post : Int32 → bk_S → Prop} {ty : FieldType} {i np mL fr2 lo2 : Nat} {y : MethodName} {cc2 : ByteArray} (As rest : List Value) (hy : bk_yk y cc2 mL (some ty) np) (hv : Cond.static y ∈ lw_good) (hlk : Cond.methodLink own i y ∈ lw_good) (hst : st = As.reverse ++ rest) (hlen : As.length = np) (hcat : (rest.map fun v => v.category).sum ≤ 8) (hR : fr2 + 1 ≤ fr ∧ 8 + (mL + 11) + lo2 ≤ lo) (d : decode cc pc = .ok (.invokestatic i, 3)) (hM : Z → bk_Mi Y w y cc2 mL ty fr2 lo2 As σ post) (k : ∀ r σ1, post r σ1 → bk_At Y w X (pc + 3) lv (.int r :: rest) σ1) : Z → bk_At Y w X pc lv st σ := by
  obtain ⟨⟨p, l, e, R, s, m, args, below, meth, c⟩, nL, cells, slots, Q, A⟩ := X
  obtain ⟨hx, hb, hml, hown, hts, hK, hN, hD, hA, rfl, hfr, hlo, hce, hsl⟩ := hX
  subst hst
  intro z H locs ls hP hS hl
  have hM := hM z l H.size
  have hfree := bk_freeA (σ := σ) hD hA hS
  exact va_calli (va_runS (As := As) (rest := rest) ⟨hx, hb, hml, hown, hts⟩ hM ⟨callB_of np hts (bk_goodIn hy) rfl rfl rfl (hts _ hy.2.1) (hts _ hlk) ⟨hy.2.2.1, hy.2.2.2.1, hy.2.2.2.2⟩ ⟨Nat.le_trans hR.1 hfr, Nat.le_trans hR.2 hlo⟩, hts _ hv⟩ ⟨bk_blind Y w _ σ H.size, fun U hU hW => ⟨rfl, by rw [hU], by rw [hU]; exact hP, va_K.moved hW.alike hK, hN.warm hW, hD.1, fun _ _ => trivial⟩⟩ rfl hlen hl.1 rfl (lv_room hcat) d ⟨hce, hsl⟩) hS (fun q _ h => hfree q h) hfree (fun r u t H1 locs1 ht hvm hw hB hz1 hk1 hS1 => k r u hw H1 locs1 ls (by rw [← ht]; exact hB.1) hS1 hl)
theorem bk_callN_i (hX : bk_Ok Y w X cc own n fr lo) {post : Int32 → bk_S → Prop} {ty : FieldType} {i np mL fr2 lo2 : Nat} {y : MethodName} {cc2 : ByteArray} {host : String} (As rest : List Value) (hy : bk_yk y cc2 mL (some ty) np) (hv : Cond.static y ∈ lw_good) (hlk : (own, i, y, host) ∈ bk_nest) (hst : st = As.reverse ++ rest) (hlen : As.length = np) (hcat : (rest.map fun v => v.category).sum ≤ 8) (hR : fr2 + 1 ≤ fr ∧ 8 + (mL + 11) + lo2 ≤ lo) (d : decode cc pc = .ok (.invokestatic i, 3)) (hM : Z → bk_Mi Y w y cc2 mL ty fr2 lo2 As σ post) (k : ∀ r σ1, post r σ1 → bk_At Y w X (pc + 3) lv (.int r :: rest) σ1) : Z → bk_At Y w X pc lv st σ := by
  obtain ⟨⟨p, l, e, R, s, m, args, below, meth, c⟩, nL, cells, slots, Q, A⟩ := X
  obtain ⟨hx, hb, hml, hown, hts, hK, hN, hD, hA, rfl, hfr, hlo, hce, hsl⟩ := hX
  subst hst
  intro z H locs ls hP hS hl
  have hM := hM z l H.size
  have hfree := bk_freeA (σ := σ) hD hA hS
  exact va_calli (va_runSN (As := As) (rest := rest) ⟨hx, hb, hml, hown, hts⟩ hM ⟨va_cnB np hts (bk_goodIn hy) rfl rfl rfl (hN _ hlk) (hts _ hy.2.1) ⟨hy.2.2.1, hy.2.2.2.1, hy.2.2.2.2⟩ ⟨Nat.le_trans hR.1 hfr, Nat.le_trans hR.2 hlo⟩, hts _ hv, trivial⟩ ⟨bk_blind Y w _ σ H.size, fun U hU hW => ⟨rfl, by rw [hU], by rw [hU]; exact hP, va_K.moved hW.alike hK, hN.warm hW, hD.1, fun _ _ => trivial⟩⟩ rfl hlen hl.1 rfl (lv_room hcat) d ⟨hce, hsl⟩) hS (fun q _ h => hfree q h) hfree (fun r u t H1 locs1 ht hvm hw hB hz1 hk1 hS1 => k r u hw H1 locs1 ls (by rw [← ht]; exact hB.1) hS1 hl)
theorem bk_callV_l (hX : bk_Ok Y w X cc own n fr lo) {post : Int64 → bk_S → Prop} {q i ci np mL fr2 lo2 : Nat} {y : MethodName} {cc2 : ByteArray} {fs : List (Option Nat)} {r0 : vw_C} (As rest : List Value) (hy : bk_yk y cc2 mL (some .long) np) (hv : bk_yv y) (hlk : Cond.methodLink own i y ∈ lw_good) (hci : vwCl[ci]? = some r0) (hcn : r0.1 = y.cls) (ho : bk_is Y q (.inr (.inl (ci, fs)))) (hst : st = As.reverse ++ .ref (bk_r w q) :: rest) (hlen : As.length = np) (hcat : (rest.map fun v => v.category).sum ≤ 8) (hR : fr2 + 1 ≤ fr ∧ 8 + (mL + 11) + lo2 ≤ lo) (d : decode cc pc = .ok (.invokevirtual i, 3)) (hM : Z → bk_Ml Y w y cc2 mL fr2 lo2 (.ref (bk_r w q) :: As) σ post) (k : ∀ r σ1, post r σ1 → bk_At Y w X (pc + 3) lv (.long r :: rest) σ1) : Z → bk_At Y w X pc lv st σ := by
  obtain ⟨⟨p, l, e, R, s, m, args, below, meth, c⟩, nL, cells, slots, Q, A⟩ := X
  obtain ⟨hx, hb, hml, hown, hts, hK, hN, hD, hA, rfl, hfr, hlo, hce, hsl⟩ := hX
  subst hst
  have hcell : (bk_wl Y w σ)[bk_ps Y q]? = some (bk_r w q, bk_cell Y w σ q) := bk_wl_get Y w σ ho.2
  rw [bk_cell, ho.1] at hcell
  intro z H locs ls hP hS hl
  have hM := hM z l H.size
  have hfree := bk_freeA (σ := σ) hD hA hS
  have hrecv := va_recv hK hP hci hcell
  rw [hcn] at hrecv
  exact va_calll (va_runV (As := As) (rest := rest) ⟨hx, hb, hml, hown, hts⟩ hM ⟨callB_of np hts (bk_goodIn hy) rfl rfl rfl (hts _ hy.2.1) (hts _ hlk) ⟨hy.2.2.1, hy.2.2.2.1, hy.2.2.2.2⟩ ⟨Nat.le_trans hR.1 hfr, Nat.le_trans hR.2 hlo⟩, hts _ hv.1, hts _ hv.2⟩ ⟨bk_blind Y w _ σ H.size, hrecv, fun U hU hW => ⟨rfl, by rw [hU], by rw [hU]; exact hP, va_K.moved hW.alike hK, hN.warm hW, hD.1, fun _ _ => trivial⟩⟩ rfl hlen hl.1 rfl (lv_room hcat) d ⟨hce, hsl⟩) hS (fun q _ h => hfree q h) hfree (fun r u t H1 locs1 ht hvm hw hB hz1 hk1 hS1 => k r u hw H1 locs1 ls (by rw [← ht]; exact hB.1) hS1 hl)
theorem bk_callS_l (hX : bk_Ok Y w X cc own n fr lo) {post : Int64 → bk_S → Prop} {i np mL fr2 lo2 : Nat} {y : MethodName} {cc2 : ByteArray} (As rest : List Value) (hy : bk_yk y cc2 mL (some .long) np) (hv : Cond.static y ∈ lw_good) (hlk : Cond.methodLink own i y ∈ lw_good) (hst : st = As.reverse ++ rest) (hlen : As.length = np) (hcat : (rest.map fun v => v.category).sum ≤ 8) (hR : fr2 + 1 ≤ fr ∧ 8 + (mL + 11) + lo2 ≤ lo) (d : decode cc pc = .ok (.invokestatic i, 3)) (hM : Z → bk_Ml Y w y cc2 mL fr2 lo2 As σ post) (k : ∀ r σ1, post r σ1 → bk_At Y w X (pc + 3) lv (.long r :: rest) σ1) : Z → bk_At Y w X pc lv st σ := by
  obtain ⟨⟨p, l, e, R, s, m, args, below, meth, c⟩, nL, cells, slots, Q, A⟩ := X
  obtain ⟨hx, hb, hml, hown, hts, hK, hN, hD, hA, rfl, hfr, hlo, hce, hsl⟩ := hX
  subst hst
  intro z H locs ls hP hS hl
  have hM := hM z l H.size
  have hfree := bk_freeA (σ := σ) hD hA hS
  exact va_calll (va_runS (As := As) (rest := rest) ⟨hx, hb, hml, hown, hts⟩ hM ⟨callB_of np hts (bk_goodIn hy) rfl rfl rfl (hts _ hy.2.1) (hts _ hlk) ⟨hy.2.2.1, hy.2.2.2.1, hy.2.2.2.2⟩ ⟨Nat.le_trans hR.1 hfr, Nat.le_trans hR.2 hlo⟩, hts _ hv⟩ ⟨bk_blind Y w _ σ H.size, fun U hU hW => ⟨rfl, by rw [hU], by rw [hU]; exact hP, va_K.moved hW.alike hK, hN.warm hW, hD.1, fun _ _ => trivial⟩⟩ rfl hlen hl.1 rfl (lv_room hcat) d ⟨hce, hsl⟩) hS (fun q _ h => hfree q h) hfree (fun r u t H1 locs1 ht hvm hw hB hz1 hk1 hS1 => k r u hw H1 locs1 ls (by rw [← ht]; exact hB.1) hS1 hl)
theorem bk_callV_v (hX : bk_Ok Y w X cc own n fr lo) {post : bk_S → Prop} {q i ci np mL fr2 lo2 : Nat} {y : MethodName} {cc2 : ByteArray} {fs : List (Option Nat)} {r0 : vw_C} (As rest : List Value) (hy : bk_yk y cc2 mL none np) (hv : bk_yv y) (hlk : Cond.methodLink own i y ∈ lw_good) (hci : vwCl[ci]? = some r0) (hcn : r0.1 = y.cls) (ho : bk_is Y q (.inr (.inl (ci, fs)))) (hst : st = As.reverse ++ .ref (bk_r w q) :: rest) (hlen : As.length = np) (hcat : (rest.map fun v => v.category).sum ≤ 8) (hR : fr2 + 1 ≤ fr ∧ 8 + (mL + 11) + lo2 ≤ lo) (d : decode cc pc = .ok (.invokevirtual i, 3)) (hM : Z → bk_Mv Y w y cc2 mL fr2 lo2 (.ref (bk_r w q) :: As) σ post) (k : ∀ σ1, post σ1 → bk_At Y w X (pc + 3) lv rest σ1) : Z → bk_At Y w X pc lv st σ := by
  obtain ⟨⟨p, l, e, R, s, m, args, below, meth, c⟩, nL, cells, slots, Q, A⟩ := X
  obtain ⟨hx, hb, hml, hown, hts, hK, hN, hD, hA, rfl, hfr, hlo, hce, hsl⟩ := hX
  subst hst
  have hcell : (bk_wl Y w σ)[bk_ps Y q]? = some (bk_r w q, bk_cell Y w σ q) := bk_wl_get Y w σ ho.2
  rw [bk_cell, ho.1] at hcell
  intro z H locs ls hP hS hl
  have hM := hM z l H.size
  have hfree := bk_freeA (σ := σ) hD hA hS
  have hrecv := va_recv hK hP hci hcell
  rw [hcn] at hrecv
  exact va_callv (va_runV (As := As) (rest := rest) ⟨hx, hb, hml, hown, hts⟩ hM ⟨callB_of np hts (bk_goodIn hy) rfl rfl rfl (hts _ hy.2.1) (hts _ hlk) ⟨hy.2.2.1, hy.2.2.2.1, hy.2.2.2.2⟩ ⟨Nat.le_trans hR.1 hfr, Nat.le_trans hR.2 hlo⟩, hts _ hv.1, hts _ hv.2⟩ ⟨bk_blind Y w _ σ H.size, hrecv, fun U hU hW => ⟨rfl, by rw [hU], by rw [hU]; exact hP, va_K.moved hW.alike hK, hN.warm hW, hD.1, fun _ _ => trivial⟩⟩ rfl hlen hl.1 rfl (lv_room hcat) d ⟨hce, hsl⟩) hS (fun q _ h => hfree q h) hfree (fun u t H1 locs1 ht hvm hw hB hz1 hk1 hS1 => k u hw H1 locs1 ls (by rw [← ht]; exact hB.1) hS1 hl)
theorem bk_callS_v (hX : bk_Ok Y w X cc own n fr lo) {post : bk_S → Prop} {i np mL fr2 lo2 : Nat} {y : MethodName} {cc2 : ByteArray} (As rest : List Value) (hy : bk_yk y cc2 mL none np) (hv : Cond.static y ∈ lw_good) (hlk : Cond.methodLink own i y ∈ lw_good) (hst : st = As.reverse ++ rest) (hlen : As.length = np) (hcat : (rest.map fun v => v.category).sum ≤ 8) (hR : fr2 + 1 ≤ fr ∧ 8 + (mL + 11) + lo2 ≤ lo) (d : decode cc pc = .ok (.invokestatic i, 3)) (hM : Z → bk_Mv Y w y cc2 mL fr2 lo2 As σ post) (k : ∀ σ1, post σ1 → bk_At Y w X (pc + 3) lv rest σ1) : Z → bk_At Y w X pc lv st σ := by
  obtain ⟨⟨p, l, e, R, s, m, args, below, meth, c⟩, nL, cells, slots, Q, A⟩ := X
  obtain ⟨hx, hb, hml, hown, hts, hK, hN, hD, hA, rfl, hfr, hlo, hce, hsl⟩ := hX
  subst hst
  intro z H locs ls hP hS hl
  have hM := hM z l H.size
  have hfree := bk_freeA (σ := σ) hD hA hS
  exact va_callv (va_runS (As := As) (rest := rest) ⟨hx, hb, hml, hown, hts⟩ hM ⟨callB_of np hts (bk_goodIn hy) rfl rfl rfl (hts _ hy.2.1) (hts _ hlk) ⟨hy.2.2.1, hy.2.2.2.1, hy.2.2.2.2⟩ ⟨Nat.le_trans hR.1 hfr, Nat.le_trans hR.2 hlo⟩, hts _ hv⟩ ⟨bk_blind Y w _ σ H.size, fun U hU hW => ⟨rfl, by rw [hU], by rw [hU]; exact hP, va_K.moved hW.alike hK, hN.warm hW, hD.1, fun _ _ => trivial⟩⟩ rfl hlen hl.1 rfl (lv_room hcat) d ⟨hce, hsl⟩) hS (fun q _ h => hfree q h) hfree (fun u t H1 locs1 ht hvm hw hB hz1 hk1 hS1 => k u hw H1 locs1 ls (by rw [← ht]; exact hB.1) hS1 hl)
theorem bk_callV_r (hX : bk_Ok Y w X cc own n fr lo) {post : Nat → bk_S → Prop} {rt : FieldType} {q i ci np mL fr2 lo2 : Nat} {y : MethodName} {cc2 : ByteArray} {fs : List (Option Nat)} {r0 : vw_C} (As rest : List Value) (hy : bk_yk y cc2 mL (some rt) np) (hv : bk_yv y) (hlk : Cond.methodLink own i y ∈ lw_good) (hci : vwCl[ci]? = some r0) (hcn : r0.1 = y.cls) (ho : bk_is Y q (.inr (.inl (ci, fs)))) (hst : st = As.reverse ++ .ref (bk_r w q) :: rest) (hlen : As.length = np) (hcat : (rest.map fun v => v.category).sum ≤ 8) (hR : fr2 + 1 ≤ fr ∧ 8 + (mL + 11) + lo2 ≤ lo) (d : decode cc pc = .ok (.invokevirtual i, 3)) (hM : Z → bk_Mr Y w y cc2 mL rt fr2 lo2 (.ref (bk_r w q) :: As) σ post) (k : ∀ r σ1, post r σ1 → bk_At Y w X (pc + 3) lv (.ref (bk_r w r) :: rest) σ1) : Z → bk_At Y w X pc lv st σ := by
  obtain ⟨⟨p, l, e, R, s, m, args, below, meth, c⟩, nL, cells, slots, Q, A⟩ := X
  obtain ⟨hx, hb, hml, hown, hts, hK, hN, hD, hA, rfl, hfr, hlo, hce, hsl⟩ := hX
  subst hst
  have hcell : (bk_wl Y w σ)[bk_ps Y q]? = some (bk_r w q, bk_cell Y w σ q) := bk_wl_get Y w σ ho.2
  rw [bk_cell, ho.1] at hcell
  intro z H locs ls hP hS hl
  have hM := hM z l H.size
  have hfree := bk_freeA (σ := σ) hD hA hS
  have hrecv := va_recv hK hP hci hcell
  rw [hcn] at hrecv
  exact va_callr (va_runV (As := As) (rest := rest) ⟨hx, hb, hml, hown, hts⟩ hM ⟨callB_of np hts (bk_goodIn hy) rfl rfl rfl (hts _ hy.2.1) (hts _ hlk) ⟨hy.2.2.1, hy.2.2.2.1, hy.2.2.2.2⟩ ⟨Nat.le_trans hR.1 hfr, Nat.le_trans hR.2 hlo⟩, hts _ hv.1, hts _ hv.2⟩ ⟨bk_blind Y w _ σ H.size, hrecv, fun U hU hW => ⟨rfl, by rw [hU], by rw [hU]; exact hP, va_K.moved hW.alike hK, hN.warm hW, hD.1, fun _ _ => trivial⟩⟩ rfl hlen hl.1 rfl (lv_room hcat) d ⟨hce, hsl⟩) hS (fun q _ h => hfree q h) hfree (fun u ra t H1 locs1 ht hvm hw hB hz1 hk1 hS1 => by obtain ⟨rfl, hB⟩ := hB; exact k u.1 u.2 hw H1 locs1 ls (by rw [← ht]; exact hB.1) hS1 hl)
end Calls2
theorem bk_mi {Y : bk_Y} {w : bk_W} {y : MethodName} {cc : ByteArray} {mL fr lo : Nat} {av : List Value} {σ : bk_S} {post : Int32 → bk_S → Prop} {ty : FieldType} (hy : plainName y.cls = true) (hlen : (lg_sl av).length ≤ mL) (body : ∀ X : bk_X, bk_Ok Y w X cc y.cls mL fr lo → (∀ pc lv v σ1, decode cc pc = .ok (.ireturn, 1) → narrow ty (.int v) = .int v → post v σ1 → bk_At Y w X pc lv [.int v] σ1) → bk_At Y w X 0 (lv_args 0 av) [] σ) : bk_Mi Y w y cc mL ty fr lo av σ post := by
  intro l sz
  refine Met.ofW (cc := cc) (maxL := mL) (ret := (some ty)) hy rfl ?_
  intro p e s m args below meth c s₁ B hml hv
  obtain ⟨rfl, hsz, hP, hK, hN, hD0⟩ := hv
  have hx := B.exec
  have hb := B.bytes
  have hr := B.returns
  have hts0 := atoms_spec (ws := bk_ws y cc mL (some ty)) B.pre
  have hts : ∀ w ∈ lw_good, w.before av.toArray s = true := fun w h => hts0 w (List.mem_cons_of_mem _ h)
  have hown : s.vm.findClass y.cls = some m.cls := findClass_of_methodNamed B.named
  have hlocks := B.notSynchronized
  subst hsz
  have hD : bk_D Y w (va_A (bk_wl Y w σ) s.heap.size) := bk_D.of (σ := σ) ((hD0.va σ).self)
  have hA : ∀ q : Nat, s.heap.size ≤ q → va_A (bk_wl Y w σ) s.heap.size q := fun q h => Or.inr h
  have hS : va_S (va_A (bk_wl Y w σ) s.heap.size) s.heap s.heap [] := va_S.rf
  have hl := lv_entry av (n := mL) hlen
  rw [lg_entry_eq]
  exact body ((p, l, e, { frames := fr, cells := 0, slots := 0, locals := lo }, s, m, av.toArray, below, meth, c), (mL, 0, 0, _, va_A (bk_wl Y w σ) s.heap.size)) ⟨hx, hb, hml, hown, hts, hK, hN, hD, hA, rfl, Nat.le_refl _, Nat.le_refl _, Nat.le_refl _, Nat.le_refl _⟩ (fun pc lv v σ1 d hn hp H locs ls hP hS hl => W.zret hx hb hr hn (fun t ht hW => ⟨⟨v, σ1, rfl, hp, by rw [ht]; exact hP, va_K.moved hW.alike hK⟩, hS.F ht⟩) hS.2.2 d) s.heap [] _ hP hS hl
theorem bk_ml {Y : bk_Y} {w : bk_W} {y : MethodName} {cc : ByteArray} {mL fr lo : Nat} {av : List Value} {σ : bk_S} {post : Int64 → bk_S → Prop} (hy : plainName y.cls = true) (hlen : (lg_sl av).length ≤ mL) (body : ∀ X : bk_X, bk_Ok Y w X cc y.cls mL fr lo → (∀ pc lv v σ1, decode cc pc = .ok (.lreturn, 1) → post v σ1 → bk_At Y w X pc lv [.long v] σ1) → bk_At Y w X 0 (lv_args 0 av) [] σ) : bk_Ml Y w y cc mL fr lo av σ post := by
  intro l sz
  refine Met.ofW (cc := cc) (maxL := mL) (ret := (some .long)) hy rfl ?_
  intro p e s m args below meth c s₁ B hml hv
  obtain ⟨rfl, hsz, hP, hK, hN, hD0⟩ := hv
  have hx := B.exec
  have hb := B.bytes
  have hr := B.returns
  have hts0 := atoms_spec (ws := bk_ws y cc mL (some .long)) B.pre
  have hts : ∀ w ∈ lw_good, w.before av.toArray s = true := fun w h => hts0 w (List.mem_cons_of_mem _ h)
  have hown : s.vm.findClass y.cls = some m.cls := findClass_of_methodNamed B.named
  have hlocks := B.notSynchronized
  subst hsz
  have hD : bk_D Y w (va_A (bk_wl Y w σ) s.heap.size) := bk_D.of (σ := σ) ((hD0.va σ).self)
  have hA : ∀ q : Nat, s.heap.size ≤ q → va_A (bk_wl Y w σ) s.heap.size q := fun q h => Or.inr h
  have hS : va_S (va_A (bk_wl Y w σ) s.heap.size) s.heap s.heap [] := va_S.rf
  have hl := lv_entry av (n := mL) hlen
  rw [lg_entry_eq]
  exact body ((p, l, e, { frames := fr, cells := 0, slots := 0, locals := lo }, s, m, av.toArray, below, meth, c), (mL, 0, 0, _, va_A (bk_wl Y w σ) s.heap.size)) ⟨hx, hb, hml, hown, hts, hK, hN, hD, hA, rfl, Nat.le_refl _, Nat.le_refl _, Nat.le_refl _, Nat.le_refl _⟩ (fun pc lv v σ1 d hp H locs ls hP hS hl => W.lret hx hb hr (fun t ht hW => ⟨⟨v, σ1, rfl, hp, by rw [ht]; exact hP, va_K.moved hW.alike hK⟩, hS.F ht⟩) hS.2.2 d) s.heap [] _ hP hS hl
theorem bk_mv {Y : bk_Y} {w : bk_W} {y : MethodName} {cc : ByteArray} {mL fr lo : Nat} {av : List Value} {σ : bk_S} {post : bk_S → Prop} (hy : plainName y.cls = true) (hlen : (lg_sl av).length ≤ mL) (body : ∀ X : bk_X, bk_Ok Y w X cc y.cls mL fr lo → (∀ pc lv σ1, decode cc pc = .ok (.return_, 1) → post σ1 → bk_At Y w X pc lv [] σ1) → bk_At Y w X 0 (lv_args 0 av) [] σ) : bk_Mv Y w y cc mL fr lo av σ post := by
  intro l sz
  refine Met.ofW (cc := cc) (maxL := mL) (ret := none) hy rfl ?_
  intro p e s m args below meth c s₁ B hml hv
  obtain ⟨rfl, hsz, hP, hK, hN, hD0⟩ := hv
  have hx := B.exec
  have hb := B.bytes
  have hr := B.returns
  have hts0 := atoms_spec (ws := bk_ws y cc mL none) B.pre
  have hts : ∀ w ∈ lw_good, w.before av.toArray s = true := fun w h => hts0 w (List.mem_cons_of_mem _ h)
  have hown : s.vm.findClass y.cls = some m.cls := findClass_of_methodNamed B.named
  have hlocks := B.notSynchronized
  subst hsz
  have hD : bk_D Y w (va_A (bk_wl Y w σ) s.heap.size) := bk_D.of (σ := σ) ((hD0.va σ).self)
  have hA : ∀ q : Nat, s.heap.size ≤ q → va_A (bk_wl Y w σ) s.heap.size q := fun q h => Or.inr h
  have hS : va_S (va_A (bk_wl Y w σ) s.heap.size) s.heap s.heap [] := va_S.rf
  have hl := lv_entry av (n := mL) hlen
  rw [lg_entry_eq]
  exact body ((p, l, e, { frames := fr, cells := 0, slots := 0, locals := lo }, s, m, av.toArray, below, meth, c), (mL, 0, 0, _, va_A (bk_wl Y w σ) s.heap.size)) ⟨hx, hb, hml, hown, hts, hK, hN, hD, hA, rfl, Nat.le_refl _, Nat.le_refl _, Nat.le_refl _, Nat.le_refl _⟩ (fun pc lv σ1 d hp H locs ls hP hS hl => W.vret hx hb hr (fun t ht hW => ⟨⟨σ1, rfl, hp, by rw [ht]; exact hP, va_K.moved hW.alike hK⟩, hS.F ht⟩) hS.2.2 d) s.heap [] _ hP hS hl
theorem bk_mr {Y : bk_Y} {w : bk_W} {y : MethodName} {cc : ByteArray} {mL fr lo : Nat} {av : List Value} {σ : bk_S} {post : Nat → bk_S → Prop} {rt : FieldType} (hy : plainName y.cls = true) (hlen : (lg_sl av).length ≤ mL) (body : ∀ X : bk_X, bk_Ok Y w X cc y.cls mL fr lo → (∀ pc lv v σ1, decode cc pc = .ok (.areturn, 1) → (∃ nm, rt = .object nm) → post v σ1 → bk_At Y w X pc lv [.ref (bk_r w v)] σ1) → bk_At Y w X 0 (lv_args 0 av) [] σ) : bk_Mr Y w y cc mL rt fr lo av σ post := by
  intro l sz
  refine Met.ofW (cc := cc) (maxL := mL) (ret := (some rt)) hy rfl ?_
  intro p e s m args below meth c s₁ B hml hv
  obtain ⟨rfl, hsz, hP, hK, hN, hD0⟩ := hv
  have hx := B.exec
  have hb := B.bytes
  have hr := B.returns
  have hts0 := atoms_spec (ws := bk_ws y cc mL (some rt)) B.pre
  have hts : ∀ w ∈ lw_good, w.before av.toArray s = true := fun w h => hts0 w (List.mem_cons_of_mem _ h)
  have hown : s.vm.findClass y.cls = some m.cls := findClass_of_methodNamed B.named
  have hlocks := B.notSynchronized
  subst hsz
  have hD : bk_D Y w (va_A (bk_wl Y w σ) s.heap.size) := bk_D.of (σ := σ) ((hD0.va σ).self)
  have hA : ∀ q : Nat, s.heap.size ≤ q → va_A (bk_wl Y w σ) s.heap.size q := fun q h => Or.inr h
  have hS : va_S (va_A (bk_wl Y w σ) s.heap.size) s.heap s.heap [] := va_S.rf
  have hl := lv_entry av (n := mL) hlen
  rw [lg_entry_eq]
  exact body ((p, l, e, { frames := fr, cells := 0, slots := 0, locals := lo }, s, m, av.toArray, below, meth, c), (mL, 0, 0, _, va_A (bk_wl Y w σ) s.heap.size)) ⟨hx, hb, hml, hown, hts, hK, hN, hD, hA, rfl, Nat.le_refl _, Nat.le_refl _, Nat.le_refl _, Nat.le_refl _⟩ (fun pc lv v σ1 d hrt hp H locs ls hP hS hl => W.aret hx hb hr (Or.inl hrt) (Or.inr ⟨_, rfl⟩) (fun t ht hW => ⟨⟨(v, σ1), bk_r w v, rfl, hp, rfl, by rw [ht]; exact hP, va_K.moved hW.alike hK⟩, hS.F ht⟩) hS.2.2 d) s.heap [] _ hP hS hl
