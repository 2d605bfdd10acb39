section CallsL
variable {Y Y' : bk_Y} {w : bk_W} {X : bk_X} {cc : ByteArray} {own : String} {n fr lo pc : Nat} {lv : List (Nat × Value)} {st : List Value} {σ τ : bk_S} {Z : Prop}
theorem bl_call1_l (hX : bk_Ok (bl_Y Y Y') w X cc own n fr lo) {post : Int64 → bk_S → Prop} {q i ci np mL fr2 lo2 : Nat} {y : MethodName} {cc2 : ByteArray} {fs : List (Option Nat)} {r0 : vw_C} (As rest : List Value) (hy : bk_yk y cc2 mL (some .long) np) (hv : bk_yv y) (hlk : Cond.methodLink own i y ∈ lw_good) (hci : vwCl[ci]? = some r0) (hcn : r0.1 = y.cls) (ho : bk_is Y q (.inr (.inl (ci, fs)))) (hst : st = As.reverse ++ .ref (bk_r w q) :: rest) (hlen : As.length = np) (hcat : (rest.map fun v => v.category).sum ≤ 8) (hR : fr2 + 1 ≤ fr ∧ 8 + (mL + 11) + lo2 ≤ lo) (d : decode cc pc = .ok (.invokevirtual i, 3)) (hM : Z → bk_Ml Y w y cc2 mL fr2 lo2 (.ref (bk_r w q) :: As) σ post) (k : ∀ r σ1, post r σ1 → bk_At (bl_Y Y Y') w X (pc + 3) lv (.long r :: rest) (bl_s Y.2 σ1 τ)) : Z → bk_At (bl_Y Y Y') w X pc lv st (bl_s Y.2 σ τ) := by
  obtain ⟨⟨p, l, e, R, s, m, args, below, meth, c⟩, nL, cells, slots, Q, A⟩ := X
  obtain ⟨hx, hb, hml, hown, hts, hK, hN, hD, hA, rfl, hfr, hlo, hce, hsl⟩ := hX
  subst hst
  have hcell : (bk_wl Y w σ)[bk_ps Y q]? = some (bk_r w q, bk_cell Y w σ q) := bk_wl_get Y w σ ho.2
  rw [bk_cell, ho.1] at hcell
  intro z H locs ls hP hS hl
  rw [bl_wl] at hP
  have hP1 := bl_P1 hP
  have hP2 := bl_P2 hP
  have hD1 := bl_D1 hD
  have hM := hM z l H.size
  have hfree := bk_freeA (σ := σ) hD1 hA hS
  have hrecv := va_recv hK hP1 hci hcell
  rw [hcn] at hrecv
  exact va_calll (va_runV (As := As) (rest := rest) ⟨hx, hb, hml, hown, hts⟩ hM ⟨callB_of np hts (bk_goodIn hy) rfl rfl rfl (hts _ hy.2.1) (hts _ hlk) ⟨hy.2.2.1, hy.2.2.2.1, hy.2.2.2.2⟩ ⟨Nat.le_trans hR.1 hfr, Nat.le_trans hR.2 hlo⟩, hts _ hv.1, hts _ hv.2⟩ ⟨bk_blind Y w _ σ H.size, hrecv, fun U hU hW => ⟨rfl, by rw [hU], by rw [hU]; exact hP1, va_K.moved hW.alike hK, hN.warm hW, hD1.1, fun _ _ => trivial⟩⟩ rfl hlen hl.1 rfl (lv_room hcat) d ⟨hce, hsl⟩) hS (fun q _ h => hfree q h) hfree (fun r u t H1 locs1 ht hvm hw hB hz1 hk1 hS1 => k r u hw H1 locs1 ls (by rw [bl_wl]; exact va_P.app (by rw [← ht]; exact hB.1) (bl_keep (fun i j hi hj => bl_apart hD hi hj) hP2 hk1)) hS1 hl)
theorem bl_call2_i (hX : bk_Ok (bl_Y Y Y') w X cc own n fr lo) {post : Int32 → bk_S → Prop} {ty : FieldType} {q i ci np mL fr2 lo2 : Nat} {y : MethodName} {cc2 : ByteArray} {fs : List (Option Nat)} {r0 : vw_C} (As rest : List Value) (hy : bk_yk y cc2 mL (some ty) np) (hv : bk_yv y) (hlk : Cond.methodLink own i y ∈ lw_good) (hci : vwCl[ci]? = some r0) (hcn : r0.1 = y.cls) (ho : bk_is Y' q (.inr (.inl (ci, fs)))) (hst : st = As.reverse ++ .ref (bk_r (bl_w Y.2 w) q) :: rest) (hlen : As.length = np) (hcat : (rest.map fun v => v.category).sum ≤ 8) (hR : fr2 + 1 ≤ fr ∧ 8 + (mL + 11) + lo2 ≤ lo) (d : decode cc pc = .ok (.invokevirtual i, 3)) (hM : Z → bk_Mi Y' (bl_w Y.2 w) y cc2 mL ty fr2 lo2 (.ref (bk_r (bl_w Y.2 w) q) :: As) τ post) (k : ∀ r τ1, post r τ1 → bk_At (bl_Y Y Y') w X (pc + 3) lv (.int r :: rest) (bl_s Y.2 σ τ1)) : Z → bk_At (bl_Y Y Y') w X pc lv st (bl_s Y.2 σ τ) := by
  obtain ⟨⟨p, l, e, R, s, m, args, below, meth, c⟩, nL, cells, slots, Q, A⟩ := X
  obtain ⟨hx, hb, hml, hown, hts, hK, hN, hD, hA, rfl, hfr, hlo, hce, hsl⟩ := hX
  subst hst
  have hcell : (bk_wl Y' (bl_w Y.2 w) τ)[bk_ps Y' q]? = some (bk_r (bl_w Y.2 w) q, bk_cell Y' (bl_w Y.2 w) τ q) := bk_wl_get Y' (bl_w Y.2 w) τ ho.2
  rw [bk_cell, ho.1] at hcell
  intro z H locs ls hP hS hl
  rw [bl_wl] at hP
  have hP1 := bl_P1 hP
  have hP2 := bl_P2 hP
  have hD1 := bl_D2 hD
  have hK : va_K (bl_w Y.2 w).1 vwCl (bk_tys (bl_w Y.2 w)) s := hK
  have hM := hM z l H.size
  have hfree := bk_freeA (σ := τ) hD1 hA hS
  have hrecv := va_recv hK hP2 hci hcell
  rw [hcn] at hrecv
  exact va_calli (va_runV (As := As) (rest := rest) ⟨hx, hb, hml, hown, hts⟩ hM ⟨callB_of np hts (bk_goodIn hy) rfl rfl rfl (hts _ hy.2.1) (hts _ hlk) ⟨hy.2.2.1, hy.2.2.2.1, hy.2.2.2.2⟩ ⟨Nat.le_trans hR.1 hfr, Nat.le_trans hR.2 hlo⟩, hts _ hv.1, hts _ hv.2⟩ ⟨bk_blind Y' (bl_w Y.2 w) _ τ H.size, hrecv, fun U hU hW => ⟨rfl, by rw [hU], by rw [hU]; exact hP2, va_K.moved hW.alike hK, hN.warm hW, hD1.1, fun _ _ => trivial⟩⟩ rfl hlen hl.1 rfl (lv_room hcat) d ⟨hce, hsl⟩) hS (fun q _ h => hfree q h) hfree (fun r u t H1 locs1 ht hvm hw hB hz1 hk1 hS1 => k r u hw H1 locs1 ls (by rw [bl_wl]; exact va_P.app (bl_keep (Y := Y') (Y' := Y) (w := bl_w Y.2 w) (w' := w) (fun i j hi hj => (bl_apart hD hj hi).symm) hP1 hk1) (by rw [← ht]; exact hB.1)) hS1 hl)
theorem bl_call2_l (hX : bk_Ok (bl_Y Y Y') w X cc own n fr lo) {post : Int64 → bk_S → Prop} {q i ci np mL fr2 lo2 : Nat} {y : MethodName} {cc2 : ByteArray} {fs : List (Option Nat)} {r0 : vw_C} (As rest : List Value) (hy : bk_yk y cc2 mL (some .long) np) (hv : bk_yv y) (hlk : Cond.methodLink own i y ∈ lw_good) (hci : vwCl[ci]? = some r0) (hcn : r0.1 = y.cls) (ho : bk_is Y' q (.inr (.inl (ci, fs)))) (hst : st = As.reverse ++ .ref (bk_r (bl_w Y.2 w) q) :: rest) (hlen : As.length = np) (hcat : (rest.map fun v => v.category).sum ≤ 8) (hR : fr2 + 1 ≤ fr ∧ 8 + (mL + 11) + lo2 ≤ lo) (d : decode cc pc = .ok (.invokevirtual i, 3)) (hM : Z → bk_Ml Y' (bl_w Y.2 w) y cc2 mL fr2 lo2 (.ref (bk_r (bl_w Y.2 w) q) :: As) τ post) (k : ∀ r τ1, post r τ1 → bk_At (bl_Y Y Y') w X (pc + 3) lv (.long r :: rest) (bl_s Y.2 σ τ1)) : Z → bk_At (bl_Y Y Y') w X pc lv st (bl_s Y.2 σ τ) := by
  obtain ⟨⟨p, l, e, R, s, m, args, below, meth, c⟩, nL, cells, slots, Q, A⟩ := X
  obtain ⟨hx, hb, hml, hown, hts, hK, hN, hD, hA, rfl, hfr, hlo, hce, hsl⟩ := hX
  subst hst
  have hcell : (bk_wl Y' (bl_w Y.2 w) τ)[bk_ps Y' q]? = some (bk_r (bl_w Y.2 w) q, bk_cell Y' (bl_w Y.2 w) τ q) := bk_wl_get Y' (bl_w Y.2 w) τ ho.2
  rw [bk_cell, ho.1] at hcell
  intro z H locs ls hP hS hl
  rw [bl_wl] at hP
  have hP1 := bl_P1 hP
  have hP2 := bl_P2 hP
  have hD1 := bl_D2 hD
  have hK : va_K (bl_w Y.2 w).1 vwCl (bk_tys (bl_w Y.2 w)) s := hK
  have hM := hM z l H.size
  have hfree := bk_freeA (σ := τ) hD1 hA hS
  have hrecv := va_recv hK hP2 hci hcell
  rw [hcn] at hrecv
  exact va_calll (va_runV (As := As) (rest := rest) ⟨hx, hb, hml, hown, hts⟩ hM ⟨callB_of np hts (bk_goodIn hy) rfl rfl rfl (hts _ hy.2.1) (hts _ hlk) ⟨hy.2.2.1, hy.2.2.2.1, hy.2.2.2.2⟩ ⟨Nat.le_trans hR.1 hfr, Nat.le_trans hR.2 hlo⟩, hts _ hv.1, hts _ hv.2⟩ ⟨bk_blind Y' (bl_w Y.2 w) _ τ H.size, hrecv, fun U hU hW => ⟨rfl, by rw [hU], by rw [hU]; exact hP2, va_K.moved hW.alike hK, hN.warm hW, hD1.1, fun _ _ => trivial⟩⟩ rfl hlen hl.1 rfl (lv_room hcat) d ⟨hce, hsl⟩) hS (fun q _ h => hfree q h) hfree (fun r u t H1 locs1 ht hvm hw hB hz1 hk1 hS1 => k r u hw H1 locs1 ls (by rw [bl_wl]; exact va_P.app (bl_keep (Y := Y') (Y' := Y) (w := bl_w Y.2 w) (w' := w) (fun i j hi hj => (bl_apart hD hj hi).symm) hP1 hk1) (by rw [← ht]; exact hB.1)) hS1 hl)
end CallsL
/-- the script, where the frame keeps it -/
def bl_Sc (X : bk_X) (b L : Nat) (xs : Nat → Int32) : Prop := match X with
  | ((_, _, _, _, s, _, _, _, _, _), (_, _, _, _, A)) => va_X b L xs s s.heap ∧ b < s.heap.size ∧ ¬ A b
section ScriptRows
variable {Y : bk_Y} {w : bk_W} {X : bk_X} {cc : ByteArray} {own : String} {n fr lo pc : Nat} {lv : List (Nat × Value)} {st : List Value} {σ : bk_S} {Z : Prop} {b L : Nat} {xs : Nat → Int32}
theorem bl_sld (hX : bk_Ok Y w X cc own n fr lo) (hs : bl_Sc X b L xs) {i : Int32} (hin : vp_in i L) (d : decode cc pc = .ok (.iaload, 1)) (k : Z → bk_At Y w X (pc + 1) lv (.int (xs i.toNatClampNeg) :: st) σ) : Z → bk_At Y w X pc lv (.int i :: .ref b :: st) σ := by
  obtain ⟨⟨p, l, e, R, s, m, args, below, meth, c⟩, nL, cells, slots, Q, A⟩ := X
  obtain ⟨hx, hb, -⟩ := hX
  obtain ⟨h1, h2, h3⟩ := hs
  exact fun z H locs ls hP hS hl => va_sld hx hb h1 h2 h3 hS hin d (k z H locs ls hP hS hl)
theorem bl_slen (hX : bk_Ok Y w X cc own n fr lo) (hs : bl_Sc X b L xs) (d : decode cc pc = .ok (.arraylength, 1)) (k : Z → bk_At Y w X (pc + 1) lv (.int (Int32.ofNat L) :: st) σ) : Z → bk_At Y w X pc lv (.ref b :: st) σ := by
  obtain ⟨⟨p, l, e, R, s, m, args, below, meth, c⟩, nL, cells, slots, Q, A⟩ := X
  obtain ⟨hx, hb, -⟩ := hX
  obtain ⟨h1, h2, h3⟩ := hs
  exact fun z H locs ls hP hS hl => va_slen hx hb h1 h2 h3 hS d (k z H locs ls hP hS hl)
theorem bl_tabIn (hX : bk_Ok Y w X cc own n fr lo) {dflt lo2 hi : Int} {offs : Array Int} {len : Nat} {x : Int32} {off : Int} (tgt : Nat) (d : decode cc pc = .ok (.tableswitch dflt lo2 hi offs, len)) (h1 : ¬ x.toInt < lo2) (h2 : ¬ hi < x.toInt) (ho : offs[(x.toInt - lo2).toNat]? = some off) (ht : (pc : Int) + off = (tgt : Int)) (k : Z → bk_At Y w X tgt lv st σ) : Z → bk_At Y w X pc lv (.int x :: st) σ := by
  obtain ⟨⟨p, l, e, R, s, m, args, below, meth, c⟩, nL, cells, slots, Q, A⟩ := X
  obtain ⟨hx, hb, -⟩ := hX
  exact fun z H locs ls hP hS hl => lv_tableIn hx hb d h1 h2 ho ht (k z H locs ls hP hS hl)
theorem bl_tabOut (hX : bk_Ok Y w X cc own n fr lo) {dflt lo2 hi : Int} {offs : Array Int} {len : Nat} {x : Int32} (tgt : Nat) (d : decode cc pc = .ok (.tableswitch dflt lo2 hi offs, len)) (h : x.toInt < lo2 ∨ hi < x.toInt) (ht : (pc : Int) + dflt = (tgt : Int)) (k : Z → bk_At Y w X tgt lv st σ) : Z → bk_At Y w X pc lv (.int x :: st) σ := by
  obtain ⟨⟨p, l, e, R, s, m, args, below, meth, c⟩, nL, cells, slots, Q, A⟩ := X
  obtain ⟨hx, hb, -⟩ := hX
  exact fun z H locs ls hP hS hl => lv_tableOut hx hb d h ht (k z H locs ls hP hS hl)
end ScriptRows
/-- the law's locals in its loop -/
def bl_lv (w : bk_W) (b : Nat) (x : Int32) : List (Nat × Value) := [(3, .int x), (2, .ref (bk_r (bl_w lyC.2 w) 0)), (1, .ref (bk_r w 0)), (0, .ref b)]
abbrev bl_K : bk_Y := bl_Y lyC lyM
/-- an argument out of the script -/
theorem bl_arg {w : bk_W} {X : bk_X} {cc : ByteArray} {own : String} {n fr lo pc : Nat} {st : List Value} {σ : bk_S} {Z : Prop} {b L : Nat} {xs : Nat → Int32} (hX : bk_Ok bl_K w X cc own n fr lo) (hs : bl_Sc X b L xs) {x v : Int32} {iv : Int} (hv : Int32.ofInt iv = v) (hin : vp_in (x + v) L) (d0 : decode cc pc = .ok (.aload_n 0, 1)) (d1 : decode cc (pc + 1) = .ok (.iload_n 3, 1)) (d2 : decode cc (pc + 2) = .ok (.iconst iv, 1)) (d3 : decode cc (pc + 3) = .ok (.iadd, 1)) (d4 : decode cc (pc + 4) = .ok (.iaload, 1)) (k : Z → bk_At bl_K w X (pc + 5) (bl_lv w b x) (.int (xs (x + v).toNatClampNeg) :: st) σ) : Z → bk_At bl_K w X pc (bl_lv w b x) st σ :=
  bk_aload_n hX 3 d0 rfl (bk_iload_n hX 0 d1 rfl (bk_iconst hX hv d2 (bk_iadd hX d3 (bl_sld hX hs hin d4 k))))
/-- what the class leaves for the reference, and what both leave -/
def bl_Q1 {α : Type} (w9 : (α → bk_S → Prop) → Prop) (r : α) (σ' : bk_S) : Prop := cI σ' ∧ ∀ Q, (∀ τ', rb σ' τ' → Q r τ') → w9 Q
theorem bl_Q1.of {α : Type} {w8 w9 : (α → bk_S → Prop) → Prop} (h : stp w8 w9) : w8 (bl_Q1 w9) := h _ (fun _ _ h1 h2 => ⟨h1, h2⟩)
def bl_Q2 {α : Type} (r : α) (σ' : bk_S) (r' : α) (τ' : bk_S) : Prop := r' = r ∧ RR σ' τ'
theorem bl_Q1.to {α : Type} {w9 : (α → bk_S → Prop) → Prop} {r : α} {σ' : bk_S} (h : bl_Q1 w9 r σ') : w9 (bl_Q2 r σ') := h.2 _ (fun _ h' => ⟨rfl, h.1, h'⟩)
theorem bl_cmp (r : Int64) : lg_cmp r r = 0 := by simp [lg_cmp]
section Ends
variable {w : bk_W} {X : bk_X} {n fr lo pc : Nat} {lv : List (Nat × Value)} {own : String} {cc : ByteArray} {L b : Nat}
/-- both answers alike: on to the loop's end -/
theorem bl_endi (hX : bk_Ok bl_K w X cc own n fr lo) {r r' : Int32} {σ' τ' : bk_S} {off : Int} {tgt : Nat} (d : decode cc pc = .ok (.if_icmp .eq off, 3)) (ht : (pc : Int) + off = (tgt : Int)) (k : ∀ σ' τ', RR σ' τ' → bk_At bl_K w X tgt lv [] (bl_s lyC.2 σ' τ')) : bl_Q2 r σ' r' τ' → bk_At bl_K w X pc lv [.int r', .int r] (bl_s lyC.2 σ' τ') := fun h => by
  obtain ⟨rfl, h⟩ := h
  exact bk_icmp_eq (Z1 := True) (Z2 := False) hX tgt d ht (fun _ => k _ _ h) (fun z => z.elim) ⟨fun _ => trivial, fun z => z rfl⟩
theorem bl_endl (hX : bk_Ok bl_K w X cc own n fr lo) {r r' : Int64} {σ' τ' : bk_S} {off : Int} {tgt : Nat} (d0 : decode cc pc = .ok (.lcmp, 1)) (d : decode cc (pc + 1) = .ok (.ifCond .eq off, 3)) (ht : ((pc + 1 : Nat) : Int) + off = (tgt : Int)) (k : ∀ σ' τ', RR σ' τ' → bk_At bl_K w X tgt lv [] (bl_s lyC.2 σ' τ')) : bl_Q2 r σ' r' τ' → bk_At bl_K w X pc lv [.long r', .long r] (bl_s lyC.2 σ' τ') := fun h => by
  obtain ⟨rfl, h⟩ := h
  exact bk_lcmp hX d0 (bk_if_eq (Z1 := True) (Z2 := False) hX tgt d ht (fun _ => k _ _ h) (fun z => z.elim)) ⟨fun _ => trivial, fun z => z (bl_cmp r')⟩
end Ends
