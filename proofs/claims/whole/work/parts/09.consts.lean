/-! Rows for values that two ways bring, pure calls, switches; small numbers. -/
theorem bk_pos {α : Type} {c : Prop} {i : Decidable c} {a b : α} {K : α → Prop} (h : c) (z : K (@ite α c i a b)) : K a := by rwa [if_pos h] at z
theorem bk_neg {α : Type} {c : Prop} {i : Decidable c} {a b : α} {K : α → Prop} (h : ¬ c) (z : K (@ite α c i a b)) : K b := by rwa [if_neg h] at z
theorem bk_r_if {α : Type} {v : α} {rest : α → Prop} {F : (α → Prop) → Prop} {G : Prop} (h : ∀ K : α → Prop, K v → F K) (J : α → Prop) (hr : ∀ a, rest a → J a) (hF : ∀ K : α → Prop, (∀ a, K a → J a) → F K → G) : bk_lt v rest → G := fun z => hF rest hr (h rest z)
theorem bk_pu {α : Type} {Z : α → Prop} {σ : bk_S} {G : α → bk_S → Prop} (k : ∀ r, Z r → G r σ) : ∀ r σ1, Z r ∧ σ1 = σ → G r σ1 := fun r σ1 z => by obtain ⟨z, rfl⟩ := z; exact k r z
theorem bk_pr {E Z : Nat → Prop} {σ : bk_S} {G : Nat → bk_S → Prop} (k : ∀ r, E r → Z r → G r σ) : ∀ r σ1, (E r ∧ Z r ∧ σ1 = σ) → G r σ1 := fun r σ1 z => by obtain ⟨e, z, rfl⟩ := z; exact k r e z
theorem bk_case {c A B G : Prop} (h1 : c → A → G) (h2 : ¬ c → B → G) : (c → A) ∧ (¬ c → B) → G := fun z => by
  by_cases h : c
  · exact h1 h (z.1 h)
  · exact h2 h (z.2 h)
def bk_nes (x : Int32) : List Int32 → Prop
  | [] => True
  | c :: l => (¬ x = c) ∧ bk_nes x l
theorem bk_nes_mem {x : Int32} : ∀ {l : List Int32}, bk_nes x l → x ∉ l
  | [], _, h => by simp at h
  | c :: l, h, hm => by
    rcases List.mem_cons.mp hm with e | e
    · exact h.1 e
    · exact bk_nes_mem h.2 e
section Switch
variable {Y : bk_Y} {w : bk_W} {X : bk_X} {cc : ByteArray} {own : String} {n fr lo pc : Nat} {lv : List (Nat × Value)} {st : List Value} {σ : bk_S} {Z : Prop}
theorem bk_swI (hX : bk_Ok Y w X cc own n fr lo) {x : Int32} (tgt : Nat) (v : Int32) (he : x = v) {dflt lo0 hi0 : Int} {offs : Array Int} {len : Nat} (d : decode cc pc = .ok (.tableswitch dflt lo0 hi0 offs, len)) (hc : ¬ v.toInt < lo0 ∧ ¬ hi0 < v.toInt ∧ (offs[(v.toInt - lo0).toNat]?).map (fun o => (pc : Int) + o) = some (tgt : Int)) (k : Z → bk_At Y w X tgt lv st σ) : Z → bk_At Y w X pc lv (.int x :: st) σ := by
  obtain ⟨⟨p, l, e, R, s, m, args, below, meth, c⟩, nL, cells, slots, Q, A⟩ := X
  obtain ⟨hx, hb, -⟩ := hX
  subst he
  obtain ⟨h1, h2, h3⟩ := hc
  obtain ⟨off, h4, h5⟩ := Option.map_eq_some_iff.mp h3
  exact fun z H locs ls hP hS hl => lv_tableIn hx hb d h1 h2 h4 h5 (k z H locs ls hP hS hl)
theorem bk_swD (hX : bk_Ok Y w X cc own n fr lo) {x : Int32} (tgt : Nat) {dflt lo0 hi0 : Int} {offs : Array Int} {len : Nat} (d : decode cc pc = .ok (.tableswitch dflt lo0 hi0 offs, len)) (cs : List Int32) (hn : bk_nes x cs) (hc : (List.range (hi0 - lo0 + 1).toNat).all (fun j => cs.any (fun c => c.toInt == lo0 + (j : Int))) = true ∧ (pc : Int) + dflt = (tgt : Int)) (k : Z → bk_At Y w X tgt lv st σ) : Z → bk_At Y w X pc lv (.int x :: st) σ := by
  obtain ⟨⟨p, l, e, R, s, m, args, below, meth, c⟩, nL, cells, slots, Q, A⟩ := X
  obtain ⟨hx, hb, -⟩ := hX
  obtain ⟨h1, h2⟩ := hc
  have h3 : x.toInt < lo0 ∨ hi0 < x.toInt := by
    rcases Int.lt_or_le x.toInt lo0 with a | a
    · exact Or.inl a
    · rcases Int.lt_or_le hi0 x.toInt with b | b
      · exact Or.inr b
      · exfalso
        have h4 := List.all_eq_true.mp h1 (x.toInt - lo0).toNat (List.mem_range.mpr (by omega))
        obtain ⟨c, hc1, hc2⟩ := List.any_eq_true.mp h4
        have hc3 : c.toInt = x.toInt := by
          have : c.toInt = lo0 + ((x.toInt - lo0).toNat : Int) := by simpa using hc2
          omega
        exact bk_nes_mem hn (by rw [← Int32.toInt_inj.mp hc3]; exact hc1)
  exact fun z H locs ls hP hS hl => lv_tableOut hx hb d h3 h2 (k z H locs ls hP hS hl)
theorem bk_lkI (hX : bk_Ok Y w X cc own n fr lo) {x : Int32} (tgt : Nat) (v : Int32) (he : x = v) {dflt : Int} {ps : Array (Int × Int)} {len : Nat} (d : decode cc pc = .ok (.lookupswitch dflt ps, len)) (hc : (ps.toList.zip (ps.toList.drop 1)).all (fun (a, next) => a.1 < next.1) = true ∧ (pc : Int) + Op.lookupswitch.offset ps.toList dflt v.toInt = (tgt : Int)) (k : Z → bk_At Y w X tgt lv st σ) : Z → bk_At Y w X pc lv (.int x :: st) σ := by
  obtain ⟨⟨p, l, e, R, s, m, args, below, meth, c⟩, nL, cells, slots, Q, A⟩ := X
  obtain ⟨hx, hb, -⟩ := hX
  subst he
  exact fun z H locs ls hP hS hl => lv_lookup hx hb d hc.1 rfl hc.2 (k z H locs ls hP hS hl)
theorem bk_lk_off (dflt : Int) (x : Int) : ∀ (ps : List (Int × Int)), (∀ q ∈ ps, q.1 ≠ x) → Op.lookupswitch.offset ps dflt x = dflt
  | [], _ => rfl
  | (a, o) :: ps, h => by
    rw [Op.lookupswitch.offset_cons, if_neg (h (a, o) List.mem_cons_self)]
    exact bk_lk_off dflt x ps (fun q hq => h q (List.mem_cons_of_mem _ hq))
theorem bk_lkD (hX : bk_Ok Y w X cc own n fr lo) {x : Int32} (tgt : Nat) {dflt : Int} {ps : Array (Int × Int)} {len : Nat} (d : decode cc pc = .ok (.lookupswitch dflt ps, len)) (cs : List Int32) (hn : bk_nes x cs) (hc : (ps.toList.zip (ps.toList.drop 1)).all (fun (a, next) => a.1 < next.1) = true) (hc2 : ps.toList.all (fun q => cs.any (fun c => c.toInt == q.1)) = true ∧ (pc : Int) + dflt = (tgt : Int)) (k : Z → bk_At Y w X tgt lv st σ) : Z → bk_At Y w X pc lv (.int x :: st) σ := by
  obtain ⟨⟨p, l, e, R, s, m, args, below, meth, c⟩, nL, cells, slots, Q, A⟩ := X
  obtain ⟨hx, hb, -⟩ := hX
  have h3 : Op.lookupswitch.offset ps.toList dflt x.toInt = dflt := by
    refine bk_lk_off dflt _ _ (fun q hq e => ?_)
    have h4 := List.all_eq_true.mp hc2.1 q hq
    obtain ⟨c, hc1, hc3⟩ := List.any_eq_true.mp h4
    have hc3 : c.toInt = x.toInt := by
      have : c.toInt = q.1 := by simpa using hc3
      omega
    exact bk_nes_mem hn (by rw [← Int32.toInt_inj.mp hc3]; exact hc1)
  exact fun z H locs ls hP hS hl => lv_lookup hx hb d hc h3 hc2.2 (k z H locs ls hP hS hl)
end Switch
theorem bk_cb_m10 : (Int8.ofInt (-10)).toInt32 = (-10) := by decide
theorem bk_cb_m4 : (Int8.ofInt (-4)).toInt32 = (-4) := by decide
theorem bk_cb_m3 : (Int8.ofInt (-3)).toInt32 = (-3) := by decide
theorem bk_cb_m2 : (Int8.ofInt (-2)).toInt32 = (-2) := by decide
theorem bk_cb_6 : (Int8.ofInt (6)).toInt32 = (6) := by decide
theorem bk_cb_7 : (Int8.ofInt (7)).toInt32 = (7) := by decide
theorem bk_cb_8 : (Int8.ofInt (8)).toInt32 = (8) := by decide
theorem bk_cb_9 : (Int8.ofInt (9)).toInt32 = (9) := by decide
theorem bk_cb_10 : (Int8.ofInt (10)).toInt32 = (10) := by decide
theorem bk_cb_11 : (Int8.ofInt (11)).toInt32 = (11) := by decide
theorem bk_cb_12 : (Int8.ofInt (12)).toInt32 = (12) := by decide
theorem bk_cb_16 : (Int8.ofInt (16)).toInt32 = (16) := by decide
theorem bk_cb_31 : (Int8.ofInt (31)).toInt32 = (31) := by decide
theorem bk_cb_32 : (Int8.ofInt (32)).toInt32 = (32) := by decide
theorem bk_cb_36 : (Int8.ofInt (36)).toInt32 = (36) := by decide
theorem bk_cb_48 : (Int8.ofInt (48)).toInt32 = (48) := by decide
theorem bk_cb_49 : (Int8.ofInt (49)).toInt32 = (49) := by decide
theorem bk_cb_57 : (Int8.ofInt (57)).toInt32 = (57) := by decide
theorem bk_cb_59 : (Int8.ofInt (59)).toInt32 = (59) := by decide
theorem bk_cb_60 : (Int8.ofInt (60)).toInt32 = (60) := by decide
theorem bk_cb_88 : (Int8.ofInt (88)).toInt32 = (88) := by decide
theorem bk_cb_103 : (Int8.ofInt (103)).toInt32 = (103) := by decide
theorem bk_cb_104 : (Int8.ofInt (104)).toInt32 = (104) := by decide
theorem bk_cb_109 : (Int8.ofInt (109)).toInt32 = (109) := by decide
theorem bk_cb_113 : (Int8.ofInt (113)).toInt32 = (113) := by decide
theorem bk_cb_115 : (Int8.ofInt (115)).toInt32 = (115) := by decide
theorem bk_cb_119 : (Int8.ofInt (119)).toInt32 = (119) := by decide
theorem bk_ci_m1 : Int32.ofInt (-1) = (-1) := by decide
theorem bk_ci_0 : Int32.ofInt (0) = (0) := by decide
theorem bk_ci_1 : Int32.ofInt (1) = (1) := by decide
theorem bk_ci_2 : Int32.ofInt (2) = (2) := by decide
theorem bk_ci_3 : Int32.ofInt (3) = (3) := by decide
theorem bk_ci_4 : Int32.ofInt (4) = (4) := by decide
theorem bk_ci_5 : Int32.ofInt (5) = (5) := by decide
theorem bk_cl_0 : Int64.ofNat (((0) : Fin 2) : Nat) = (0) := by decide
theorem bk_cl_1 : Int64.ofNat (((1) : Fin 2) : Nat) = (1) := by decide
theorem bk_cs_132 : (Int16.ofInt (132)).toInt32 = (132) := by decide
theorem bk_cs_255 : (Int16.ofInt (255)).toInt32 = (255) := by decide
theorem bk_cs_12345 : (Int16.ofInt (12345)).toInt32 = (12345) := by decide
