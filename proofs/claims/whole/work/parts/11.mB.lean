def w_X1_begin (b : Nat) (s1 : Nat) (σ : bk_S) (post : bk_S → Prop) : Prop :=
  (¬ (0 : Int32) < 0 ∧ ¬ (0 : Int32) < 0 ∧ ¬ (8 : Int32) < 0 ∧ Int32.toNatClampNeg (0 : Int32) + Int32.toNatClampNeg (8 : Int32) ≤ 8 ∧ Int32.toNatClampNeg (0 : Int32) + Int32.toNatClampNeg (8 : Int32) ≤ 8) ∧ bk_lt (α := bk_S) (bk_w σ (b + 1) (va_cpy (σ (s1 + 3)) (σ (b + 1)) (Int32.toNatClampNeg (0 : Int32)) (Int32.toNatClampNeg (0 : Int32)) (Int32.toNatClampNeg (8 : Int32)))) fun σ1 =>
  w_J_fill (b + 2) 8 (-1 : Int32) σ1 (fun σ2 =>
    w_J_fill (b + 3) 8 (-1 : Int32) σ2 (fun σ3 =>
      w_J_fill (b + 4) 8 (0 : Int32) σ3 (fun σ4 =>
        w_J_fill (b + 6) 96 (0 : Int32) σ4 (fun σ5 =>
          w_J_fill (b + 7) 144 (-1 : Int32) σ5 (fun σ6 =>
            w_J_fill (b + 8) 12 (0 : Int32) σ6 (fun σ7 =>
              w_J_fill (b + 9) 12 (0 : Int32) σ7 (fun σ8 =>
                w_J_fill (b + 10) 12 (0 : Int32) σ8 (fun σ9 =>
                  w_J_fill (b + 11) 12 (0 : Int32) σ9 (fun σ10 =>
                    bk_lt (α := bk_S) (bk_u σ10 b 11 (0 : Int32)) fun σ11 =>
                    post σ11)))))))))
set_option maxRecDepth 20000 in
theorem m_X1_begin (w : bk_W) {b : Nat} {s1 : Nat} (hb : bk_crs b) (hs1 : bk_set s1) {σ : bk_S} {post : bk_S → Prop} : w_X1_begin b s1 σ post → bk_Mv lyC w yX1_begin cX1_begin 2 1 40 [.ref (bk_r w b), .ref (bk_r w s1)] σ post := by
  intro h0
  refine bk_mv (by decide) (Nat.le_of_ble_eq_true rfl) (fun X hX hret => ?_)
  revert h0
  unfold w_X1_begin
  show _ → bk_At lyC w X 0 [(0, .ref (bk_r w b)), (1, .ref (bk_r w s1))] [] σ
  refine bk_aload_n hX 1 dX1_begin_0 rfl ?_
  refine bk_getr hX hs1.1 rfl fl_X1_75 dX1_begin_1 ?_
  refine bk_iconst hX bk_ci_0 dX1_begin_4 ?_
  refine bk_aload_n hX 0 dX1_begin_5 rfl ?_
  refine bk_getr hX hb.1 rfl fl_X1_9 dX1_begin_6 ?_
  refine bk_iconst hX bk_ci_0 dX1_begin_9 ?_
  refine bk_bipush hX bk_cb_8 dX1_begin_10 ?_
  refine bk_copy hX hs1.2.2.2.1 hb.2.1 lk_X1_69 wd_native wd_acstatic wd_system (Nat.le_of_ble_eq_true rfl) (Nat.le_of_ble_eq_true rfl) dX1_begin_12 (fun σ1 => ?_)
  refine bk_aload_n hX 0 dX1_begin_15 rfl ?_
  refine bk_getr hX hb.1 rfl fl_X1_15 dX1_begin_16 ?_
  refine bk_iconst hX bk_ci_m1 dX1_begin_19 ?_
  refine bk_callS_v hX [.ref (bk_r w (b + 2)), .int (-1 : Int32)] [] yk_J_fill ys_J_fill lk_X1_78 rfl rfl (Nat.le_of_ble_eq_true rfl) ⟨Nat.le_of_ble_eq_true rfl, Nat.le_of_ble_eq_true rfl⟩ dX1_begin_20 (m_J_fill w hb.2.2.1) (fun σ2 => ?_)
  refine bk_aload_n hX 0 dX1_begin_23 rfl ?_
  refine bk_getr hX hb.1 rfl fl_X1_18 dX1_begin_24 ?_
  refine bk_iconst hX bk_ci_m1 dX1_begin_27 ?_
  refine bk_callS_v hX [.ref (bk_r w (b + 3)), .int (-1 : Int32)] [] yk_J_fill ys_J_fill lk_X1_78 rfl rfl (Nat.le_of_ble_eq_true rfl) ⟨Nat.le_of_ble_eq_true rfl, Nat.le_of_ble_eq_true rfl⟩ dX1_begin_28 (m_J_fill w hb.2.2.2.1) (fun σ3 => ?_)
  refine bk_aload_n hX 0 dX1_begin_31 rfl ?_
  refine bk_getr hX hb.1 rfl fl_X1_21 dX1_begin_32 ?_
  refine bk_iconst hX bk_ci_0 dX1_begin_35 ?_
  refine bk_callS_v hX [.ref (bk_r w (b + 4)), .int (0 : Int32)] [] yk_J_fill ys_J_fill lk_X1_78 rfl rfl (Nat.le_of_ble_eq_true rfl) ⟨Nat.le_of_ble_eq_true rfl, Nat.le_of_ble_eq_true rfl⟩ dX1_begin_36 (m_J_fill w hb.2.2.2.2.1) (fun σ4 => ?_)
  refine bk_aload_n hX 0 dX1_begin_39 rfl ?_
  refine bk_getr hX hb.1 rfl fl_X1_27 dX1_begin_40 ?_
  refine bk_iconst hX bk_ci_0 dX1_begin_43 ?_
  refine bk_callS_v hX [.ref (bk_r w (b + 6)), .int (0 : Int32)] [] yk_J_fill ys_J_fill lk_X1_78 rfl rfl (Nat.le_of_ble_eq_true rfl) ⟨Nat.le_of_ble_eq_true rfl, Nat.le_of_ble_eq_true rfl⟩ dX1_begin_44 (m_J_fill w hb.2.2.2.2.2.2.1) (fun σ5 => ?_)
  refine bk_aload_n hX 0 dX1_begin_47 rfl ?_
  refine bk_getr hX hb.1 rfl fl_X1_30 dX1_begin_48 ?_
  refine bk_iconst hX bk_ci_m1 dX1_begin_51 ?_
  refine bk_callS_v hX [.ref (bk_r w (b + 7)), .int (-1 : Int32)] [] yk_J_fill ys_J_fill lk_X1_78 rfl rfl (Nat.le_of_ble_eq_true rfl) ⟨Nat.le_of_ble_eq_true rfl, Nat.le_of_ble_eq_true rfl⟩ dX1_begin_52 (m_J_fill w hb.2.2.2.2.2.2.2.1) (fun σ6 => ?_)
  refine bk_aload_n hX 0 dX1_begin_55 rfl ?_
  refine bk_getr hX hb.1 rfl fl_X1_33 dX1_begin_56 ?_
  refine bk_iconst hX bk_ci_0 dX1_begin_59 ?_
  refine bk_callS_v hX [.ref (bk_r w (b + 8)), .int (0 : Int32)] [] yk_J_fill ys_J_fill lk_X1_78 rfl rfl (Nat.le_of_ble_eq_true rfl) ⟨Nat.le_of_ble_eq_true rfl, Nat.le_of_ble_eq_true rfl⟩ dX1_begin_60 (m_J_fill w hb.2.2.2.2.2.2.2.2.1) (fun σ7 => ?_)
  refine bk_aload_n hX 0 dX1_begin_63 rfl ?_
  refine bk_getr hX hb.1 rfl fl_X1_36 dX1_begin_64 ?_
  refine bk_iconst hX bk_ci_0 dX1_begin_67 ?_
  refine bk_callS_v hX [.ref (bk_r w (b + 9)), .int (0 : Int32)] [] yk_J_fill ys_J_fill lk_X1_78 rfl rfl (Nat.le_of_ble_eq_true rfl) ⟨Nat.le_of_ble_eq_true rfl, Nat.le_of_ble_eq_true rfl⟩ dX1_begin_68 (m_J_fill w hb.2.2.2.2.2.2.2.2.2.1) (fun σ8 => ?_)
  refine bk_aload_n hX 0 dX1_begin_71 rfl ?_
  refine bk_getr hX hb.1 rfl fl_X1_39 dX1_begin_72 ?_
  refine bk_iconst hX bk_ci_0 dX1_begin_75 ?_
  refine bk_callS_v hX [.ref (bk_r w (b + 10)), .int (0 : Int32)] [] yk_J_fill ys_J_fill lk_X1_78 rfl rfl (Nat.le_of_ble_eq_true rfl) ⟨Nat.le_of_ble_eq_true rfl, Nat.le_of_ble_eq_true rfl⟩ dX1_begin_76 (m_J_fill w hb.2.2.2.2.2.2.2.2.2.2.1) (fun σ9 => ?_)
  refine bk_aload_n hX 0 dX1_begin_79 rfl ?_
  refine bk_getr hX hb.1 rfl fl_X1_42 dX1_begin_80 ?_
  refine bk_iconst hX bk_ci_0 dX1_begin_83 ?_
  refine bk_callS_v hX [.ref (bk_r w (b + 11)), .int (0 : Int32)] [] yk_J_fill ys_J_fill lk_X1_78 rfl rfl (Nat.le_of_ble_eq_true rfl) ⟨Nat.le_of_ble_eq_true rfl, Nat.le_of_ble_eq_true rfl⟩ dX1_begin_84 (m_J_fill w hb.2.2.2.2.2.2.2.2.2.2.2) (fun σ10 => ?_)
  refine bk_aload_n hX 0 dX1_begin_87 rfl ?_
  refine bk_iconst hX bk_ci_0 dX1_begin_88 ?_
  refine bk_putI hX hb.1 rfl fp_X1_45 dX1_begin_89 (fun σ11 => ?_)
  exact fun z => hret _ _ _ dX1_begin_92 z

def w_X1_heatUp (b : Nat) (x1 : Int32) (σ : bk_S) (post : bk_S → Prop) : Prop :=
  bk_lt (α := Int32) (0 : Int32) fun v1 =>
  bk_loop (α := Int32 × bk_S) (fun K2 a3 =>
    (x1 ≤ a3.1 → post a3.2) ∧ (¬ x1 ≤ a3.1 → (vp_in a3.1 8 ∧ (¬ (a3.2 (b + 2) (Int32.toNatClampNeg a3.1)) = (-1 : Int32) → (bk_lt (α := Int32) (a3.1 + (1 : Int32)) fun v4 =>
    K2 (v4, a3.2))) ∧ ((a3.2 (b + 2) (Int32.toNatClampNeg a3.1)) = (-1 : Int32) → (vp_in a3.1 8 ∧ ((9 : Int32) ≤ (a3.2 (b + 1) (Int32.toNatClampNeg a3.1)) → (bk_lt (α := Int32) (a3.1 + (1 : Int32)) fun v5 =>
    K2 (v5, a3.2))) ∧ (¬ (9 : Int32) ≤ (a3.2 (b + 1) (Int32.toNatClampNeg a3.1)) → (vp_in a3.1 8 ∧ vp_in a3.1 8 ∧ bk_lt (α := bk_S) (bk_u a3.2 (b + 1) (Int32.toNatClampNeg a3.1) ((a3.2 (b + 1) (Int32.toNatClampNeg a3.1)) + (1 : Int32))) fun σ6 =>
    bk_lt (α := Int32) (a3.1 + (1 : Int32)) fun v7 =>
    K2 (v7, σ6)))))))) (v1, σ)
set_option maxRecDepth 20000 in
theorem m_X1_heatUp (w : bk_W) {b : Nat} {x1 : Int32} (hb : bk_crs b) {σ : bk_S} {post : bk_S → Prop} : w_X1_heatUp b x1 σ post → bk_Mv lyC w yX1_heatUp cX1_heatUp 3 0 0 [.ref (bk_r w b), .int x1] σ post := by
  intro h0
  refine bk_mv (by decide) (Nat.le_of_ble_eq_true rfl) (fun X hX hret => ?_)
  revert h0
  unfold w_X1_heatUp
  show _ → bk_At lyC w X 0 [(0, .ref (bk_r w b)), (1, .int x1)] [] σ
  refine bk_iconst hX bk_ci_0 dX1_heatUp_0 ?_
  refine bk_istore_n hX (fun v1 => [(2, .int v1), (0, .ref (bk_r w b)), (1, .int x1)]) dX1_heatUp_1 (Nat.le_of_ble_eq_true rfl) (fun _ => rfl) (fun v1 => ?_)
  refine bk_pick [0, 1, 2] rfl (bk_r_loop (α := Int32 × bk_S) (J := fun a => bk_At lyC w X 2 [(2, .int a.1), (0, .ref (bk_r w b)), (1, .int x1)] [] a.2) (v1, σ) (fun K2 hK2 a3 => ?_))
  refine bk_iload_n hX 0 dX1_heatUp_2 rfl ?_
  refine bk_iload_n hX 2 dX1_heatUp_3 rfl ?_
  refine bk_icmp_ge hX 44 dX1_heatUp_4 rfl ?_ ?_
  · exact fun z => hret _ _ _ dX1_heatUp_44 z
  · refine bk_aload_n hX 1 dX1_heatUp_7 rfl ?_
    refine bk_getr hX hb.1 rfl fl_X1_15 dX1_heatUp_8 ?_
    refine bk_iload_n hX 0 dX1_heatUp_11 rfl ?_
    refine bk_iaload hX hb.2.2.1 dX1_heatUp_12 ?_
    refine bk_iconst hX bk_ci_m1 dX1_heatUp_13 ?_
    refine bk_icmp_ne hX 38 dX1_heatUp_14 rfl ?_ ?_
    · refine bk_iinc hX 0 (fun v4 => [(2, .int v4), (0, .ref (bk_r w b)), (1, .int x1)]) dX1_heatUp_38 rfl bk_ci_1 (Nat.le_of_ble_eq_true rfl) (fun _ => rfl) (fun v4 => ?_)
      refine bk_goto hX 2 dX1_heatUp_41 rfl ?_
      exact bk_pick [0, 1, 2] rfl (hK2 (v4, a3.2))
    · refine bk_aload_n hX 1 dX1_heatUp_17 rfl ?_
      refine bk_getr hX hb.1 rfl fl_X1_9 dX1_heatUp_18 ?_
      refine bk_iload_n hX 0 dX1_heatUp_21 rfl ?_
      refine bk_iaload hX hb.2.1 dX1_heatUp_22 ?_
      refine bk_bipush hX bk_cb_9 dX1_heatUp_23 ?_
      refine bk_icmp_ge hX 38 dX1_heatUp_25 rfl ?_ ?_
      · refine bk_iinc hX 0 (fun v5 => [(2, .int v5), (0, .ref (bk_r w b)), (1, .int x1)]) dX1_heatUp_38 rfl bk_ci_1 (Nat.le_of_ble_eq_true rfl) (fun _ => rfl) (fun v5 => ?_)
        refine bk_goto hX 2 dX1_heatUp_41 rfl ?_
        exact bk_pick [0, 1, 2] rfl (hK2 (v5, a3.2))
      · refine bk_aload_n hX 1 dX1_heatUp_28 rfl ?_
        refine bk_getr hX hb.1 rfl fl_X1_9 dX1_heatUp_29 ?_
        refine bk_iload_n hX 0 dX1_heatUp_32 rfl ?_
        refine bk_dup2 hX rfl rfl dX1_heatUp_33 ?_
        refine bk_iaload hX hb.2.1 dX1_heatUp_34 ?_
        refine bk_iconst hX bk_ci_1 dX1_heatUp_35 ?_
        refine bk_iadd hX dX1_heatUp_36 ?_
        refine bk_iastore hX hb.2.1 dX1_heatUp_37 (fun σ6 => ?_)
        refine bk_iinc hX 0 (fun v7 => [(2, .int v7), (0, .ref (bk_r w b)), (1, .int x1)]) dX1_heatUp_38 rfl bk_ci_1 (Nat.le_of_ble_eq_true rfl) (fun _ => rfl) (fun v7 => ?_)
        refine bk_goto hX 2 dX1_heatUp_41 rfl ?_
        exact bk_pick [0, 1, 2] rfl (hK2 (v7, σ6))

def w_X1_lastHookDone (s0 : Nat) (x1 : Int32) (σ : bk_S) (post : Int32 → Prop) : Prop :=
  bk_lt (α := Int32) (-1 : Int32) fun v1 =>
  bk_lt (α := Int32) (0 : Int32) fun v2 =>
  bk_loop (α := Int32 × Int32) (fun K3 a4 =>
    ((σ s0 0) ≤ a4.2 → post a4.1) ∧ (¬ (σ s0 0) ≤ a4.2 → (bk_jn (α := Int32) (fun a6 =>
      bk_lt (α := Int32) a6 fun v7 =>
      (v7 = 0 → (bk_lt (α := Int32) (a4.2 + (1 : Int32)) fun v8 =>
      K3 (a4.1, v8))) ∧ (¬ v7 = 0 → (bk_lt (α := Int32) a4.2 fun v9 =>
      bk_lt (α := Int32) (a4.2 + (1 : Int32)) fun v10 =>
      K3 (v9, v10)))) (fun K5 =>
      (x1 = 0 → (vp_in a4.2 12 ∧ ((σ (s0 + 1) (Int32.toNatClampNeg a4.2)) ≤ 0 → K5 (0 : Int32)) ∧ (¬ (σ (s0 + 1) (Int32.toNatClampNeg a4.2)) ≤ 0 → K5 (1 : Int32)))) ∧ (¬ x1 = 0 → ((¬ ((x1 >>> (a4.2 &&& 31)) &&& (1 : Int32)) = (1 : Int32) → K5 (0 : Int32)) ∧ (((x1 >>> (a4.2 &&& 31)) &&& (1 : Int32)) = (1 : Int32) → K5 (1 : Int32)))))))) (v1, v2)
set_option maxRecDepth 20000 in
theorem m_X1_lastHookDone (w : bk_W) {s0 : Nat} {x1 : Int32} (hs0 : bk_set s0) {σ : bk_S} {post : Int32 → Prop} : w_X1_lastHookDone s0 x1 σ post → bk_Mi lyC w yX1_lastHookDone cX1_lastHookDone 5 .int 0 0 [.ref (bk_r w s0), .int x1] σ (fun r σ1 => post r ∧ σ1 = σ) := by
  intro h0
  refine bk_mi (by decide) (Nat.le_of_ble_eq_true rfl) (fun X hX hret => ?_)
  revert h0
  unfold w_X1_lastHookDone
  show _ → bk_At lyC w X 0 [(0, .ref (bk_r w s0)), (1, .int x1)] [] σ
  refine bk_iconst hX bk_ci_m1 dX1_lastHookDone_0 ?_
  refine bk_istore_n hX (fun v1 => [(2, .int v1), (0, .ref (bk_r w s0)), (1, .int x1)]) dX1_lastHookDone_1 (Nat.le_of_ble_eq_true rfl) (fun _ => rfl) (fun v1 => ?_)
  refine bk_iconst hX bk_ci_0 dX1_lastHookDone_2 ?_
  refine bk_istore_n hX (fun v2 => [(3, .int v2), (2, .int v1), (0, .ref (bk_r w s0)), (1, .int x1)]) dX1_lastHookDone_3 (Nat.le_of_ble_eq_true rfl) (fun _ => rfl) (fun v2 => ?_)
  refine bk_pick [0, 1, 2, 3] rfl (bk_r_loop (α := Int32 × Int32) (J := fun a => bk_At lyC w X 4 [(3, .int a.2), (2, .int a.1), (0, .ref (bk_r w s0)), (1, .int x1)] [] σ) (v1, v2) (fun K3 hK3 a4 => ?_))
  refine bk_iload_n hX 0 dX1_lastHookDone_4 rfl ?_
  refine bk_aload_n hX 2 dX1_lastHookDone_5 rfl ?_
  refine bk_geti hX hs0.1 rfl fl_X1_87 dX1_lastHookDone_6 ?_
  refine bk_icmp_ge hX 62 dX1_lastHookDone_9 rfl ?_ ?_
  · refine bk_iload_n hX 1 dX1_lastHookDone_62 rfl ?_
    exact fun z => hret _ _ _ _ dX1_lastHookDone_63 rfl ⟨z, rfl⟩
  · refine bk_iload_n hX 3 dX1_lastHookDone_12 rfl ?_
    refine bk_r_jn (α := Int32) (J := fun a => bk_At lyC w X 47 [(3, .int a4.2), (2, .int a4.1), (0, .ref (bk_r w s0)), (1, .int x1)] [.int a] σ) (fun a6 => ?_) (fun K5 hK5 => ?_)
    · refine bk_istore hX (fun v7 => [(4, .int v7), (3, .int a4.2), (2, .int a4.1), (0, .ref (bk_r w s0)), (1, .int x1)]) dX1_lastHookDone_47 (Nat.le_of_ble_eq_true rfl) (fun _ => rfl) (fun v7 => ?_)
      refine bk_iload hX 0 dX1_lastHookDone_49 rfl ?_
      refine bk_if_eq hX 56 dX1_lastHookDone_51 rfl ?_ ?_
      · refine bk_iinc hX 1 (fun v8 => [(3, .int v8), (4, .int v7), (2, .int a4.1), (0, .ref (bk_r w s0)), (1, .int x1)]) dX1_lastHookDone_56 rfl bk_ci_1 (Nat.le_of_ble_eq_true rfl) (fun _ => rfl) (fun v8 => ?_)
        refine bk_goto hX 4 dX1_lastHookDone_59 rfl ?_
        exact bk_pick [0, 2, 3, 4] rfl (hK3 (a4.1, v8))
      · refine bk_iload_n hX 1 dX1_lastHookDone_54 rfl ?_
        refine bk_istore_n hX (fun v9 => [(2, .int v9), (4, .int v7), (3, .int a4.2), (0, .ref (bk_r w s0)), (1, .int x1)]) dX1_lastHookDone_55 (Nat.le_of_ble_eq_true rfl) (fun _ => rfl) (fun v9 => ?_)
        refine bk_iinc hX 2 (fun v10 => [(3, .int v10), (2, .int v9), (4, .int v7), (0, .ref (bk_r w s0)), (1, .int x1)]) dX1_lastHookDone_56 rfl bk_ci_1 (Nat.le_of_ble_eq_true rfl) (fun _ => rfl) (fun v10 => ?_)
        refine bk_goto hX 4 dX1_lastHookDone_59 rfl ?_
        exact bk_pick [0, 1, 3, 4] rfl (hK3 (v9, v10))
    · refine bk_if_eq hX 33 dX1_lastHookDone_13 rfl ?_ ?_
      · refine bk_aload_n hX 2 dX1_lastHookDone_33 rfl ?_
        refine bk_getr hX hs0.1 rfl fl_X1_94 dX1_lastHookDone_34 ?_
        refine bk_iload_n hX 0 dX1_lastHookDone_37 rfl ?_
        refine bk_iaload hX hs0.2.1 dX1_lastHookDone_38 ?_
        refine bk_if_le hX 46 dX1_lastHookDone_39 rfl ?_ ?_
        · refine bk_iconst hX bk_ci_0 dX1_lastHookDone_46 ?_
          exact bk_pick [0, 1, 2, 3] rfl (hK5 (0 : Int32))
        · refine bk_iconst hX bk_ci_1 dX1_lastHookDone_42 ?_
          refine bk_goto hX 47 dX1_lastHookDone_43 rfl ?_
          exact bk_pick [0, 1, 2, 3] rfl (hK5 (1 : Int32))
      · refine bk_iload_n hX 3 dX1_lastHookDone_16 rfl ?_
        refine bk_iload_n hX 0 dX1_lastHookDone_17 rfl ?_
        refine bk_ishr hX dX1_lastHookDone_18 ?_
        refine bk_iconst hX bk_ci_1 dX1_lastHookDone_19 ?_
        refine bk_iand hX dX1_lastHookDone_20 ?_
        refine bk_iconst hX bk_ci_1 dX1_lastHookDone_21 ?_
        refine bk_icmp_ne hX 29 dX1_lastHookDone_22 rfl ?_ ?_
        · refine bk_iconst hX bk_ci_0 dX1_lastHookDone_29 ?_
          refine bk_goto hX 47 dX1_lastHookDone_30 rfl ?_
          exact bk_pick [0, 1, 2, 3] rfl (hK5 (0 : Int32))
        · refine bk_iconst hX bk_ci_1 dX1_lastHookDone_25 ?_
          refine bk_goto hX 47 dX1_lastHookDone_26 rfl ?_
          exact bk_pick [0, 1, 2, 3] rfl (hK5 (1 : Int32))

def w_X1_whatIsSaid (b : Nat) (s1 : Nat) (x2 : Int32) (σ : bk_S) (post : Int32 → Prop) : Prop :=
  (¬ (σ b 11) = (σ s1 1) → (bk_lt (α := Int32) (-1 : Int32) fun v1 =>
  bk_lt (α := Int32) (0 : Int32) fun v2 =>
  bk_jn (α := Int32) (fun a4 =>
    (¬ a4 = (-1 : Int32) → post a4) ∧ (a4 = (-1 : Int32) → post (9 : Int32))) (fun K3 =>
    bk_jn (α := Int32) (fun a6 =>
      post a6) (fun K5 =>
      bk_loop (α := Int32 × Int32) (fun K7 a8 =>
        ((σ s1 1) ≤ a8.2 → K3 a8.1) ∧ (¬ (σ s1 1) ≤ a8.2 → (vp_in a8.2 8 ∧ ((σ (b + 2) (Int32.toNatClampNeg a8.2)) = (-1 : Int32) → (vp_in a8.2 8 ∧ (¬ (σ (s1 + 2) (Int32.toNatClampNeg a8.2)) = (2 : Int32) → (vp_in a8.2 8 ∧ (¬ (σ (s1 + 2) (Int32.toNatClampNeg a8.2)) = (1 : Int32) → (vp_in a8.2 8 ∧ ((σ (s1 + 4) (Int32.toNatClampNeg a8.2)) < x2 → (bk_lt (α := Int32) (a8.2 + (1 : Int32)) fun v9 =>
        K7 (a8.1, v9))) ∧ (¬ (σ (s1 + 4) (Int32.toNatClampNeg a8.2)) < x2 → post a8.2))) ∧ ((σ (s1 + 2) (Int32.toNatClampNeg a8.2)) = (1 : Int32) → (vp_in a8.2 8 ∧ (x2 < (σ (s1 + 4) (Int32.toNatClampNeg a8.2)) → (bk_lt (α := Int32) (a8.2 + (1 : Int32)) fun v10 =>
        K7 (a8.1, v10))) ∧ (¬ x2 < (σ (s1 + 4) (Int32.toNatClampNeg a8.2)) → K5 a8.2))))) ∧ ((σ (s1 + 2) (Int32.toNatClampNeg a8.2)) = (2 : Int32) → (bk_lt (α := Int32) (if a8.1 = (-1 : Int32) then a8.2 else a8.1) fun a12 =>
        bk_lt (α := Int32) a12 fun v13 =>
        bk_lt (α := Int32) (a8.2 + (1 : Int32)) fun v14 =>
        K7 (v13, v14))))) ∧ (¬ (σ (b + 2) (Int32.toNatClampNeg a8.2)) = (-1 : Int32) → (bk_lt (α := Int32) (a8.2 + (1 : Int32)) fun v15 =>
        K7 (a8.1, v15)))))) (v1, v2))))) ∧ ((σ b 11) = (σ s1 1) → post (8 : Int32))
set_option maxRecDepth 20000 in
theorem m_X1_whatIsSaid (w : bk_W) {b : Nat} {s1 : Nat} {x2 : Int32} (hb : bk_crs b) (hs1 : bk_set s1) {σ : bk_S} {post : Int32 → Prop} : w_X1_whatIsSaid b s1 x2 σ post → bk_Mi lyC w yX1_whatIsSaid cX1_whatIsSaid 5 .int 0 0 [.ref (bk_r w b), .ref (bk_r w s1), .int x2] σ (fun r σ1 => post r ∧ σ1 = σ) := by
  intro h0
  refine bk_mi (by decide) (Nat.le_of_ble_eq_true rfl) (fun X hX hret => ?_)
  revert h0
  unfold w_X1_whatIsSaid
  show _ → bk_At lyC w X 0 [(0, .ref (bk_r w b)), (1, .ref (bk_r w s1)), (2, .int x2)] [] σ
  refine bk_aload_n hX 0 dX1_whatIsSaid_0 rfl ?_
  refine bk_geti hX hb.1 rfl fl_X1_45 dX1_whatIsSaid_1 ?_
  refine bk_aload_n hX 1 dX1_whatIsSaid_4 rfl ?_
  refine bk_geti hX hs1.1 rfl fl_X1_53 dX1_whatIsSaid_5 ?_
  refine bk_icmp_ne hX 14 dX1_whatIsSaid_8 rfl ?_ ?_
  · refine bk_iconst hX bk_ci_m1 dX1_whatIsSaid_14 ?_
    refine bk_istore_n hX (fun v1 => [(3, .int v1), (0, .ref (bk_r w b)), (1, .ref (bk_r w s1)), (2, .int x2)]) dX1_whatIsSaid_15 (Nat.le_of_ble_eq_true rfl) (fun _ => rfl) (fun v1 => ?_)
    refine bk_iconst hX bk_ci_0 dX1_whatIsSaid_16 ?_
    refine bk_istore hX (fun v2 => [(4, .int v2), (3, .int v1), (0, .ref (bk_r w b)), (1, .ref (bk_r w s1)), (2, .int x2)]) dX1_whatIsSaid_17 (Nat.le_of_ble_eq_true rfl) (fun _ => rfl) (fun v2 => ?_)
    refine bk_r_jn (α := Int32) (J := fun a => bk_At lyC w X 113 [(3, .int a), (0, .ref (bk_r w b)), (1, .ref (bk_r w s1)), (2, .int x2)] [] σ) (fun a4 => ?_) (fun K3 hK3 => ?_)
    · refine bk_iload_n hX 0 dX1_whatIsSaid_113 rfl ?_
      refine bk_iconst hX bk_ci_m1 dX1_whatIsSaid_114 ?_
      refine bk_icmp_ne hX 123 dX1_whatIsSaid_115 rfl ?_ ?_
      · refine bk_iload_n hX 0 dX1_whatIsSaid_123 rfl ?_
        exact fun z => hret _ _ _ _ dX1_whatIsSaid_124 rfl ⟨z, rfl⟩
      · refine bk_bipush hX bk_cb_9 dX1_whatIsSaid_118 ?_
        refine bk_goto hX 124 dX1_whatIsSaid_120 rfl ?_
        exact fun z => hret _ _ _ _ dX1_whatIsSaid_124 rfl ⟨z, rfl⟩
    · refine bk_r_jn (α := Int32) (J := fun a => bk_At lyC w X 90 [(4, .int a), (0, .ref (bk_r w b)), (1, .ref (bk_r w s1)), (2, .int x2)] [] σ) (fun a6 => ?_) (fun K5 hK5 => ?_)
      · refine bk_goto hX 104 dX1_whatIsSaid_90 rfl ?_
        refine bk_iload hX 0 dX1_whatIsSaid_104 rfl ?_
        exact fun z => hret _ _ _ _ dX1_whatIsSaid_106 rfl ⟨z, rfl⟩
      · refine bk_pick [0, 1, 2, 3, 4] rfl (bk_r_loop (α := Int32 × Int32) (J := fun a => bk_At lyC w X 19 [(4, .int a.2), (3, .int a.1), (0, .ref (bk_r w b)), (1, .ref (bk_r w s1)), (2, .int x2)] [] σ) (v1, v2) (fun K7 hK7 a8 => ?_))
        refine bk_iload hX 0 dX1_whatIsSaid_19 rfl ?_
        refine bk_aload_n hX 3 dX1_whatIsSaid_21 rfl ?_
        refine bk_geti hX hs1.1 rfl fl_X1_53 dX1_whatIsSaid_22 ?_
        refine bk_icmp_ge hX 113 dX1_whatIsSaid_25 rfl ?_ ?_
        · exact bk_pick [1, 2, 3, 4] rfl (hK3 a8.1)
        · refine bk_aload_n hX 2 dX1_whatIsSaid_28 rfl ?_
          refine bk_getr hX hb.1 rfl fl_X1_15 dX1_whatIsSaid_29 ?_
          refine bk_iload hX 0 dX1_whatIsSaid_32 rfl ?_
          refine bk_iaload hX hb.2.2.1 dX1_whatIsSaid_34 ?_
          refine bk_iconst hX bk_ci_m1 dX1_whatIsSaid_35 ?_
          refine bk_icmp_eq hX 42 dX1_whatIsSaid_36 rfl ?_ ?_
          · refine bk_aload_n hX 3 dX1_whatIsSaid_42 rfl ?_
            refine bk_getr hX hs1.1 rfl fl_X1_104 dX1_whatIsSaid_43 ?_
            refine bk_iload hX 0 dX1_whatIsSaid_46 rfl ?_
            refine bk_iaload hX hs1.2.2.1 dX1_whatIsSaid_48 ?_
            refine bk_iconst hX bk_ci_2 dX1_whatIsSaid_49 ?_
            refine bk_icmp_ne hX 68 dX1_whatIsSaid_50 rfl ?_ ?_
            · refine bk_aload_n hX 3 dX1_whatIsSaid_68 rfl ?_
              refine bk_getr hX hs1.1 rfl fl_X1_104 dX1_whatIsSaid_69 ?_
              refine bk_iload hX 0 dX1_whatIsSaid_72 rfl ?_
              refine bk_iaload hX hs1.2.2.1 dX1_whatIsSaid_74 ?_
              refine bk_iconst hX bk_ci_1 dX1_whatIsSaid_75 ?_
              refine bk_icmp_ne hX 93 dX1_whatIsSaid_76 rfl ?_ ?_
              · refine bk_iload_n hX 4 dX1_whatIsSaid_93 rfl ?_
                refine bk_aload_n hX 3 dX1_whatIsSaid_94 rfl ?_
                refine bk_getr hX hs1.1 rfl fl_X1_111 dX1_whatIsSaid_95 ?_
                refine bk_iload hX 0 dX1_whatIsSaid_98 rfl ?_
                refine bk_iaload hX hs1.2.2.2.2.1 dX1_whatIsSaid_100 ?_
                refine bk_icmp_gt hX 107 dX1_whatIsSaid_101 rfl ?_ ?_
                · refine bk_iinc hX 0 (fun v9 => [(4, .int v9), (3, .int a8.1), (0, .ref (bk_r w b)), (1, .ref (bk_r w s1)), (2, .int x2)]) dX1_whatIsSaid_107 rfl bk_ci_1 (Nat.le_of_ble_eq_true rfl) (fun _ => rfl) (fun v9 => ?_)
                  refine bk_goto hX 19 dX1_whatIsSaid_110 rfl ?_
                  exact bk_pick [0, 1, 2, 3, 4] rfl (hK7 (a8.1, v9))
                · refine bk_iload hX 0 dX1_whatIsSaid_104 rfl ?_
                  exact fun z => hret _ _ _ _ dX1_whatIsSaid_106 rfl ⟨z, rfl⟩
              · refine bk_iload_n hX 4 dX1_whatIsSaid_79 rfl ?_
                refine bk_aload_n hX 3 dX1_whatIsSaid_80 rfl ?_
                refine bk_getr hX hs1.1 rfl fl_X1_111 dX1_whatIsSaid_81 ?_
                refine bk_iload hX 0 dX1_whatIsSaid_84 rfl ?_
                refine bk_iaload hX hs1.2.2.2.2.1 dX1_whatIsSaid_86 ?_
                refine bk_icmp_lt hX 107 dX1_whatIsSaid_87 rfl ?_ ?_
                · refine bk_iinc hX 0 (fun v10 => [(4, .int v10), (3, .int a8.1), (0, .ref (bk_r w b)), (1, .ref (bk_r w s1)), (2, .int x2)]) dX1_whatIsSaid_107 rfl bk_ci_1 (Nat.le_of_ble_eq_true rfl) (fun _ => rfl) (fun v10 => ?_)
                  refine bk_goto hX 19 dX1_whatIsSaid_110 rfl ?_
                  exact bk_pick [0, 1, 2, 3, 4] rfl (hK7 (a8.1, v10))
                · exact bk_pick [0, 2, 3, 4] rfl (hK5 a8.2)
            · refine bk_iload_n hX 1 dX1_whatIsSaid_53 rfl ?_
              refine bk_iconst hX bk_ci_m1 dX1_whatIsSaid_54 ?_
              refine bk_r_if (α := Int32) (F := fun K11 => (¬ a8.1 = (-1 : Int32) → K11 a8.1) ∧ (a8.1 = (-1 : Int32) → K11 a8.2)) (fun K11 z => ⟨fun h0 => (bk_neg (K := K11) h0 z), fun h0 => (bk_pos (K := K11) h0 z)⟩) (J := fun a => bk_At lyC w X 64 [(4, .int a8.2), (3, .int a8.1), (0, .ref (bk_r w b)), (1, .ref (bk_r w s1)), (2, .int x2)] [.int a] σ) (fun a12 => ?_) (fun K11 hK11 => ?_)
              · refine bk_istore_n hX (fun v13 => [(3, .int v13), (4, .int a8.2), (0, .ref (bk_r w b)), (1, .ref (bk_r w s1)), (2, .int x2)]) dX1_whatIsSaid_64 (Nat.le_of_ble_eq_true rfl) (fun _ => rfl) (fun v13 => ?_)
                refine bk_goto hX 107 dX1_whatIsSaid_65 rfl ?_
                refine bk_iinc hX 1 (fun v14 => [(4, .int v14), (3, .int v13), (0, .ref (bk_r w b)), (1, .ref (bk_r w s1)), (2, .int x2)]) dX1_whatIsSaid_107 rfl bk_ci_1 (Nat.le_of_ble_eq_true rfl) (fun _ => rfl) (fun v14 => ?_)
                refine bk_goto hX 19 dX1_whatIsSaid_110 rfl ?_
                exact bk_pick [0, 1, 2, 3, 4] rfl (hK7 (v13, v14))
              · refine bk_icmp_ne hX 63 dX1_whatIsSaid_55 rfl ?_ ?_
                · refine bk_iload_n hX 1 dX1_whatIsSaid_63 rfl ?_
                  exact bk_pick [0, 1, 2, 3, 4] rfl (hK11 a8.1)
                · refine bk_iload hX 0 dX1_whatIsSaid_58 rfl ?_
                  refine bk_goto hX 64 dX1_whatIsSaid_60 rfl ?_
                  exact bk_pick [0, 1, 2, 3, 4] rfl (hK11 a8.2)
          · refine bk_goto hX 107 dX1_whatIsSaid_39 rfl ?_
            refine bk_iinc hX 0 (fun v15 => [(4, .int v15), (3, .int a8.1), (0, .ref (bk_r w b)), (1, .ref (bk_r w s1)), (2, .int x2)]) dX1_whatIsSaid_107 rfl bk_ci_1 (Nat.le_of_ble_eq_true rfl) (fun _ => rfl) (fun v15 => ?_)
            refine bk_goto hX 19 dX1_whatIsSaid_110 rfl ?_
            exact bk_pick [0, 1, 2, 3, 4] rfl (hK7 (a8.1, v15))
  · refine bk_bipush hX bk_cb_8 dX1_whatIsSaid_11 ?_
    exact fun z => hret _ _ _ _ dX1_whatIsSaid_13 rfl ⟨z, rfl⟩

def w_X1_soften (b : Nat) (x1 : Int32) (x2 : Int32) (x3 : Int32) (x4 : Int32) (σ : bk_S) (post : bk_S → Prop) : Prop :=
  bk_lt (α := Int32) (1 : Int32) fun v1 =>
  bk_jn (α := Int32) (fun a3 =>
    vp_in x3 8 ∧ vp_in x3 8 ∧ bk_lt (α := bk_S) (bk_u σ (b + 1) (Int32.toNatClampNeg x3) ((σ (b + 1) (Int32.toNatClampNeg x3)) - a3)) fun σ8 =>
    vp_in x3 8 ∧ (0 < (σ8 (b + 1) (Int32.toNatClampNeg x3)) → post σ8) ∧ (¬ 0 < (σ8 (b + 1) (Int32.toNatClampNeg x3)) → (vp_in x3 8 ∧ bk_lt (α := bk_S) (bk_u σ8 (b + 1) (Int32.toNatClampNeg x3) (0 : Int32)) fun σ9 =>
    vp_in x3 8 ∧ bk_lt (α := bk_S) (bk_u σ9 (b + 2) (Int32.toNatClampNeg x3) x2) fun σ10 =>
    vp_in x2 12 ∧ vp_in x2 12 ∧ bk_lt (α := bk_S) (bk_u σ10 (b + 11) (Int32.toNatClampNeg x2) ((σ10 (b + 11) (Int32.toNatClampNeg x2)) + (1 : Int32))) fun σ11 =>
    bk_lt (α := bk_S) (bk_u σ11 b 11 ((σ11 b 11) + (1 : Int32))) fun σ12 =>
    post σ12))) (fun K2 =>
    bk_jn (α := Unit) (fun a5 =>
      (¬ x1 = (2 : Int32) → K2 v1) ∧ (x1 = (2 : Int32) → ((x4 = 0 → K2 v1) ∧ (¬ x4 = 0 → (bk_lt (α := Int32) (3 : Int32) fun v7 =>
      K2 v7))))) (fun K4 =>
      (¬ x1 = (1 : Int32) → K4 ()) ∧ (x1 = (1 : Int32) → (vp_in x2 12 ∧ ((σ (b + 11) (Int32.toNatClampNeg x2)) ≤ 0 → K4 ()) ∧ (¬ (σ (b + 11) (Int32.toNatClampNeg x2)) ≤ 0 → (bk_lt (α := Int32) (2 : Int32) fun v6 =>
      K2 v6))))))
set_option maxRecDepth 20000 in
theorem m_X1_soften (w : bk_W) {b : Nat} {x1 : Int32} {x2 : Int32} {x3 : Int32} {x4 : Int32} (hb : bk_crs b) {σ : bk_S} {post : bk_S → Prop} : w_X1_soften b x1 x2 x3 x4 σ post → bk_Mv lyC w yX1_soften cX1_soften 6 0 0 [.ref (bk_r w b), .int x1, .int x2, .int x3, .int x4] σ post := by
  intro h0
  refine bk_mv (by decide) (Nat.le_of_ble_eq_true rfl) (fun X hX hret => ?_)
  revert h0
  unfold w_X1_soften
  show _ → bk_At lyC w X 0 [(0, .ref (bk_r w b)), (1, .int x1), (2, .int x2), (3, .int x3), (4, .int x4)] [] σ
  refine bk_iconst hX bk_ci_1 dX1_soften_0 ?_
  refine bk_istore hX (fun v1 => [(5, .int v1), (0, .ref (bk_r w b)), (1, .int x1), (2, .int x2), (3, .int x3), (4, .int x4)]) dX1_soften_1 (Nat.le_of_ble_eq_true rfl) (fun _ => rfl) (fun v1 => ?_)
  refine bk_iload_n hX 2 dX1_soften_3 rfl ?_
  refine bk_iconst hX bk_ci_1 dX1_soften_4 ?_
  refine bk_r_jn (α := Int32) (J := fun a => bk_At lyC w X 36 [(5, .int a), (0, .ref (bk_r w b)), (1, .int x1), (2, .int x2), (3, .int x3), (4, .int x4)] [] σ) (fun a3 => ?_) (fun K2 hK2 => ?_)
  · refine bk_aload_n hX 1 dX1_soften_36 rfl ?_
    refine bk_getr hX hb.1 rfl fl_X1_9 dX1_soften_37 ?_
    refine bk_iload_n hX 4 dX1_soften_40 rfl ?_
    refine bk_dup2 hX rfl rfl dX1_soften_41 ?_
    refine bk_iaload hX hb.2.1 dX1_soften_42 ?_
    refine bk_iload hX 0 dX1_soften_43 rfl ?_
    refine bk_isub hX dX1_soften_45 ?_
    refine bk_iastore hX hb.2.1 dX1_soften_46 (fun σ8 => ?_)
    refine bk_aload_n hX 1 dX1_soften_47 rfl ?_
    refine bk_getr hX hb.1 rfl fl_X1_9 dX1_soften_48 ?_
    refine bk_iload_n hX 4 dX1_soften_51 rfl ?_
    refine bk_iaload hX hb.2.1 dX1_soften_52 ?_
    refine bk_if_gt hX 90 dX1_soften_53 rfl ?_ ?_
    · exact fun z => hret _ _ _ dX1_soften_90 z
    · refine bk_aload_n hX 1 dX1_soften_56 rfl ?_
      refine bk_getr hX hb.1 rfl fl_X1_9 dX1_soften_57 ?_
      refine bk_iload_n hX 4 dX1_soften_60 rfl ?_
      refine bk_iconst hX bk_ci_0 dX1_soften_61 ?_
      refine bk_iastore hX hb.2.1 dX1_soften_62 (fun σ9 => ?_)
      refine bk_aload_n hX 1 dX1_soften_63 rfl ?_
      refine bk_getr hX hb.1 rfl fl_X1_15 dX1_soften_64 ?_
      refine bk_iload_n hX 4 dX1_soften_67 rfl ?_
      refine bk_iload_n hX 3 dX1_soften_68 rfl ?_
      refine bk_iastore hX hb.2.2.1 dX1_soften_69 (fun σ10 => ?_)
      refine bk_aload_n hX 1 dX1_soften_70 rfl ?_
      refine bk_getr hX hb.1 rfl fl_X1_42 dX1_soften_71 ?_
      refine bk_iload_n hX 3 dX1_soften_74 rfl ?_
      refine bk_dup2 hX rfl rfl dX1_soften_75 ?_
      refine bk_iaload hX hb.2.2.2.2.2.2.2.2.2.2.2 dX1_soften_76 ?_
      refine bk_iconst hX bk_ci_1 dX1_soften_77 ?_
      refine bk_iadd hX dX1_soften_78 ?_
      refine bk_iastore hX hb.2.2.2.2.2.2.2.2.2.2.2 dX1_soften_79 (fun σ11 => ?_)
      refine bk_aload_n hX 1 dX1_soften_80 rfl ?_
      refine bk_dup hX rfl dX1_soften_81 ?_
      refine bk_geti hX hb.1 rfl fl_X1_45 dX1_soften_82 ?_
      refine bk_iconst hX bk_ci_1 dX1_soften_85 ?_
      refine bk_iadd hX dX1_soften_86 ?_
      refine bk_putI hX hb.1 rfl fp_X1_45 dX1_soften_87 (fun σ12 => ?_)
      exact fun z => hret _ _ _ dX1_soften_90 z
  · refine bk_r_jn (α := Unit) (J := fun a => bk_At lyC w X 23 [(5, .int v1), (0, .ref (bk_r w b)), (1, .int x1), (2, .int x2), (3, .int x3), (4, .int x4)] [] σ) (fun a5 => ?_) (fun K4 hK4 => ?_)
    · refine bk_iload_n hX 2 dX1_soften_23 rfl ?_
      refine bk_iconst hX bk_ci_2 dX1_soften_24 ?_
      refine bk_icmp_ne hX 36 dX1_soften_25 rfl ?_ ?_
      · exact bk_pick [0, 1, 2, 3, 4, 5] rfl (hK2 v1)
      · refine bk_iload hX 5 dX1_soften_28 rfl ?_
        refine bk_if_eq hX 36 dX1_soften_30 rfl ?_ ?_
        · exact bk_pick [0, 1, 2, 3, 4, 5] rfl (hK2 v1)
        · refine bk_iconst hX bk_ci_3 dX1_soften_33 ?_
          refine bk_istore hX (fun v7 => [(5, .int v7), (0, .ref (bk_r w b)), (1, .int x1), (2, .int x2), (3, .int x3), (4, .int x4)]) dX1_soften_34 (Nat.le_of_ble_eq_true rfl) (fun _ => rfl) (fun v7 => ?_)
          exact bk_pick [0, 1, 2, 3, 4, 5] rfl (hK2 v7)
    · refine bk_icmp_ne hX 23 dX1_soften_5 rfl ?_ ?_
      · exact bk_pick [0, 1, 2, 3, 4, 5] rfl (hK4 ())
      · refine bk_aload_n hX 1 dX1_soften_8 rfl ?_
        refine bk_getr hX hb.1 rfl fl_X1_42 dX1_soften_9 ?_
        refine bk_iload_n hX 3 dX1_soften_12 rfl ?_
        refine bk_iaload hX hb.2.2.2.2.2.2.2.2.2.2.2 dX1_soften_13 ?_
        refine bk_if_le hX 23 dX1_soften_14 rfl ?_ ?_
        · exact bk_pick [0, 1, 2, 3, 4, 5] rfl (hK4 ())
        · refine bk_iconst hX bk_ci_2 dX1_soften_17 ?_
          refine bk_istore hX (fun v6 => [(5, .int v6), (0, .ref (bk_r w b)), (1, .int x1), (2, .int x2), (3, .int x3), (4, .int x4)]) dX1_soften_18 (Nat.le_of_ble_eq_true rfl) (fun _ => rfl) (fun v6 => ?_)
          refine bk_goto hX 36 dX1_soften_20 rfl ?_
          exact bk_pick [0, 1, 2, 3, 4, 5] rfl (hK2 v6)

def w_X1_doHook (b : Nat) (s1 : Nat) (x2 : Int32) (x3 : Int32) (x4 : Int32) (x5 : Int32) (σ : bk_S) (post : bk_S → Prop) : Prop :=
  bk_lt (α := Int32) (0 : Int32) fun v1 =>
  bk_loop (α := Int32 × bk_S) (fun K2 a3 =>
    (x4 ≤ a3.1 → post a3.2) ∧ (¬ x4 ≤ a3.1 → (w_X1_whatIsSaid b s1 x3 a3.2 (fun r4 =>
      bk_lt (α := Int32) r4 fun v5 =>
      vp_in x2 12 ∧ vp_in x2 12 ∧ bk_lt (α := bk_S) (bk_u a3.2 (b + 8) (Int32.toNatClampNeg x2) ((a3.2 (b + 8) (Int32.toNatClampNeg x2)) + (1 : Int32))) fun σ6 =>
      vp_in ((x2 * (12 : Int32)) + x3) 144 ∧ bk_lt (α := bk_S) (bk_u σ6 (b + 7) (Int32.toNatClampNeg ((x2 * (12 : Int32)) + x3)) v5) fun σ7 =>
      (¬ v5 = (8 : Int32) → ((¬ v5 = (9 : Int32) → (vp_in ((x2 * (8 : Int32)) + v5) 96 ∧ vp_in ((x2 * (8 : Int32)) + v5) 96 ∧ bk_lt (α := bk_S) (bk_u σ7 (b + 6) (Int32.toNatClampNeg ((x2 * (8 : Int32)) + v5)) ((σ7 (b + 6) (Int32.toNatClampNeg ((x2 * (8 : Int32)) + v5))) + (1 : Int32))) fun σ8 =>
      vp_in v5 8 ∧ vp_in v5 8 ∧ bk_lt (α := bk_S) (bk_u σ8 (b + 4) (Int32.toNatClampNeg v5) ((σ8 (b + 4) (Int32.toNatClampNeg v5)) + (1 : Int32))) fun σ9 =>
      vp_in v5 8 ∧ bk_jn (α := bk_S) (fun a11 =>
        vp_in v5 8 ∧ w_X1_soften b (a11 (s1 + 2) (Int32.toNatClampNeg v5)) x2 v5 x5 a11 (fun σ13 =>
          bk_lt (α := Int32) (a3.1 + (1 : Int32)) fun v14 =>
          K2 (v14, σ13))) (fun K10 =>
        (x3 ≤ (σ9 (b + 3) (Int32.toNatClampNeg v5)) → K10 σ9) ∧ (¬ x3 ≤ (σ9 (b + 3) (Int32.toNatClampNeg v5)) → (vp_in v5 8 ∧ bk_lt (α := bk_S) (bk_u σ9 (b + 3) (Int32.toNatClampNeg v5) x3) fun σ12 =>
        K10 σ12))))) ∧ (v5 = (9 : Int32) → (vp_in x2 12 ∧ vp_in x2 12 ∧ bk_lt (α := bk_S) (bk_u σ7 (b + 10) (Int32.toNatClampNeg x2) ((σ7 (b + 10) (Int32.toNatClampNeg x2)) + (1 : Int32))) fun σ15 =>
      bk_lt (α := Int32) (a3.1 + (1 : Int32)) fun v16 =>
      K2 (v16, σ15))))) ∧ (v5 = (8 : Int32) → (vp_in x2 12 ∧ vp_in x2 12 ∧ bk_lt (α := bk_S) (bk_u σ7 (b + 9) (Int32.toNatClampNeg x2) ((σ7 (b + 9) (Int32.toNatClampNeg x2)) + (1 : Int32))) fun σ17 =>
      bk_lt (α := Int32) (a3.1 + (1 : Int32)) fun v18 =>
      K2 (v18, σ17))))))) (v1, σ)
set_option maxRecDepth 20000 in
theorem m_X1_doHook (w : bk_W) {b : Nat} {s1 : Nat} {x2 : Int32} {x3 : Int32} {x4 : Int32} {x5 : Int32} (hb : bk_crs b) (hs1 : bk_set s1) {σ : bk_S} {post : bk_S → Prop} : w_X1_doHook b s1 x2 x3 x4 x5 σ post → bk_Mv lyC w yX1_doHook cX1_doHook 8 1 25 [.ref (bk_r w b), .ref (bk_r w s1), .int x2, .int x3, .int x4, .int x5] σ post := by
  intro h0
  refine bk_mv (by decide) (Nat.le_of_ble_eq_true rfl) (fun X hX hret => ?_)
  revert h0
  unfold w_X1_doHook
  show _ → bk_At lyC w X 0 [(0, .ref (bk_r w b)), (1, .ref (bk_r w s1)), (2, .int x2), (3, .int x3), (4, .int x4), (5, .int x5)] [] σ
  refine bk_iconst hX bk_ci_0 dX1_doHook_0 ?_
  refine bk_istore hX (fun v1 => [(6, .int v1), (0, .ref (bk_r w b)), (1, .ref (bk_r w s1)), (2, .int x2), (3, .int x3), (4, .int x4), (5, .int x5)]) dX1_doHook_1 (Nat.le_of_ble_eq_true rfl) (fun _ => rfl) (fun v1 => ?_)
  refine bk_pick [0, 1, 2, 3, 4, 5, 6] rfl (bk_r_loop (α := Int32 × bk_S) (J := fun a => bk_At lyC w X 3 [(6, .int a.1), (0, .ref (bk_r w b)), (1, .ref (bk_r w s1)), (2, .int x2), (3, .int x3), (4, .int x4), (5, .int x5)] [] a.2) (v1, σ) (fun K2 hK2 a3 => ?_))
  refine bk_iload hX 0 dX1_doHook_3 rfl ?_
  refine bk_iload hX 5 dX1_doHook_5 rfl ?_
  refine bk_icmp_ge hX 149 dX1_doHook_7 rfl ?_ ?_
  · exact fun z => hret _ _ _ dX1_doHook_149 z
  · refine bk_aload_n hX 1 dX1_doHook_10 rfl ?_
    refine bk_aload_n hX 2 dX1_doHook_11 rfl ?_
    refine bk_iload_n hX 4 dX1_doHook_12 rfl ?_
    refine bk_callV_i hX [.ref (bk_r w s1), .int x3] [] yk_X1_whatIsSaid yv_X1_whatIsSaid lk_X1_101 rfl rfl hb.1 rfl rfl (Nat.le_of_ble_eq_true rfl) ⟨Nat.le_of_ble_eq_true rfl, Nat.le_of_ble_eq_true rfl⟩ dX1_doHook_13 (m_X1_whatIsSaid w hb hs1) (bk_pu (fun r4 => ?_))
    refine bk_istore hX (fun v5 => [(7, .int v5), (6, .int a3.1), (0, .ref (bk_r w b)), (1, .ref (bk_r w s1)), (2, .int x2), (3, .int x3), (4, .int x4), (5, .int x5)]) dX1_doHook_16 (Nat.le_of_ble_eq_true rfl) (fun _ => rfl) (fun v5 => ?_)
    refine bk_aload_n hX 2 dX1_doHook_18 rfl ?_
    refine bk_getr hX hb.1 rfl fl_X1_33 dX1_doHook_19 ?_
    refine bk_iload_n hX 4 dX1_doHook_22 rfl ?_
    refine bk_dup2 hX rfl rfl dX1_doHook_23 ?_
    refine bk_iaload hX hb.2.2.2.2.2.2.2.2.1 dX1_doHook_24 ?_
    refine bk_iconst hX bk_ci_1 dX1_doHook_25 ?_
    refine bk_iadd hX dX1_doHook_26 ?_
    refine bk_iastore hX hb.2.2.2.2.2.2.2.2.1 dX1_doHook_27 (fun σ6 => ?_)
    refine bk_aload_n hX 2 dX1_doHook_28 rfl ?_
    refine bk_getr hX hb.1 rfl fl_X1_30 dX1_doHook_29 ?_
    refine bk_iload_n hX 4 dX1_doHook_32 rfl ?_
    refine bk_bipush hX bk_cb_12 dX1_doHook_33 ?_
    refine bk_imul hX dX1_doHook_35 ?_
    refine bk_iload_n hX 5 dX1_doHook_36 rfl ?_
    refine bk_iadd hX dX1_doHook_37 ?_
    refine bk_iload hX 0 dX1_doHook_38 rfl ?_
    refine bk_iastore hX hb.2.2.2.2.2.2.2.1 dX1_doHook_40 (fun σ7 => ?_)
    refine bk_iload hX 0 dX1_doHook_41 rfl ?_
    refine bk_bipush hX bk_cb_8 dX1_doHook_43 ?_
    refine bk_icmp_ne hX 61 dX1_doHook_45 rfl ?_ ?_
    · refine bk_iload hX 0 dX1_doHook_61 rfl ?_
      refine bk_bipush hX bk_cb_9 dX1_doHook_63 ?_
      refine bk_icmp_ne hX 81 dX1_doHook_65 rfl ?_ ?_
      · refine bk_aload_n hX 2 dX1_doHook_81 rfl ?_
        refine bk_getr hX hb.1 rfl fl_X1_27 dX1_doHook_82 ?_
        refine bk_iload_n hX 4 dX1_doHook_85 rfl ?_
        refine bk_bipush hX bk_cb_8 dX1_doHook_86 ?_
        refine bk_imul hX dX1_doHook_88 ?_
        refine bk_iload hX 0 dX1_doHook_89 rfl ?_
        refine bk_iadd hX dX1_doHook_91 ?_
        refine bk_dup2 hX rfl rfl dX1_doHook_92 ?_
        refine bk_iaload hX hb.2.2.2.2.2.2.1 dX1_doHook_93 ?_
        refine bk_iconst hX bk_ci_1 dX1_doHook_94 ?_
        refine bk_iadd hX dX1_doHook_95 ?_
        refine bk_iastore hX hb.2.2.2.2.2.2.1 dX1_doHook_96 (fun σ8 => ?_)
        refine bk_aload_n hX 2 dX1_doHook_97 rfl ?_
        refine bk_getr hX hb.1 rfl fl_X1_21 dX1_doHook_98 ?_
        refine bk_iload hX 0 dX1_doHook_101 rfl ?_
        refine bk_dup2 hX rfl rfl dX1_doHook_103 ?_
        refine bk_iaload hX hb.2.2.2.2.1 dX1_doHook_104 ?_
        refine bk_iconst hX bk_ci_1 dX1_doHook_105 ?_
        refine bk_iadd hX dX1_doHook_106 ?_
        refine bk_iastore hX hb.2.2.2.2.1 dX1_doHook_107 (fun σ9 => ?_)
        refine bk_iload_n hX 5 dX1_doHook_108 rfl ?_
        refine bk_aload_n hX 2 dX1_doHook_109 rfl ?_
        refine bk_getr hX hb.1 rfl fl_X1_18 dX1_doHook_110 ?_
        refine bk_iload hX 0 dX1_doHook_113 rfl ?_
        refine bk_iaload hX hb.2.2.2.1 dX1_doHook_115 ?_
        refine bk_r_jn (α := bk_S) (J := fun a => bk_At lyC w X 127 [(7, .int v5), (6, .int a3.1), (0, .ref (bk_r w b)), (1, .ref (bk_r w s1)), (2, .int x2), (3, .int x3), (4, .int x4), (5, .int x5)] [] a) (fun a11 => ?_) (fun K10 hK10 => ?_)
        · refine bk_aload_n hX 2 dX1_doHook_127 rfl ?_
          refine bk_aload_n hX 3 dX1_doHook_128 rfl ?_
          refine bk_getr hX hs1.1 rfl fl_X1_104 dX1_doHook_129 ?_
          refine bk_iload hX 0 dX1_doHook_132 rfl ?_
          refine bk_iaload hX hs1.2.2.1 dX1_doHook_134 ?_
          refine bk_iload_n hX 4 dX1_doHook_135 rfl ?_
          refine bk_iload hX 0 dX1_doHook_136 rfl ?_
          refine bk_iload hX 7 dX1_doHook_138 rfl ?_
          refine bk_callV_v hX [.int (a11 (s1 + 2) (Int32.toNatClampNeg v5)), .int x2, .int v5, .int x5] [] yk_X1_soften yv_X1_soften lk_X1_107 rfl rfl hb.1 rfl rfl (Nat.le_of_ble_eq_true rfl) ⟨Nat.le_of_ble_eq_true rfl, Nat.le_of_ble_eq_true rfl⟩ dX1_doHook_140 (m_X1_soften w hb) (fun σ13 => ?_)
          refine bk_iinc hX 1 (fun v14 => [(6, .int v14), (7, .int v5), (0, .ref (bk_r w b)), (1, .ref (bk_r w s1)), (2, .int x2), (3, .int x3), (4, .int x4), (5, .int x5)]) dX1_doHook_143 rfl bk_ci_1 (Nat.le_of_ble_eq_true rfl) (fun _ => rfl) (fun v14 => ?_)
          refine bk_goto hX 3 dX1_doHook_146 rfl ?_
          exact bk_pick [0, 2, 3, 4, 5, 6, 7] rfl (hK2 (v14, σ13))
        · refine bk_icmp_le hX 127 dX1_doHook_116 rfl ?_ ?_
          · exact bk_pick [0, 1, 2, 3, 4, 5, 6, 7] rfl (hK10 σ9)
          · refine bk_aload_n hX 2 dX1_doHook_119 rfl ?_
            refine bk_getr hX hb.1 rfl fl_X1_18 dX1_doHook_120 ?_
            refine bk_iload hX 0 dX1_doHook_123 rfl ?_
            refine bk_iload_n hX 5 dX1_doHook_125 rfl ?_
            refine bk_iastore hX hb.2.2.2.1 dX1_doHook_126 (fun σ12 => ?_)
            exact bk_pick [0, 1, 2, 3, 4, 5, 6, 7] rfl (hK10 σ12)
      · refine bk_aload_n hX 2 dX1_doHook_68 rfl ?_
        refine bk_getr hX hb.1 rfl fl_X1_39 dX1_doHook_69 ?_
        refine bk_iload_n hX 4 dX1_doHook_72 rfl ?_
        refine bk_dup2 hX rfl rfl dX1_doHook_73 ?_
        refine bk_iaload hX hb.2.2.2.2.2.2.2.2.2.2.1 dX1_doHook_74 ?_
        refine bk_iconst hX bk_ci_1 dX1_doHook_75 ?_
        refine bk_iadd hX dX1_doHook_76 ?_
        refine bk_iastore hX hb.2.2.2.2.2.2.2.2.2.2.1 dX1_doHook_77 (fun σ15 => ?_)
        refine bk_goto hX 143 dX1_doHook_78 rfl ?_
        refine bk_iinc hX 1 (fun v16 => [(6, .int v16), (7, .int v5), (0, .ref (bk_r w b)), (1, .ref (bk_r w s1)), (2, .int x2), (3, .int x3), (4, .int x4), (5, .int x5)]) dX1_doHook_143 rfl bk_ci_1 (Nat.le_of_ble_eq_true rfl) (fun _ => rfl) (fun v16 => ?_)
        refine bk_goto hX 3 dX1_doHook_146 rfl ?_
        exact bk_pick [0, 2, 3, 4, 5, 6, 7] rfl (hK2 (v16, σ15))
    · refine bk_aload_n hX 2 dX1_doHook_48 rfl ?_
      refine bk_getr hX hb.1 rfl fl_X1_36 dX1_doHook_49 ?_
      refine bk_iload_n hX 4 dX1_doHook_52 rfl ?_
      refine bk_dup2 hX rfl rfl dX1_doHook_53 ?_
      refine bk_iaload hX hb.2.2.2.2.2.2.2.2.2.1 dX1_doHook_54 ?_
      refine bk_iconst hX bk_ci_1 dX1_doHook_55 ?_
      refine bk_iadd hX dX1_doHook_56 ?_
      refine bk_iastore hX hb.2.2.2.2.2.2.2.2.2.1 dX1_doHook_57 (fun σ17 => ?_)
      refine bk_goto hX 143 dX1_doHook_58 rfl ?_
      refine bk_iinc hX 1 (fun v18 => [(6, .int v18), (7, .int v5), (0, .ref (bk_r w b)), (1, .ref (bk_r w s1)), (2, .int x2), (3, .int x3), (4, .int x4), (5, .int x5)]) dX1_doHook_143 rfl bk_ci_1 (Nat.le_of_ble_eq_true rfl) (fun _ => rfl) (fun v18 => ?_)
      refine bk_goto hX 3 dX1_doHook_146 rfl ?_
      exact bk_pick [0, 2, 3, 4, 5, 6, 7] rfl (hK2 (v18, σ17))

def w_X1_doHooks (b : Nat) (s1 : Nat) (x2 : Int32) (σ : bk_S) (post : bk_S → Prop) : Prop :=
  vp_in x2 12 ∧ bk_lt (α := Int32) ((σ (s1 + 5) (Int32.toNatClampNeg x2)) &&& (((1 : Int32) <<< ((σ s1 0) &&& 31)) - (1 : Int32))) fun v1 =>
  w_X1_lastHookDone s1 v1 σ (fun r2 =>
    bk_lt (α := Int32) r2 fun v3 =>
    bk_lt (α := Int32) (0 : Int32) fun v4 =>
    bk_jn (α := bk_S) (fun a6 =>
      bk_lt (α := Int32) (0 : Int32) fun v14 =>
      bk_loop (α := Int32 × bk_S) (fun K15 a16 =>
        ((a16.2 s1 0) ≤ a16.1 → post a16.2) ∧ (¬ (a16.2 s1 0) ≤ a16.1 → ((¬ ((v1 >>> (a16.1 &&& 31)) &&& (1 : Int32)) = (1 : Int32) → (bk_lt (α := Int32) (a16.1 + (1 : Int32)) fun v17 =>
        K15 (v17, a16.2))) ∧ (((v1 >>> (a16.1 &&& 31)) &&& (1 : Int32)) = (1 : Int32) → (vp_in a16.1 12 ∧ bk_lt (α := Int32) (if a16.1 = v3 then (1 : Int32) else (0 : Int32)) fun a19 =>
        w_X1_doHook b s1 x2 a16.1 ((a16.2 (s1 + 1) (Int32.toNatClampNeg a16.1)) + (1 : Int32)) a19 a16.2 (fun σ20 =>
          bk_lt (α := Int32) (a16.1 + (1 : Int32)) fun v21 =>
          K15 (v21, σ20))))))) (v14, a6)) (fun K5 =>
      bk_loop (α := Int32 × bk_S) (fun K7 a8 =>
        ((a8.2 s1 0) ≤ a8.1 → K5 a8.2) ∧ (¬ (a8.2 s1 0) ≤ a8.1 → ((¬ ((v1 >>> (a8.1 &&& 31)) &&& (1 : Int32)) = 0 → (bk_lt (α := Int32) (a8.1 + (1 : Int32)) fun v9 =>
        K7 (v9, a8.2))) ∧ (((v1 >>> (a8.1 &&& 31)) &&& (1 : Int32)) = 0 → (vp_in a8.1 12 ∧ bk_lt (α := Int32) (if a8.1 = v3 then (1 : Int32) else (0 : Int32)) fun a11 =>
        w_X1_doHook b s1 x2 a8.1 (a8.2 (s1 + 1) (Int32.toNatClampNeg a8.1)) a11 a8.2 (fun σ12 =>
          bk_lt (α := Int32) (a8.1 + (1 : Int32)) fun v13 =>
          K7 (v13, σ12))))))) (v4, σ)))
set_option maxRecDepth 20000 in
theorem m_X1_doHooks (w : bk_W) {b : Nat} {s1 : Nat} {x2 : Int32} (hb : bk_crs b) (hs1 : bk_set s1) {σ : bk_S} {post : bk_S → Prop} : w_X1_doHooks b s1 x2 σ post → bk_Mv lyC w yX1_doHooks cX1_doHooks 6 2 52 [.ref (bk_r w b), .ref (bk_r w s1), .int x2] σ post := by
  intro h0
  refine bk_mv (by decide) (Nat.le_of_ble_eq_true rfl) (fun X hX hret => ?_)
  revert h0
  unfold w_X1_doHooks
  show _ → bk_At lyC w X 0 [(0, .ref (bk_r w b)), (1, .ref (bk_r w s1)), (2, .int x2)] [] σ
  refine bk_aload_n hX 1 dX1_doHooks_0 rfl ?_
  refine bk_getr hX hs1.1 rfl fl_X1_84 dX1_doHooks_1 ?_
  refine bk_iload_n hX 2 dX1_doHooks_4 rfl ?_
  refine bk_iaload hX hs1.2.2.2.2.2.1 dX1_doHooks_5 ?_
  refine bk_iconst hX bk_ci_1 dX1_doHooks_6 ?_
  refine bk_aload_n hX 1 dX1_doHooks_7 rfl ?_
  refine bk_geti hX hs1.1 rfl fl_X1_87 dX1_doHooks_8 ?_
  refine bk_ishl hX dX1_doHooks_11 ?_
  refine bk_iconst hX bk_ci_1 dX1_doHooks_12 ?_
  refine bk_isub hX dX1_doHooks_13 ?_
  refine bk_iand hX dX1_doHooks_14 ?_
  refine bk_istore_n hX (fun v1 => [(3, .int v1), (0, .ref (bk_r w b)), (1, .ref (bk_r w s1)), (2, .int x2)]) dX1_doHooks_15 (Nat.le_of_ble_eq_true rfl) (fun _ => rfl) (fun v1 => ?_)
  refine bk_aload_n hX 2 dX1_doHooks_16 rfl ?_
  refine bk_iload_n hX 0 dX1_doHooks_17 rfl ?_
  refine bk_callS_i hX [.ref (bk_r w s1), .int v1] [] yk_X1_lastHookDone ys_X1_lastHookDone lk_X1_90 rfl rfl (Nat.le_of_ble_eq_true rfl) ⟨Nat.le_of_ble_eq_true rfl, Nat.le_of_ble_eq_true rfl⟩ dX1_doHooks_18 (m_X1_lastHookDone w hs1) (bk_pu (fun r2 => ?_))
  refine bk_istore hX (fun v3 => [(4, .int v3), (3, .int v1), (0, .ref (bk_r w b)), (1, .ref (bk_r w s1)), (2, .int x2)]) dX1_doHooks_21 (Nat.le_of_ble_eq_true rfl) (fun _ => rfl) (fun v3 => ?_)
  refine bk_iconst hX bk_ci_0 dX1_doHooks_23 ?_
  refine bk_istore hX (fun v4 => [(5, .int v4), (4, .int v3), (3, .int v1), (0, .ref (bk_r w b)), (1, .ref (bk_r w s1)), (2, .int x2)]) dX1_doHooks_24 (Nat.le_of_ble_eq_true rfl) (fun _ => rfl) (fun v4 => ?_)
  refine bk_r_jn (α := bk_S) (J := fun a => bk_At lyC w X 77 [(4, .int v3), (3, .int v1), (0, .ref (bk_r w b)), (1, .ref (bk_r w s1)), (2, .int x2)] [] a) (fun a6 => ?_) (fun K5 hK5 => ?_)
  · refine bk_iconst hX bk_ci_0 dX1_doHooks_77 ?_
    refine bk_istore hX (fun v14 => [(5, .int v14), (4, .int v3), (3, .int v1), (0, .ref (bk_r w b)), (1, .ref (bk_r w s1)), (2, .int x2)]) dX1_doHooks_78 (Nat.le_of_ble_eq_true rfl) (fun _ => rfl) (fun v14 => ?_)
    refine bk_pick [0, 1, 2, 3, 4, 5] rfl (bk_r_loop (α := Int32 × bk_S) (J := fun a => bk_At lyC w X 80 [(5, .int a.1), (4, .int v3), (3, .int v1), (0, .ref (bk_r w b)), (1, .ref (bk_r w s1)), (2, .int x2)] [] a.2) (v14, a6) (fun K15 hK15 a16 => ?_))
    refine bk_iload hX 0 dX1_doHooks_80 rfl ?_
    refine bk_aload_n hX 4 dX1_doHooks_82 rfl ?_
    refine bk_geti hX hs1.1 rfl fl_X1_87 dX1_doHooks_83 ?_
    refine bk_icmp_ge hX 134 dX1_doHooks_86 rfl ?_ ?_
    · exact fun z => hret _ _ _ dX1_doHooks_134 z
    · refine bk_iload_n hX 2 dX1_doHooks_89 rfl ?_
      refine bk_iload hX 0 dX1_doHooks_90 rfl ?_
      refine bk_ishr hX dX1_doHooks_92 ?_
      refine bk_iconst hX bk_ci_1 dX1_doHooks_93 ?_
      refine bk_iand hX dX1_doHooks_94 ?_
      refine bk_iconst hX bk_ci_1 dX1_doHooks_95 ?_
      refine bk_icmp_ne hX 128 dX1_doHooks_96 rfl ?_ ?_
      · refine bk_iinc hX 0 (fun v17 => [(5, .int v17), (4, .int v3), (3, .int v1), (0, .ref (bk_r w b)), (1, .ref (bk_r w s1)), (2, .int x2)]) dX1_doHooks_128 rfl bk_ci_1 (Nat.le_of_ble_eq_true rfl) (fun _ => rfl) (fun v17 => ?_)
        refine bk_goto hX 80 dX1_doHooks_131 rfl ?_
        exact bk_pick [0, 1, 2, 3, 4, 5] rfl (hK15 (v17, a16.2))
      · refine bk_aload_n hX 3 dX1_doHooks_99 rfl ?_
        refine bk_aload_n hX 4 dX1_doHooks_100 rfl ?_
        refine bk_iload_n hX 5 dX1_doHooks_101 rfl ?_
        refine bk_iload hX 0 dX1_doHooks_102 rfl ?_
        refine bk_aload_n hX 4 dX1_doHooks_104 rfl ?_
        refine bk_getr hX hs1.1 rfl fl_X1_94 dX1_doHooks_105 ?_
        refine bk_iload hX 0 dX1_doHooks_108 rfl ?_
        refine bk_iaload hX hs1.2.1 dX1_doHooks_110 ?_
        refine bk_iconst hX bk_ci_1 dX1_doHooks_111 ?_
        refine bk_iadd hX dX1_doHooks_112 ?_
        refine bk_iload hX 0 dX1_doHooks_113 rfl ?_
        refine bk_iload hX 1 dX1_doHooks_115 rfl ?_
        refine bk_r_if (α := Int32) (F := fun K18 => (¬ a16.1 = v3 → K18 (0 : Int32)) ∧ (a16.1 = v3 → K18 (1 : Int32))) (fun K18 z => ⟨fun h0 => (bk_neg (K := K18) h0 z), fun h0 => (bk_pos (K := K18) h0 z)⟩) (J := fun a => bk_At lyC w X 125 [(5, .int a16.1), (4, .int v3), (3, .int v1), (0, .ref (bk_r w b)), (1, .ref (bk_r w s1)), (2, .int x2)] [.int a, .int ((a16.2 (s1 + 1) (Int32.toNatClampNeg a16.1)) + (1 : Int32)), .int a16.1, .int x2, .ref (bk_r w s1), .ref (bk_r w b)] a16.2) (fun a19 => ?_) (fun K18 hK18 => ?_)
        · refine bk_callV_v hX [.ref (bk_r w s1), .int x2, .int a16.1, .int ((a16.2 (s1 + 1) (Int32.toNatClampNeg a16.1)) + (1 : Int32)), .int a19] [] yk_X1_doHook yv_X1_doHook lk_X1_97 rfl rfl hb.1 rfl rfl (Nat.le_of_ble_eq_true rfl) ⟨Nat.le_of_ble_eq_true rfl, Nat.le_of_ble_eq_true rfl⟩ dX1_doHooks_125 (m_X1_doHook w hb hs1) (fun σ20 => ?_)
          refine bk_iinc hX 0 (fun v21 => [(5, .int v21), (4, .int v3), (3, .int v1), (0, .ref (bk_r w b)), (1, .ref (bk_r w s1)), (2, .int x2)]) dX1_doHooks_128 rfl bk_ci_1 (Nat.le_of_ble_eq_true rfl) (fun _ => rfl) (fun v21 => ?_)
          refine bk_goto hX 80 dX1_doHooks_131 rfl ?_
          exact bk_pick [0, 1, 2, 3, 4, 5] rfl (hK15 (v21, σ20))
        · refine bk_icmp_ne hX 124 dX1_doHooks_117 rfl ?_ ?_
          · refine bk_iconst hX bk_ci_0 dX1_doHooks_124 ?_
            exact bk_pick [0, 1, 2, 3, 4, 5] rfl (hK18 (0 : Int32))
          · refine bk_iconst hX bk_ci_1 dX1_doHooks_120 ?_
            refine bk_goto hX 125 dX1_doHooks_121 rfl ?_
            exact bk_pick [0, 1, 2, 3, 4, 5] rfl (hK18 (1 : Int32))
  · refine bk_pick [0, 1, 2, 3, 4, 5] rfl (bk_r_loop (α := Int32 × bk_S) (J := fun a => bk_At lyC w X 26 [(5, .int a.1), (4, .int v3), (3, .int v1), (0, .ref (bk_r w b)), (1, .ref (bk_r w s1)), (2, .int x2)] [] a.2) (v4, σ) (fun K7 hK7 a8 => ?_))
    refine bk_iload hX 0 dX1_doHooks_26 rfl ?_
    refine bk_aload_n hX 4 dX1_doHooks_28 rfl ?_
    refine bk_geti hX hs1.1 rfl fl_X1_87 dX1_doHooks_29 ?_
    refine bk_icmp_ge hX 77 dX1_doHooks_32 rfl ?_ ?_
    · exact bk_pick [1, 2, 3, 4, 5] rfl (hK5 a8.2)
    · refine bk_iload_n hX 2 dX1_doHooks_35 rfl ?_
      refine bk_iload hX 0 dX1_doHooks_36 rfl ?_
      refine bk_ishr hX dX1_doHooks_38 ?_
      refine bk_iconst hX bk_ci_1 dX1_doHooks_39 ?_
      refine bk_iand hX dX1_doHooks_40 ?_
      refine bk_if_ne hX 71 dX1_doHooks_41 rfl ?_ ?_
      · refine bk_iinc hX 0 (fun v9 => [(5, .int v9), (4, .int v3), (3, .int v1), (0, .ref (bk_r w b)), (1, .ref (bk_r w s1)), (2, .int x2)]) dX1_doHooks_71 rfl bk_ci_1 (Nat.le_of_ble_eq_true rfl) (fun _ => rfl) (fun v9 => ?_)
        refine bk_goto hX 26 dX1_doHooks_74 rfl ?_
        exact bk_pick [0, 1, 2, 3, 4, 5] rfl (hK7 (v9, a8.2))
      · refine bk_aload_n hX 3 dX1_doHooks_44 rfl ?_
        refine bk_aload_n hX 4 dX1_doHooks_45 rfl ?_
        refine bk_iload_n hX 5 dX1_doHooks_46 rfl ?_
        refine bk_iload hX 0 dX1_doHooks_47 rfl ?_
        refine bk_aload_n hX 4 dX1_doHooks_49 rfl ?_
        refine bk_getr hX hs1.1 rfl fl_X1_94 dX1_doHooks_50 ?_
        refine bk_iload hX 0 dX1_doHooks_53 rfl ?_
        refine bk_iaload hX hs1.2.1 dX1_doHooks_55 ?_
        refine bk_iload hX 0 dX1_doHooks_56 rfl ?_
        refine bk_iload hX 1 dX1_doHooks_58 rfl ?_
        refine bk_r_if (α := Int32) (F := fun K10 => (¬ a8.1 = v3 → K10 (0 : Int32)) ∧ (a8.1 = v3 → K10 (1 : Int32))) (fun K10 z => ⟨fun h0 => (bk_neg (K := K10) h0 z), fun h0 => (bk_pos (K := K10) h0 z)⟩) (J := fun a => bk_At lyC w X 68 [(5, .int a8.1), (4, .int v3), (3, .int v1), (0, .ref (bk_r w b)), (1, .ref (bk_r w s1)), (2, .int x2)] [.int a, .int (a8.2 (s1 + 1) (Int32.toNatClampNeg a8.1)), .int a8.1, .int x2, .ref (bk_r w s1), .ref (bk_r w b)] a8.2) (fun a11 => ?_) (fun K10 hK10 => ?_)
        · refine bk_callV_v hX [.ref (bk_r w s1), .int x2, .int a8.1, .int (a8.2 (s1 + 1) (Int32.toNatClampNeg a8.1)), .int a11] [] yk_X1_doHook yv_X1_doHook lk_X1_97 rfl rfl hb.1 rfl rfl (Nat.le_of_ble_eq_true rfl) ⟨Nat.le_of_ble_eq_true rfl, Nat.le_of_ble_eq_true rfl⟩ dX1_doHooks_68 (m_X1_doHook w hb hs1) (fun σ12 => ?_)
          refine bk_iinc hX 0 (fun v13 => [(5, .int v13), (4, .int v3), (3, .int v1), (0, .ref (bk_r w b)), (1, .ref (bk_r w s1)), (2, .int x2)]) dX1_doHooks_71 rfl bk_ci_1 (Nat.le_of_ble_eq_true rfl) (fun _ => rfl) (fun v13 => ?_)
          refine bk_goto hX 26 dX1_doHooks_74 rfl ?_
          exact bk_pick [0, 1, 2, 3, 4, 5] rfl (hK7 (v13, σ12))
        · refine bk_icmp_ne hX 67 dX1_doHooks_60 rfl ?_ ?_
          · refine bk_iconst hX bk_ci_0 dX1_doHooks_67 ?_
            exact bk_pick [0, 1, 2, 3, 4, 5] rfl (hK10 (0 : Int32))
          · refine bk_iconst hX bk_ci_1 dX1_doHooks_63 ?_
            refine bk_goto hX 68 dX1_doHooks_64 rfl ?_
            exact bk_pick [0, 1, 2, 3, 4, 5] rfl (hK10 (1 : Int32))

def w_X1_run (b : Nat) (s1 : Nat) (σ : bk_S) (post : bk_S → Prop) : Prop :=
  w_X1_begin b s1 σ (fun σ1 =>
    bk_lt (α := Int32) (0 : Int32) fun v2 =>
    bk_loop (α := Int32 × bk_S) (fun K3 a4 =>
      ((12 : Int32) ≤ a4.1 → post a4.2) ∧ (¬ (12 : Int32) ≤ a4.1 → (bk_jn (α := bk_S) (fun a6 =>
        vp_in a4.1 12 ∧ bk_jn (α := bk_S) (fun a9 =>
          vp_in a4.1 12 ∧ bk_jn (α := bk_S) (fun a12 =>
            (¬ (0 : Int32) < 0 ∧ ¬ (a4.1 * (8 : Int32)) < 0 ∧ ¬ (8 : Int32) < 0 ∧ Int32.toNatClampNeg (0 : Int32) + Int32.toNatClampNeg (8 : Int32) ≤ 8 ∧ Int32.toNatClampNeg (a4.1 * (8 : Int32)) + Int32.toNatClampNeg (8 : Int32) ≤ 96) ∧ bk_lt (α := bk_S) (bk_w a12 (b + 5) (va_cpy (a12 (b + 1)) (a12 (b + 5)) (Int32.toNatClampNeg (0 : Int32)) (Int32.toNatClampNeg (a4.1 * (8 : Int32))) (Int32.toNatClampNeg (8 : Int32)))) fun σ14 =>
            bk_lt (α := Int32) (a4.1 + (1 : Int32)) fun v15 =>
            K3 (v15, σ14)) (fun K11 =>
            (¬ (a9 (s1 + 6) (Int32.toNatClampNeg a4.1)) = 0 → K11 a9) ∧ ((a9 (s1 + 6) (Int32.toNatClampNeg a4.1)) = 0 → (w_X1_doHooks b s1 a4.1 a9 (fun σ13 =>
              K11 σ13))))) (fun K8 =>
          (((a6 (s1 + 6) (Int32.toNatClampNeg a4.1)) &&& (2 : Int32)) = 0 → K8 a6) ∧ (¬ ((a6 (s1 + 6) (Int32.toNatClampNeg a4.1)) &&& (2 : Int32)) = 0 → (w_X1_heatUp b (a6 s1 1) a6 (fun σ10 =>
            K8 σ10))))) (fun K5 =>
        (a4.1 ≤ 0 → K5 a4.2) ∧ (¬ a4.1 ≤ 0 → (w_X1_heatUp b (a4.2 s1 1) a4.2 (fun σ7 =>
          K5 σ7))))))) (v2, σ1))
set_option maxRecDepth 20000 in
theorem m_X1_run (w : bk_W) {b : Nat} {s1 : Nat} (hb : bk_crs b) (hs1 : bk_set s1) {σ : bk_S} {post : bk_S → Prop} : w_X1_run b s1 σ post → bk_Mv lyC w yX1_run cX1_run 3 3 77 [.ref (bk_r w b), .ref (bk_r w s1)] σ post := by
  intro h0
  refine bk_mv (by decide) (Nat.le_of_ble_eq_true rfl) (fun X hX hret => ?_)
  revert h0
  unfold w_X1_run
  show _ → bk_At lyC w X 0 [(0, .ref (bk_r w b)), (1, .ref (bk_r w s1))] [] σ
  refine bk_aload_n hX 0 dX1_run_0 rfl ?_
  refine bk_aload_n hX 1 dX1_run_1 rfl ?_
  refine bk_callV_v hX [.ref (bk_r w s1)] [] yk_X1_begin yv_X1_begin lk_X1_49 rfl rfl hb.1 rfl rfl (Nat.le_of_ble_eq_true rfl) ⟨Nat.le_of_ble_eq_true rfl, Nat.le_of_ble_eq_true rfl⟩ dX1_run_2 (m_X1_begin w hb hs1) (fun σ1 => ?_)
  refine bk_iconst hX bk_ci_0 dX1_run_5 ?_
  refine bk_istore_n hX (fun v2 => [(2, .int v2), (0, .ref (bk_r w b)), (1, .ref (bk_r w s1))]) dX1_run_6 (Nat.le_of_ble_eq_true rfl) (fun _ => rfl) (fun v2 => ?_)
  refine bk_pick [0, 1, 2] rfl (bk_r_loop (α := Int32 × bk_S) (J := fun a => bk_At lyC w X 7 [(2, .int a.1), (0, .ref (bk_r w b)), (1, .ref (bk_r w s1))] [] a.2) (v2, σ1) (fun K3 hK3 a4 => ?_))
  refine bk_iload_n hX 0 dX1_run_7 rfl ?_
  refine bk_bipush hX bk_cb_12 dX1_run_8 ?_
  refine bk_icmp_ge hX 83 dX1_run_10 rfl ?_ ?_
  · exact fun z => hret _ _ _ dX1_run_83 z
  · refine bk_iload_n hX 0 dX1_run_13 rfl ?_
    refine bk_r_jn (α := bk_S) (J := fun a => bk_At lyC w X 25 [(2, .int a4.1), (0, .ref (bk_r w b)), (1, .ref (bk_r w s1))] [] a) (fun a6 => ?_) (fun K5 hK5 => ?_)
    · refine bk_aload_n hX 2 dX1_run_25 rfl ?_
      refine bk_getr hX hs1.1 rfl fl_X1_62 dX1_run_26 ?_
      refine bk_iload_n hX 0 dX1_run_29 rfl ?_
      refine bk_iaload hX hs1.2.2.2.2.2.2 dX1_run_30 ?_
      refine bk_iconst hX bk_ci_2 dX1_run_31 ?_
      refine bk_iand hX dX1_run_32 ?_
      refine bk_r_jn (α := bk_S) (J := fun a => bk_At lyC w X 44 [(2, .int a4.1), (0, .ref (bk_r w b)), (1, .ref (bk_r w s1))] [] a) (fun a9 => ?_) (fun K8 hK8 => ?_)
      · refine bk_aload_n hX 2 dX1_run_44 rfl ?_
        refine bk_getr hX hs1.1 rfl fl_X1_62 dX1_run_45 ?_
        refine bk_iload_n hX 0 dX1_run_48 rfl ?_
        refine bk_iaload hX hs1.2.2.2.2.2.2 dX1_run_49 ?_
        refine bk_r_jn (α := bk_S) (J := fun a => bk_At lyC w X 59 [(2, .int a4.1), (0, .ref (bk_r w b)), (1, .ref (bk_r w s1))] [] a) (fun a12 => ?_) (fun K11 hK11 => ?_)
        · refine bk_aload_n hX 1 dX1_run_59 rfl ?_
          refine bk_getr hX hb.1 rfl fl_X1_9 dX1_run_60 ?_
          refine bk_iconst hX bk_ci_0 dX1_run_63 ?_
          refine bk_aload_n hX 1 dX1_run_64 rfl ?_
          refine bk_getr hX hb.1 rfl fl_X1_24 dX1_run_65 ?_
          refine bk_iload_n hX 0 dX1_run_68 rfl ?_
          refine bk_bipush hX bk_cb_8 dX1_run_69 ?_
          refine bk_imul hX dX1_run_71 ?_
          refine bk_bipush hX bk_cb_8 dX1_run_72 ?_
          refine bk_copy hX hb.2.1 hb.2.2.2.2.2.1 lk_X1_69 wd_native wd_acstatic wd_system (Nat.le_of_ble_eq_true rfl) (Nat.le_of_ble_eq_true rfl) dX1_run_74 (fun σ14 => ?_)
          refine bk_iinc hX 0 (fun v15 => [(2, .int v15), (0, .ref (bk_r w b)), (1, .ref (bk_r w s1))]) dX1_run_77 rfl bk_ci_1 (Nat.le_of_ble_eq_true rfl) (fun _ => rfl) (fun v15 => ?_)
          refine bk_goto hX 7 dX1_run_80 rfl ?_
          exact bk_pick [0, 1, 2] rfl (hK3 (v15, σ14))
        · refine bk_if_ne hX 59 dX1_run_50 rfl ?_ ?_
          · exact bk_pick [0, 1, 2] rfl (hK11 a9)
          · refine bk_aload_n hX 1 dX1_run_53 rfl ?_
            refine bk_aload_n hX 2 dX1_run_54 rfl ?_
            refine bk_iload_n hX 0 dX1_run_55 rfl ?_
            refine bk_callV_v hX [.ref (bk_r w s1), .int a4.1] [] yk_X1_doHooks yv_X1_doHooks lk_X1_65 rfl rfl hb.1 rfl rfl (Nat.le_of_ble_eq_true rfl) ⟨Nat.le_of_ble_eq_true rfl, Nat.le_of_ble_eq_true rfl⟩ dX1_run_56 (m_X1_doHooks w hb hs1) (fun σ13 => ?_)
            exact bk_pick [0, 1, 2] rfl (hK11 σ13)
      · refine bk_if_eq hX 44 dX1_run_33 rfl ?_ ?_
        · exact bk_pick [0, 1, 2] rfl (hK8 a6)
        · refine bk_aload_n hX 1 dX1_run_36 rfl ?_
          refine bk_aload_n hX 2 dX1_run_37 rfl ?_
          refine bk_geti hX hs1.1 rfl fl_X1_53 dX1_run_38 ?_
          refine bk_callV_v hX [.int (a6 s1 1)] [] yk_X1_heatUp yv_X1_heatUp lk_X1_58 rfl rfl hb.1 rfl rfl (Nat.le_of_ble_eq_true rfl) ⟨Nat.le_of_ble_eq_true rfl, Nat.le_of_ble_eq_true rfl⟩ dX1_run_41 (m_X1_heatUp w hb) (fun σ10 => ?_)
          exact bk_pick [0, 1, 2] rfl (hK8 σ10)
    · refine bk_if_le hX 25 dX1_run_14 rfl ?_ ?_
      · exact bk_pick [0, 1, 2] rfl (hK5 a4.2)
      · refine bk_aload_n hX 1 dX1_run_17 rfl ?_
        refine bk_aload_n hX 2 dX1_run_18 rfl ?_
        refine bk_geti hX hs1.1 rfl fl_X1_53 dX1_run_19 ?_
        refine bk_callV_v hX [.int (a4.2 s1 1)] [] yk_X1_heatUp yv_X1_heatUp lk_X1_58 rfl rfl hb.1 rfl rfl (Nat.le_of_ble_eq_true rfl) ⟨Nat.le_of_ble_eq_true rfl, Nat.le_of_ble_eq_true rfl⟩ dX1_run_22 (m_X1_heatUp w hb) (fun σ7 => ?_)
        exact bk_pick [0, 1, 2] rfl (hK5 σ7)

def w_X1_settledBehind (b : Nat) (x1 : Int32) (σ : bk_S) (post : Int32 → Prop) : Prop :=
  bk_lt (α := Int32) (0 : Int32) fun v1 =>
  bk_lt (α := Int32) (0 : Int32) fun v2 =>
  bk_loop (α := Int32 × Int32) (fun K3 a4 =>
    ((8 : Int32) ≤ a4.2 → post a4.1) ∧ (¬ (8 : Int32) ≤ a4.2 → (vp_in a4.2 8 ∧ ((σ (b + 2) (Int32.toNatClampNeg a4.2)) = (-1 : Int32) → (bk_lt (α := Int32) (a4.2 + (1 : Int32)) fun v5 =>
    K3 (a4.1, v5))) ∧ (¬ (σ (b + 2) (Int32.toNatClampNeg a4.2)) = (-1 : Int32) → (vp_in a4.2 8 ∧ (x1 < (σ (b + 2) (Int32.toNatClampNeg a4.2)) → (bk_lt (α := Int32) (a4.2 + (1 : Int32)) fun v6 =>
    K3 (a4.1, v6))) ∧ (¬ x1 < (σ (b + 2) (Int32.toNatClampNeg a4.2)) → (bk_lt (α := Int32) (a4.1 ||| ((1 : Int32) <<< (a4.2 &&& 31))) fun v7 =>
    bk_lt (α := Int32) (a4.2 + (1 : Int32)) fun v8 =>
    K3 (v7, v8)))))))) (v1, v2)
set_option maxRecDepth 20000 in
theorem m_X1_settledBehind (w : bk_W) {b : Nat} {x1 : Int32} (hb : bk_crs b) {σ : bk_S} {post : Int32 → Prop} : w_X1_settledBehind b x1 σ post → bk_Mi lyC w yX1_settledBehind cX1_settledBehind 4 .int 0 0 [.ref (bk_r w b), .int x1] σ (fun r σ1 => post r ∧ σ1 = σ) := by
  intro h0
  refine bk_mi (by decide) (Nat.le_of_ble_eq_true rfl) (fun X hX hret => ?_)
  revert h0
  unfold w_X1_settledBehind
  show _ → bk_At lyC w X 0 [(0, .ref (bk_r w b)), (1, .int x1)] [] σ
  refine bk_iconst hX bk_ci_0 dX1_settledBehind_0 ?_
  refine bk_istore_n hX (fun v1 => [(2, .int v1), (0, .ref (bk_r w b)), (1, .int x1)]) dX1_settledBehind_1 (Nat.le_of_ble_eq_true rfl) (fun _ => rfl) (fun v1 => ?_)
  refine bk_iconst hX bk_ci_0 dX1_settledBehind_2 ?_
  refine bk_istore_n hX (fun v2 => [(3, .int v2), (2, .int v1), (0, .ref (bk_r w b)), (1, .int x1)]) dX1_settledBehind_3 (Nat.le_of_ble_eq_true rfl) (fun _ => rfl) (fun v2 => ?_)
  refine bk_pick [0, 1, 2, 3] rfl (bk_r_loop (α := Int32 × Int32) (J := fun a => bk_At lyC w X 4 [(3, .int a.2), (2, .int a.1), (0, .ref (bk_r w b)), (1, .int x1)] [] σ) (v1, v2) (fun K3 hK3 a4 => ?_))
  refine bk_iload_n hX 0 dX1_settledBehind_4 rfl ?_
  refine bk_bipush hX bk_cb_8 dX1_settledBehind_5 ?_
  refine bk_icmp_ge hX 42 dX1_settledBehind_7 rfl ?_ ?_
  · refine bk_iload_n hX 1 dX1_settledBehind_42 rfl ?_
    exact fun z => hret _ _ _ _ dX1_settledBehind_43 rfl ⟨z, rfl⟩
  · refine bk_aload_n hX 2 dX1_settledBehind_10 rfl ?_
    refine bk_getr hX hb.1 rfl fl_X1_15 dX1_settledBehind_11 ?_
    refine bk_iload_n hX 0 dX1_settledBehind_14 rfl ?_
    refine bk_iaload hX hb.2.2.1 dX1_settledBehind_15 ?_
    refine bk_iconst hX bk_ci_m1 dX1_settledBehind_16 ?_
    refine bk_icmp_eq hX 36 dX1_settledBehind_17 rfl ?_ ?_
    · refine bk_iinc hX 0 (fun v5 => [(3, .int v5), (2, .int a4.1), (0, .ref (bk_r w b)), (1, .int x1)]) dX1_settledBehind_36 rfl bk_ci_1 (Nat.le_of_ble_eq_true rfl) (fun _ => rfl) (fun v5 => ?_)
      refine bk_goto hX 4 dX1_settledBehind_39 rfl ?_
      exact bk_pick [0, 1, 2, 3] rfl (hK3 (a4.1, v5))
    · refine bk_aload_n hX 2 dX1_settledBehind_20 rfl ?_
      refine bk_getr hX hb.1 rfl fl_X1_15 dX1_settledBehind_21 ?_
      refine bk_iload_n hX 0 dX1_settledBehind_24 rfl ?_
      refine bk_iaload hX hb.2.2.1 dX1_settledBehind_25 ?_
      refine bk_iload_n hX 3 dX1_settledBehind_26 rfl ?_
      refine bk_icmp_gt hX 36 dX1_settledBehind_27 rfl ?_ ?_
      · refine bk_iinc hX 0 (fun v6 => [(3, .int v6), (2, .int a4.1), (0, .ref (bk_r w b)), (1, .int x1)]) dX1_settledBehind_36 rfl bk_ci_1 (Nat.le_of_ble_eq_true rfl) (fun _ => rfl) (fun v6 => ?_)
        refine bk_goto hX 4 dX1_settledBehind_39 rfl ?_
        exact bk_pick [0, 1, 2, 3] rfl (hK3 (a4.1, v6))
      · refine bk_iload_n hX 1 dX1_settledBehind_30 rfl ?_
        refine bk_iconst hX bk_ci_1 dX1_settledBehind_31 ?_
        refine bk_iload_n hX 0 dX1_settledBehind_32 rfl ?_
        refine bk_ishl hX dX1_settledBehind_33 ?_
        refine bk_ior hX dX1_settledBehind_34 ?_
        refine bk_istore_n hX (fun v7 => [(2, .int v7), (3, .int a4.2), (0, .ref (bk_r w b)), (1, .int x1)]) dX1_settledBehind_35 (Nat.le_of_ble_eq_true rfl) (fun _ => rfl) (fun v7 => ?_)
        refine bk_iinc hX 1 (fun v8 => [(3, .int v8), (2, .int v7), (0, .ref (bk_r w b)), (1, .int x1)]) dX1_settledBehind_36 rfl bk_ci_1 (Nat.le_of_ble_eq_true rfl) (fun _ => rfl) (fun v8 => ?_)
        refine bk_goto hX 4 dX1_settledBehind_39 rfl ?_
        exact bk_pick [0, 1, 2, 3] rfl (hK3 (v7, v8))

def w_X1_firstPeace (b : Nat) (x1 : Int32) (σ : bk_S) (post : Int32 → Prop) : Prop :=
  bk_lt (α := Int32) (0 : Int32) fun v1 =>
  bk_loop (α := Int32) (fun K2 a3 =>
    ((12 : Int32) ≤ a3 → post (-1 : Int32)) ∧ (¬ (12 : Int32) ≤ a3 → (w_X1_settledBehind b a3 σ (fun r4 =>
      (¬ r4 = x1 → (bk_lt (α := Int32) (a3 + (1 : Int32)) fun v5 =>
      K2 v5)) ∧ (r4 = x1 → post a3))))) v1
set_option maxRecDepth 20000 in
theorem m_X1_firstPeace (w : bk_W) {b : Nat} {x1 : Int32} (hb : bk_crs b) {σ : bk_S} {post : Int32 → Prop} : w_X1_firstPeace b x1 σ post → bk_Mi lyC w yX1_firstPeace cX1_firstPeace 3 .int 1 23 [.ref (bk_r w b), .int x1] σ (fun r σ1 => post r ∧ σ1 = σ) := by
  intro h0
  refine bk_mi (by decide) (Nat.le_of_ble_eq_true rfl) (fun X hX hret => ?_)
  revert h0
  unfold w_X1_firstPeace
  show _ → bk_At lyC w X 0 [(0, .ref (bk_r w b)), (1, .int x1)] [] σ
  refine bk_iconst hX bk_ci_0 dX1_firstPeace_0 ?_
  refine bk_istore_n hX (fun v1 => [(2, .int v1), (0, .ref (bk_r w b)), (1, .int x1)]) dX1_firstPeace_1 (Nat.le_of_ble_eq_true rfl) (fun _ => rfl) (fun v1 => ?_)
  refine bk_pick [0, 1, 2] rfl (bk_r_loop (α := Int32) (J := fun a => bk_At lyC w X 2 [(2, .int a), (0, .ref (bk_r w b)), (1, .int x1)] [] σ) v1 (fun K2 hK2 a3 => ?_))
  refine bk_iload_n hX 0 dX1_firstPeace_2 rfl ?_
  refine bk_bipush hX bk_cb_12 dX1_firstPeace_3 ?_
  refine bk_icmp_ge hX 25 dX1_firstPeace_5 rfl ?_ ?_
  · refine bk_iconst hX bk_ci_m1 dX1_firstPeace_25 ?_
    exact fun z => hret _ _ _ _ dX1_firstPeace_26 rfl ⟨z, rfl⟩
  · refine bk_aload_n hX 1 dX1_firstPeace_8 rfl ?_
    refine bk_iload_n hX 0 dX1_firstPeace_9 rfl ?_
    refine bk_callV_i hX [.int a3] [] yk_X1_settledBehind yv_X1_settledBehind lk_X1_114 rfl rfl hb.1 rfl rfl (Nat.le_of_ble_eq_true rfl) ⟨Nat.le_of_ble_eq_true rfl, Nat.le_of_ble_eq_true rfl⟩ dX1_firstPeace_10 (m_X1_settledBehind w hb) (bk_pu (fun r4 => ?_))
    refine bk_iload_n hX 2 dX1_firstPeace_13 rfl ?_
    refine bk_icmp_ne hX 19 dX1_firstPeace_14 rfl ?_ ?_
    · refine bk_iinc hX 0 (fun v5 => [(2, .int v5), (0, .ref (bk_r w b)), (1, .int x1)]) dX1_firstPeace_19 rfl bk_ci_1 (Nat.le_of_ble_eq_true rfl) (fun _ => rfl) (fun v5 => ?_)
      refine bk_goto hX 2 dX1_firstPeace_22 rfl ?_
      exact bk_pick [0, 1, 2] rfl (hK2 v5)
    · refine bk_iload_n hX 0 dX1_firstPeace_17 rfl ?_
      exact fun z => hret _ _ _ _ dX1_firstPeace_18 rfl ⟨z, rfl⟩

def w_X1_thingSaidMost (b : Nat) (σ : bk_S) (post : Int32 → Prop) : Prop :=
  bk_lt (α := Int32) (-1 : Int32) fun v1 =>
  bk_lt (α := Int32) (0 : Int32) fun v2 =>
  bk_lt (α := Int32) (0 : Int32) fun v3 =>
  bk_loop (α := Int32 × Int32 × Int32) (fun K4 a5 =>
    ((8 : Int32) ≤ a5.2.2 → post a5.1) ∧ (¬ (8 : Int32) ≤ a5.2.2 → (vp_in a5.2.2 8 ∧ ((σ (b + 4) (Int32.toNatClampNeg a5.2.2)) ≤ a5.2.1 → (bk_lt (α := Int32) (a5.2.2 + (1 : Int32)) fun v6 =>
    K4 (a5.1, a5.2.1, v6))) ∧ (¬ (σ (b + 4) (Int32.toNatClampNeg a5.2.2)) ≤ a5.2.1 → (vp_in a5.2.2 8 ∧ bk_lt (α := Int32) (σ (b + 4) (Int32.toNatClampNeg a5.2.2)) fun v7 =>
    bk_lt (α := Int32) a5.2.2 fun v8 =>
    bk_lt (α := Int32) (a5.2.2 + (1 : Int32)) fun v9 =>
    K4 (v8, v7, v9)))))) (v1, v2, v3)
set_option maxRecDepth 20000 in
theorem m_X1_thingSaidMost (w : bk_W) {b : Nat} (hb : bk_crs b) {σ : bk_S} {post : Int32 → Prop} : w_X1_thingSaidMost b σ post → bk_Mi lyC w yX1_thingSaidMost cX1_thingSaidMost 4 .int 0 0 [.ref (bk_r w b)] σ (fun r σ1 => post r ∧ σ1 = σ) := by
  intro h0
  refine bk_mi (by decide) (Nat.le_of_ble_eq_true rfl) (fun X hX hret => ?_)
  revert h0
  unfold w_X1_thingSaidMost
  show _ → bk_At lyC w X 0 [(0, .ref (bk_r w b))] [] σ
  refine bk_iconst hX bk_ci_m1 dX1_thingSaidMost_0 ?_
  refine bk_istore_n hX (fun v1 => [(1, .int v1), (0, .ref (bk_r w b))]) dX1_thingSaidMost_1 (Nat.le_of_ble_eq_true rfl) (fun _ => rfl) (fun v1 => ?_)
  refine bk_iconst hX bk_ci_0 dX1_thingSaidMost_2 ?_
  refine bk_istore_n hX (fun v2 => [(2, .int v2), (1, .int v1), (0, .ref (bk_r w b))]) dX1_thingSaidMost_3 (Nat.le_of_ble_eq_true rfl) (fun _ => rfl) (fun v2 => ?_)
  refine bk_iconst hX bk_ci_0 dX1_thingSaidMost_4 ?_
  refine bk_istore_n hX (fun v3 => [(3, .int v3), (2, .int v2), (1, .int v1), (0, .ref (bk_r w b))]) dX1_thingSaidMost_5 (Nat.le_of_ble_eq_true rfl) (fun _ => rfl) (fun v3 => ?_)
  refine bk_pick [0, 1, 2, 3] rfl (bk_r_loop (α := Int32 × Int32 × Int32) (J := fun a => bk_At lyC w X 6 [(3, .int a.2.2), (2, .int a.2.1), (1, .int a.1), (0, .ref (bk_r w b))] [] σ) (v1, v2, v3) (fun K4 hK4 a5 => ?_))
  refine bk_iload_n hX 0 dX1_thingSaidMost_6 rfl ?_
  refine bk_bipush hX bk_cb_8 dX1_thingSaidMost_7 ?_
  refine bk_icmp_ge hX 37 dX1_thingSaidMost_9 rfl ?_ ?_
  · refine bk_iload_n hX 2 dX1_thingSaidMost_37 rfl ?_
    exact fun z => hret _ _ _ _ dX1_thingSaidMost_38 rfl ⟨z, rfl⟩
  · refine bk_aload_n hX 3 dX1_thingSaidMost_12 rfl ?_
    refine bk_getr hX hb.1 rfl fl_X1_21 dX1_thingSaidMost_13 ?_
    refine bk_iload_n hX 0 dX1_thingSaidMost_16 rfl ?_
    refine bk_iaload hX hb.2.2.2.2.1 dX1_thingSaidMost_17 ?_
    refine bk_iload_n hX 1 dX1_thingSaidMost_18 rfl ?_
    refine bk_icmp_le hX 31 dX1_thingSaidMost_19 rfl ?_ ?_
    · refine bk_iinc hX 0 (fun v6 => [(3, .int v6), (2, .int a5.2.1), (1, .int a5.1), (0, .ref (bk_r w b))]) dX1_thingSaidMost_31 rfl bk_ci_1 (Nat.le_of_ble_eq_true rfl) (fun _ => rfl) (fun v6 => ?_)
      refine bk_goto hX 6 dX1_thingSaidMost_34 rfl ?_
      exact bk_pick [0, 1, 2, 3] rfl (hK4 (a5.1, a5.2.1, v6))
    · refine bk_aload_n hX 3 dX1_thingSaidMost_22 rfl ?_
      refine bk_getr hX hb.1 rfl fl_X1_21 dX1_thingSaidMost_23 ?_
      refine bk_iload_n hX 0 dX1_thingSaidMost_26 rfl ?_
      refine bk_iaload hX hb.2.2.2.2.1 dX1_thingSaidMost_27 ?_
      refine bk_istore_n hX (fun v7 => [(2, .int v7), (3, .int a5.2.2), (1, .int a5.1), (0, .ref (bk_r w b))]) dX1_thingSaidMost_28 (Nat.le_of_ble_eq_true rfl) (fun _ => rfl) (fun v7 => ?_)
      refine bk_iload_n hX 1 dX1_thingSaidMost_29 rfl ?_
      refine bk_istore_n hX (fun v8 => [(1, .int v8), (2, .int v7), (3, .int a5.2.2), (0, .ref (bk_r w b))]) dX1_thingSaidMost_30 (Nat.le_of_ble_eq_true rfl) (fun _ => rfl) (fun v8 => ?_)
      refine bk_iinc hX 2 (fun v9 => [(3, .int v9), (1, .int v8), (2, .int v7), (0, .ref (bk_r w b))]) dX1_thingSaidMost_31 rfl bk_ci_1 (Nat.le_of_ble_eq_true rfl) (fun _ => rfl) (fun v9 => ?_)
      refine bk_goto hX 6 dX1_thingSaidMost_34 rfl ?_
      exact bk_pick [0, 2, 1, 3] rfl (hK4 (v8, v7, v9))

def w_X1_eveningAnswer (b : Nat) (x1 : Int32) (x2 : Int32) (σ : bk_S) (post : Int32 → Prop) : Prop :=
  (x2 = (0 : Int32) → (vp_in x1 12 ∧ post (σ (b + 8) (Int32.toNatClampNeg x1)))) ∧ (¬ x2 = (0 : Int32) → ((x2 = (1 : Int32) → (vp_in x1 12 ∧ post (σ (b + 9) (Int32.toNatClampNeg x1)))) ∧ (¬ x2 = (1 : Int32) → ((x2 = (2 : Int32) → (vp_in x1 12 ∧ post (σ (b + 10) (Int32.toNatClampNeg x1)))) ∧ (¬ x2 = (2 : Int32) → (vp_in x1 12 ∧ post (σ (b + 11) (Int32.toNatClampNeg x1))))))))
set_option maxRecDepth 20000 in
theorem m_X1_eveningAnswer (w : bk_W) {b : Nat} {x1 : Int32} {x2 : Int32} (hb : bk_crs b) {σ : bk_S} {post : Int32 → Prop} : w_X1_eveningAnswer b x1 x2 σ post → bk_Mi lyC w yX1_eveningAnswer cX1_eveningAnswer 3 .int 0 0 [.ref (bk_r w b), .int x1, .int x2] σ (fun r σ1 => post r ∧ σ1 = σ) := by
  intro h0
  refine bk_mi (by decide) (Nat.le_of_ble_eq_true rfl) (fun X hX hret => ?_)
  revert h0
  unfold w_X1_eveningAnswer
  show _ → bk_At lyC w X 0 [(0, .ref (bk_r w b)), (1, .int x1), (2, .int x2)] [] σ
  refine bk_iload_n hX 2 dX1_eveningAnswer_0 rfl ?_
  refine bk_case (fun he2 => ?_) (fun hn1 => ?_)
  · refine bk_swI hX 28 (0 : Int32) he2 dX1_eveningAnswer_1 (by decide +kernel) ?_
    refine bk_aload_n hX 0 dX1_eveningAnswer_28 rfl ?_
    refine bk_getr hX hb.1 rfl fl_X1_33 dX1_eveningAnswer_29 ?_
    refine bk_iload_n hX 1 dX1_eveningAnswer_32 rfl ?_
    refine bk_iaload hX hb.2.2.2.2.2.2.2.2.1 dX1_eveningAnswer_33 ?_
    exact fun z => hret _ _ _ _ dX1_eveningAnswer_34 rfl ⟨z, rfl⟩
  · refine bk_case (fun he4 => ?_) (fun hn3 => ?_)
    · refine bk_swI hX 35 (1 : Int32) he4 dX1_eveningAnswer_1 (by decide +kernel) ?_
      refine bk_aload_n hX 0 dX1_eveningAnswer_35 rfl ?_
      refine bk_getr hX hb.1 rfl fl_X1_36 dX1_eveningAnswer_36 ?_
      refine bk_iload_n hX 1 dX1_eveningAnswer_39 rfl ?_
      refine bk_iaload hX hb.2.2.2.2.2.2.2.2.2.1 dX1_eveningAnswer_40 ?_
      exact fun z => hret _ _ _ _ dX1_eveningAnswer_41 rfl ⟨z, rfl⟩
    · refine bk_case (fun he6 => ?_) (fun hn5 => ?_)
      · refine bk_swI hX 42 (2 : Int32) he6 dX1_eveningAnswer_1 (by decide +kernel) ?_
        refine bk_aload_n hX 0 dX1_eveningAnswer_42 rfl ?_
        refine bk_getr hX hb.1 rfl fl_X1_39 dX1_eveningAnswer_43 ?_
        refine bk_iload_n hX 1 dX1_eveningAnswer_46 rfl ?_
        refine bk_iaload hX hb.2.2.2.2.2.2.2.2.2.2.1 dX1_eveningAnswer_47 ?_
        exact fun z => hret _ _ _ _ dX1_eveningAnswer_48 rfl ⟨z, rfl⟩
      · refine bk_swD hX 49 dX1_eveningAnswer_1 [0, 1, 2] ⟨hn1, hn3, hn5, trivial⟩ (by decide +kernel) ?_
        refine bk_aload_n hX 0 dX1_eveningAnswer_49 rfl ?_
        refine bk_getr hX hb.1 rfl fl_X1_42 dX1_eveningAnswer_50 ?_
        refine bk_iload_n hX 1 dX1_eveningAnswer_53 rfl ?_
        refine bk_iaload hX hb.2.2.2.2.2.2.2.2.2.2.2 dX1_eveningAnswer_54 ?_
        exact fun z => hret _ _ _ _ dX1_eveningAnswer_55 rfl ⟨z, rfl⟩

def w_X1_sumAnswer (b : Nat) (x1 : Int32) (σ : bk_S) (post : Int32 → Prop) : Prop :=
  (x1 = (0 : Int32) → post (σ b 11)) ∧ (¬ x1 = (0 : Int32) → ((x1 = (1 : Int32) → (w_X8_sumOf (b + 8) 12 σ (fun r5 =>
    post r5))) ∧ (¬ x1 = (1 : Int32) → ((x1 = (2 : Int32) → (w_X8_sumOf (b + 9) 12 σ (fun r8 =>
    post r8))) ∧ (¬ x1 = (2 : Int32) → (w_X8_sumOf (b + 10) 12 σ (fun r9 =>
    post r9)))))))
set_option maxRecDepth 20000 in
theorem m_X1_sumAnswer (w : bk_W) {b : Nat} {x1 : Int32} (hb : bk_crs b) {σ : bk_S} {post : Int32 → Prop} : w_X1_sumAnswer b x1 σ post → bk_Mi lyC w yX1_sumAnswer cX1_sumAnswer 2 .int 1 25 [.ref (bk_r w b), .int x1] σ (fun r σ1 => post r ∧ σ1 = σ) := by
  intro h0
  refine bk_mi (by decide) (Nat.le_of_ble_eq_true rfl) (fun X hX hret => ?_)
  revert h0
  unfold w_X1_sumAnswer
  show _ → bk_At lyC w X 0 [(0, .ref (bk_r w b)), (1, .int x1)] [] σ
  refine bk_iload_n hX 1 dX1_sumAnswer_0 rfl ?_
  refine bk_case (fun he2 => ?_) (fun hn1 => ?_)
  · refine bk_swI hX 28 (0 : Int32) he2 dX1_sumAnswer_1 (by decide +kernel) ?_
    refine bk_aload_n hX 0 dX1_sumAnswer_28 rfl ?_
    refine bk_geti hX hb.1 rfl fl_X1_45 dX1_sumAnswer_29 ?_
    exact fun z => hret _ _ _ _ dX1_sumAnswer_32 rfl ⟨z, rfl⟩
  · refine bk_case (fun he4 => ?_) (fun hn3 => ?_)
    · refine bk_swI hX 33 (1 : Int32) he4 dX1_sumAnswer_1 (by decide +kernel) ?_
      refine bk_aload_n hX 0 dX1_sumAnswer_33 rfl ?_
      refine bk_getr hX hb.1 rfl fl_X1_33 dX1_sumAnswer_34 ?_
      refine bk_callN_i hX [.ref (bk_r w (b + 8))] [] yk_X8_sumOf ys_X8_sumOf (host := RX8) (List.mem_of_getElem? (i := 7) rfl) rfl rfl (Nat.le_of_ble_eq_true rfl) ⟨Nat.le_of_ble_eq_true rfl, Nat.le_of_ble_eq_true rfl⟩ dX1_sumAnswer_37 (m_X8_sumOf w hb.2.2.2.2.2.2.2.2.1) (bk_pu (fun r5 => ?_))
      exact fun z => hret _ _ _ _ dX1_sumAnswer_40 rfl ⟨z, rfl⟩
    · refine bk_case (fun he7 => ?_) (fun hn6 => ?_)
      · refine bk_swI hX 41 (2 : Int32) he7 dX1_sumAnswer_1 (by decide +kernel) ?_
        refine bk_aload_n hX 0 dX1_sumAnswer_41 rfl ?_
        refine bk_getr hX hb.1 rfl fl_X1_36 dX1_sumAnswer_42 ?_
        refine bk_callN_i hX [.ref (bk_r w (b + 9))] [] yk_X8_sumOf ys_X8_sumOf (host := RX8) (List.mem_of_getElem? (i := 7) rfl) rfl rfl (Nat.le_of_ble_eq_true rfl) ⟨Nat.le_of_ble_eq_true rfl, Nat.le_of_ble_eq_true rfl⟩ dX1_sumAnswer_45 (m_X8_sumOf w hb.2.2.2.2.2.2.2.2.2.1) (bk_pu (fun r8 => ?_))
        exact fun z => hret _ _ _ _ dX1_sumAnswer_48 rfl ⟨z, rfl⟩
      · refine bk_swD hX 49 dX1_sumAnswer_1 [0, 1, 2] ⟨hn1, hn3, hn6, trivial⟩ (by decide +kernel) ?_
        refine bk_aload_n hX 0 dX1_sumAnswer_49 rfl ?_
        refine bk_getr hX hb.1 rfl fl_X1_39 dX1_sumAnswer_50 ?_
        refine bk_callN_i hX [.ref (bk_r w (b + 10))] [] yk_X8_sumOf ys_X8_sumOf (host := RX8) (List.mem_of_getElem? (i := 7) rfl) rfl rfl (Nat.le_of_ble_eq_true rfl) ⟨Nat.le_of_ble_eq_true rfl, Nat.le_of_ble_eq_true rfl⟩ dX1_sumAnswer_53 (m_X8_sumOf w hb.2.2.2.2.2.2.2.2.2.2.1) (bk_pu (fun r9 => ?_))
        exact fun z => hret _ _ _ _ dX1_sumAnswer_56 rfl ⟨z, rfl⟩
