def w_X8_isText (x0 : Int32) (post : Int32 → Prop) : Prop :=
  w_X8_isBelow x0 (2 : Int32) (fun r1 =>
    narrow .boolean (.int r1) = .int r1 ∧ post r1)
set_option maxRecDepth 20000 in
theorem m_X8_isText (w : bk_W) {x0 : Int32} {σ : bk_S} {post : Int32 → Prop} : w_X8_isText x0 post → bk_Mi lyC w yX8_isText cX8_isText 1 .boolean 1 21 [.int x0] σ (fun r σ1 => post r ∧ σ1 = σ) := by
  intro h0
  refine bk_mi (by decide) (Nat.le_of_ble_eq_true rfl) (fun X hX hret => ?_)
  revert h0
  unfold w_X8_isText
  show _ → bk_At lyC w X 0 [(0, .int x0)] [] σ
  refine bk_iload_n hX 0 dX8_isText_0 rfl ?_
  refine bk_iconst hX bk_ci_2 dX8_isText_1 ?_
  refine bk_callS_i hX [.int x0, .int (2 : Int32)] [] yk_X8_isBelow ys_X8_isBelow lk_X8_133 rfl rfl (Nat.le_of_ble_eq_true rfl) ⟨Nat.le_of_ble_eq_true rfl, Nat.le_of_ble_eq_true rfl⟩ dX8_isText_2 (m_X8_isBelow w) (bk_pu (fun r1 => ?_))
  exact fun z => hret _ _ _ _ dX8_isText_5 z.1 ⟨z.2, rfl⟩

def w_X8_textOf (x1 : Int32) (σ : bk_S) (post : Nat → Prop) : Prop :=
  (¬ x1 = 0 → post 3) ∧ (x1 = 0 → post 1)
set_option maxRecDepth 20000 in
theorem m_X8_textOf (w : bk_W) {x1 : Int32} {σ : bk_S} {post : Nat → Prop} : w_X8_textOf x1 σ post → bk_Mr lyC w yX8_textOf cX8_textOf 2 (.object "BackHooks$Text") 0 0 [.ref (bk_r w 0), .int x1] σ (fun r σ1 => bk_txt r ∧ post r ∧ σ1 = σ) := by
  intro h0
  refine bk_mr (by decide) (Nat.le_of_ble_eq_true rfl) (fun X hX hret => ?_)
  revert h0
  unfold w_X8_textOf
  show _ → bk_At lyC w X 0 [(0, .ref (bk_r w 0)), (1, .int x1)] [] σ
  refine bk_iload_n hX 1 dX8_textOf_0 rfl ?_
  refine bk_if_ne hX 11 dX8_textOf_1 rfl ?_ ?_
  · refine bk_aload_n hX 0 dX8_textOf_11 rfl ?_
    refine bk_getr hX kc_0 rfl fl_X8_18 dX8_textOf_12 ?_
    exact fun z => hret _ _ _ _ dX8_textOf_15 ⟨_, rfl⟩ ⟨k_txt_3, z, rfl⟩
  · refine bk_aload_n hX 0 dX8_textOf_4 rfl ?_
    refine bk_getr hX kc_0 rfl fl_X8_14 dX8_textOf_5 ?_
    refine bk_goto hX 15 dX8_textOf_8 rfl ?_
    exact fun z => hret _ _ _ _ dX8_textOf_15 ⟨_, rfl⟩ ⟨k_txt_1, z, rfl⟩

def w_X8_noteChange (σ : bk_S) (post : bk_S → Prop) : Prop :=
  bk_lt (α := bk_S) (bk_u σ 0 13 (1 : Int32)) fun σ1 =>
  bk_lt (α := bk_S) (bk_u σ1 0 14 (1 : Int32)) fun σ2 =>
  post σ2
set_option maxRecDepth 20000 in
theorem m_X8_noteChange (w : bk_W) {σ : bk_S} {post : bk_S → Prop} : w_X8_noteChange σ post → bk_Mv lyC w yX8_noteChange cX8_noteChange 1 0 0 [.ref (bk_r w 0)] σ post := by
  intro h0
  refine bk_mv (by decide) (Nat.le_of_ble_eq_true rfl) (fun X hX hret => ?_)
  revert h0
  unfold w_X8_noteChange
  show _ → bk_At lyC w X 0 [(0, .ref (bk_r w 0))] [] σ
  refine bk_aload_n hX 0 dX8_noteChange_0 rfl ?_
  refine bk_iconst hX bk_ci_1 dX8_noteChange_1 ?_
  refine bk_putZ hX kc_0 rfl fp_X8_82 rfl rfl dX8_noteChange_2 (fun σ1 => ?_)
  refine bk_aload_n hX 0 dX8_noteChange_5 rfl ?_
  refine bk_iconst hX bk_ci_1 dX8_noteChange_6 ?_
  refine bk_putZ hX kc_0 rfl fp_X8_86 rfl rfl dX8_noteChange_7 (fun σ2 => ?_)
  exact fun z => hret _ _ _ dX8_noteChange_10 z

def w_X8_type (x1 : Int32) (x2 : Int32) (σ : bk_S) (post : Int32 → bk_S → Prop) : Prop :=
  w_X8_isText x1 (fun r1 =>
    (r1 = 0 → post (-2 : Int32) σ) ∧ (¬ r1 = 0 → ((x2 < 0 → post (-2 : Int32) σ) ∧ (¬ x2 < 0 → ((x2 ≤ (255 : Int32) → (w_X8_textOf x1 σ (fun r2 =>
      ((σ r2 2) < (σ r2 1) → (vp_in (σ r2 2) 31 ∧ bk_lt (α := bk_S) (bk_u σ (r2 + 1) (Int32.toNatClampNeg (σ r2 2)) x2) fun σ4 =>
      bk_lt (α := bk_S) (bk_u σ4 r2 2 ((σ4 r2 2) + (1 : Int32))) fun σ5 =>
      w_X8_noteChange σ5 (fun σ6 =>
        post (σ6 r2 2) σ6))) ∧ (¬ (σ r2 2) < (σ r2 1) → post (-4 : Int32) σ)))) ∧ (¬ x2 ≤ (255 : Int32) → post (-2 : Int32) σ))))))
set_option maxRecDepth 20000 in
theorem m_X8_type (w : bk_W) {x1 : Int32} {x2 : Int32} {σ : bk_S} {post : Int32 → bk_S → Prop} : w_X8_type x1 x2 σ post → bk_Mi lyC w yX8_type cX8_type 4 .int 2 41 [.ref (bk_r w 0), .int x1, .int x2] σ post := by
  intro h0
  refine bk_mi (by decide) (Nat.le_of_ble_eq_true rfl) (fun X hX hret => ?_)
  revert h0
  unfold w_X8_type
  show _ → bk_At lyC w X 0 [(0, .ref (bk_r w 0)), (1, .int x1), (2, .int x2)] [] σ
  refine bk_iload_n hX 1 dX8_type_0 rfl ?_
  refine bk_callS_i hX [.int x1] [] yk_X8_isText ys_X8_isText lk_X8_94 rfl rfl (Nat.le_of_ble_eq_true rfl) ⟨Nat.le_of_ble_eq_true rfl, Nat.le_of_ble_eq_true rfl⟩ dX8_type_1 (m_X8_isText w) (bk_pu (fun r1 => ?_))
  refine bk_if_eq hX 18 dX8_type_4 rfl ?_ ?_
  · refine bk_bipush hX bk_cb_m2 dX8_type_18 ?_
    exact fun z => hret _ _ _ _ dX8_type_20 rfl z
  · refine bk_iload_n hX 2 dX8_type_7 rfl ?_
    refine bk_if_lt hX 18 dX8_type_8 rfl ?_ ?_
    · refine bk_bipush hX bk_cb_m2 dX8_type_18 ?_
      exact fun z => hret _ _ _ _ dX8_type_20 rfl z
    · refine bk_iload_n hX 2 dX8_type_11 rfl ?_
      refine bk_sipush hX bk_cs_255 dX8_type_12 ?_
      refine bk_icmp_le hX 21 dX8_type_15 rfl ?_ ?_
      · refine bk_aload_n hX 0 dX8_type_21 rfl ?_
        refine bk_iload_n hX 1 dX8_type_22 rfl ?_
        refine bk_callV_r hX [.int x1] [] yk_X8_textOf yv_X8_textOf lk_X8_98 rfl rfl kc_0 rfl rfl (Nat.le_of_ble_eq_true rfl) ⟨Nat.le_of_ble_eq_true rfl, Nat.le_of_ble_eq_true rfl⟩ dX8_type_23 (m_X8_textOf w) (bk_pr (fun r2 hr3 => ?_))
        refine bk_astore_n hX [(3, .ref (bk_r w r2)), (0, .ref (bk_r w 0)), (1, .int x1), (2, .int x2)] dX8_type_26 (Nat.le_of_ble_eq_true rfl) rfl ?_
        refine bk_aload_n hX 0 dX8_type_27 rfl ?_
        refine bk_geti hX hr3.1 rfl fl_X8_102 dX8_type_28 ?_
        refine bk_aload_n hX 0 dX8_type_31 rfl ?_
        refine bk_geti hX hr3.1 rfl fl_X8_105 dX8_type_32 ?_
        refine bk_icmp_lt hX 41 dX8_type_35 rfl ?_ ?_
        · refine bk_aload_n hX 0 dX8_type_41 rfl ?_
          refine bk_getr hX hr3.1 rfl fl_X8_108 dX8_type_42 ?_
          refine bk_aload_n hX 0 dX8_type_45 rfl ?_
          refine bk_geti hX hr3.1 rfl fl_X8_102 dX8_type_46 ?_
          refine bk_iload_n hX 3 dX8_type_49 rfl ?_
          refine bk_iastore hX hr3.2 dX8_type_50 (fun σ4 => ?_)
          refine bk_aload_n hX 0 dX8_type_51 rfl ?_
          refine bk_dup hX rfl dX8_type_52 ?_
          refine bk_geti hX hr3.1 rfl fl_X8_102 dX8_type_53 ?_
          refine bk_iconst hX bk_ci_1 dX8_type_56 ?_
          refine bk_iadd hX dX8_type_57 ?_
          refine bk_putI hX hr3.1 rfl fp_X8_102 dX8_type_58 (fun σ5 => ?_)
          refine bk_aload_n hX 1 dX8_type_61 rfl ?_
          refine bk_callV_v hX [] [] yk_X8_noteChange yv_X8_noteChange lk_X8_111 rfl rfl kc_0 rfl rfl (Nat.le_of_ble_eq_true rfl) ⟨Nat.le_of_ble_eq_true rfl, Nat.le_of_ble_eq_true rfl⟩ dX8_type_62 (m_X8_noteChange w) (fun σ6 => ?_)
          refine bk_aload_n hX 0 dX8_type_65 rfl ?_
          refine bk_geti hX hr3.1 rfl fl_X8_102 dX8_type_66 ?_
          exact fun z => hret _ _ _ _ dX8_type_69 rfl z
        · refine bk_bipush hX bk_cb_m4 dX8_type_38 ?_
          exact fun z => hret _ _ _ _ dX8_type_40 rfl z
      · refine bk_bipush hX bk_cb_m2 dX8_type_18 ?_
        exact fun z => hret _ _ _ _ dX8_type_20 rfl z

def w_X8_wipe (x1 : Int32) (σ : bk_S) (post : Int32 → bk_S → Prop) : Prop :=
  w_X8_isText x1 (fun r1 =>
    (¬ r1 = 0 → (w_X8_textOf x1 σ (fun r2 =>
      bk_lt (α := Int32) (σ r2 2) fun v4 =>
      bk_lt (α := bk_S) (bk_u σ r2 2 (0 : Int32)) fun σ5 =>
      w_X8_noteChange σ5 (fun σ6 =>
        post v4 σ6)))) ∧ (r1 = 0 → post (-2 : Int32) σ))
set_option maxRecDepth 20000 in
theorem m_X8_wipe (w : bk_W) {x1 : Int32} {σ : bk_S} {post : Int32 → bk_S → Prop} : w_X8_wipe x1 σ post → bk_Mi lyC w yX8_wipe cX8_wipe 4 .int 2 41 [.ref (bk_r w 0), .int x1] σ post := by
  intro h0
  refine bk_mi (by decide) (Nat.le_of_ble_eq_true rfl) (fun X hX hret => ?_)
  revert h0
  unfold w_X8_wipe
  show _ → bk_At lyC w X 0 [(0, .ref (bk_r w 0)), (1, .int x1)] [] σ
  refine bk_iload_n hX 1 dX8_wipe_0 rfl ?_
  refine bk_callS_i hX [.int x1] [] yk_X8_isText ys_X8_isText lk_X8_94 rfl rfl (Nat.le_of_ble_eq_true rfl) ⟨Nat.le_of_ble_eq_true rfl, Nat.le_of_ble_eq_true rfl⟩ dX8_wipe_1 (m_X8_isText w) (bk_pu (fun r1 => ?_))
  refine bk_if_ne hX 10 dX8_wipe_4 rfl ?_ ?_
  · refine bk_aload_n hX 0 dX8_wipe_10 rfl ?_
    refine bk_iload_n hX 1 dX8_wipe_11 rfl ?_
    refine bk_callV_r hX [.int x1] [] yk_X8_textOf yv_X8_textOf lk_X8_98 rfl rfl kc_0 rfl rfl (Nat.le_of_ble_eq_true rfl) ⟨Nat.le_of_ble_eq_true rfl, Nat.le_of_ble_eq_true rfl⟩ dX8_wipe_12 (m_X8_textOf w) (bk_pr (fun r2 hr3 => ?_))
    refine bk_astore_n hX [(2, .ref (bk_r w r2)), (0, .ref (bk_r w 0)), (1, .int x1)] dX8_wipe_15 (Nat.le_of_ble_eq_true rfl) rfl ?_
    refine bk_aload_n hX 0 dX8_wipe_16 rfl ?_
    refine bk_geti hX hr3.1 rfl fl_X8_102 dX8_wipe_17 ?_
    refine bk_istore_n hX (fun v4 => [(3, .int v4), (2, .ref (bk_r w r2)), (0, .ref (bk_r w 0)), (1, .int x1)]) dX8_wipe_20 (Nat.le_of_ble_eq_true rfl) (fun _ => rfl) (fun v4 => ?_)
    refine bk_aload_n hX 1 dX8_wipe_21 rfl ?_
    refine bk_iconst hX bk_ci_0 dX8_wipe_22 ?_
    refine bk_putI hX hr3.1 rfl fp_X8_102 dX8_wipe_23 (fun σ5 => ?_)
    refine bk_aload_n hX 2 dX8_wipe_26 rfl ?_
    refine bk_callV_v hX [] [] yk_X8_noteChange yv_X8_noteChange lk_X8_111 rfl rfl kc_0 rfl rfl (Nat.le_of_ble_eq_true rfl) ⟨Nat.le_of_ble_eq_true rfl, Nat.le_of_ble_eq_true rfl⟩ dX8_wipe_27 (m_X8_noteChange w) (fun σ6 => ?_)
    refine bk_iload_n hX 0 dX8_wipe_30 rfl ?_
    exact fun z => hret _ _ _ _ dX8_wipe_31 rfl z
  · refine bk_bipush hX bk_cb_m2 dX8_wipe_7 ?_
    exact fun z => hret _ _ _ _ dX8_wipe_9 rfl z

def w_X8_undo (x1 : Int32) (σ : bk_S) (post : Int32 → bk_S → Prop) : Prop :=
  w_X8_isText x1 (fun r1 =>
    (¬ r1 = 0 → (w_X8_textOf x1 σ (fun r2 =>
      (¬ (σ r2 2) = 0 → (bk_lt (α := bk_S) (bk_u σ r2 2 ((σ r2 2) - (1 : Int32))) fun σ4 =>
      w_X8_noteChange σ4 (fun σ5 =>
        post (σ5 r2 2) σ5))) ∧ ((σ r2 2) = 0 → post (-3 : Int32) σ)))) ∧ (r1 = 0 → post (-2 : Int32) σ))
set_option maxRecDepth 20000 in
theorem m_X8_undo (w : bk_W) {x1 : Int32} {σ : bk_S} {post : Int32 → bk_S → Prop} : w_X8_undo x1 σ post → bk_Mi lyC w yX8_undo cX8_undo 3 .int 2 41 [.ref (bk_r w 0), .int x1] σ post := by
  intro h0
  refine bk_mi (by decide) (Nat.le_of_ble_eq_true rfl) (fun X hX hret => ?_)
  revert h0
  unfold w_X8_undo
  show _ → bk_At lyC w X 0 [(0, .ref (bk_r w 0)), (1, .int x1)] [] σ
  refine bk_iload_n hX 1 dX8_undo_0 rfl ?_
  refine bk_callS_i hX [.int x1] [] yk_X8_isText ys_X8_isText lk_X8_94 rfl rfl (Nat.le_of_ble_eq_true rfl) ⟨Nat.le_of_ble_eq_true rfl, Nat.le_of_ble_eq_true rfl⟩ dX8_undo_1 (m_X8_isText w) (bk_pu (fun r1 => ?_))
  refine bk_if_ne hX 10 dX8_undo_4 rfl ?_ ?_
  · refine bk_aload_n hX 0 dX8_undo_10 rfl ?_
    refine bk_iload_n hX 1 dX8_undo_11 rfl ?_
    refine bk_callV_r hX [.int x1] [] yk_X8_textOf yv_X8_textOf lk_X8_98 rfl rfl kc_0 rfl rfl (Nat.le_of_ble_eq_true rfl) ⟨Nat.le_of_ble_eq_true rfl, Nat.le_of_ble_eq_true rfl⟩ dX8_undo_12 (m_X8_textOf w) (bk_pr (fun r2 hr3 => ?_))
    refine bk_astore_n hX [(2, .ref (bk_r w r2)), (0, .ref (bk_r w 0)), (1, .int x1)] dX8_undo_15 (Nat.le_of_ble_eq_true rfl) rfl ?_
    refine bk_aload_n hX 0 dX8_undo_16 rfl ?_
    refine bk_geti hX hr3.1 rfl fl_X8_102 dX8_undo_17 ?_
    refine bk_if_ne hX 26 dX8_undo_20 rfl ?_ ?_
    · refine bk_aload_n hX 0 dX8_undo_26 rfl ?_
      refine bk_dup hX rfl dX8_undo_27 ?_
      refine bk_geti hX hr3.1 rfl fl_X8_102 dX8_undo_28 ?_
      refine bk_iconst hX bk_ci_1 dX8_undo_31 ?_
      refine bk_isub hX dX8_undo_32 ?_
      refine bk_putI hX hr3.1 rfl fp_X8_102 dX8_undo_33 (fun σ4 => ?_)
      refine bk_aload_n hX 1 dX8_undo_36 rfl ?_
      refine bk_callV_v hX [] [] yk_X8_noteChange yv_X8_noteChange lk_X8_111 rfl rfl kc_0 rfl rfl (Nat.le_of_ble_eq_true rfl) ⟨Nat.le_of_ble_eq_true rfl, Nat.le_of_ble_eq_true rfl⟩ dX8_undo_37 (m_X8_noteChange w) (fun σ5 => ?_)
      refine bk_aload_n hX 0 dX8_undo_40 rfl ?_
      refine bk_geti hX hr3.1 rfl fl_X8_102 dX8_undo_41 ?_
      exact fun z => hret _ _ _ _ dX8_undo_44 rfl z
    · refine bk_bipush hX bk_cb_m3 dX8_undo_23 ?_
      exact fun z => hret _ _ _ _ dX8_undo_25 rfl z
  · refine bk_bipush hX bk_cb_m2 dX8_undo_7 ?_
    exact fun z => hret _ _ _ _ dX8_undo_9 rfl z

def w_X8_fault (x1 : Int32) (σ : bk_S) (post : Int32 → Prop) : Prop :=
  w_X8_isText x1 (fun r1 =>
    (¬ r1 = 0 → ((¬ x1 = 0 → (w_X6_faultOfThings 3 σ (fun r2 =>
      post r2))) ∧ (x1 = 0 → (w_X6_faultOfHooks 1 σ (fun r3 =>
      post r3))))) ∧ (r1 = 0 → post (-2 : Int32)))
set_option maxRecDepth 20000 in
theorem m_X8_fault (w : bk_W) {x1 : Int32} {σ : bk_S} {post : Int32 → Prop} : w_X8_fault x1 σ post → bk_Mi lyC w yX8_fault cX8_fault 2 .int 3 62 [.ref (bk_r w 0), .int x1] σ (fun r σ1 => post r ∧ σ1 = σ) := by
  intro h0
  refine bk_mi (by decide) (Nat.le_of_ble_eq_true rfl) (fun X hX hret => ?_)
  revert h0
  unfold w_X8_fault
  show _ → bk_At lyC w X 0 [(0, .ref (bk_r w 0)), (1, .int x1)] [] σ
  refine bk_iload_n hX 1 dX8_fault_0 rfl ?_
  refine bk_callS_i hX [.int x1] [] yk_X8_isText ys_X8_isText lk_X8_94 rfl rfl (Nat.le_of_ble_eq_true rfl) ⟨Nat.le_of_ble_eq_true rfl, Nat.le_of_ble_eq_true rfl⟩ dX8_fault_1 (m_X8_isText w) (bk_pu (fun r1 => ?_))
  refine bk_if_ne hX 10 dX8_fault_4 rfl ?_ ?_
  · refine bk_iload_n hX 1 dX8_fault_10 rfl ?_
    refine bk_if_ne hX 24 dX8_fault_11 rfl ?_ ?_
    · refine bk_aload_n hX 0 dX8_fault_24 rfl ?_
      refine bk_getr hX kc_0 rfl fl_X8_18 dX8_fault_25 ?_
      refine bk_callV_i hX [] [] yk_X6_faultOfThings yv_X6_faultOfThings lk_X8_118 rfl rfl k_txt_3.1 rfl rfl (Nat.le_of_ble_eq_true rfl) ⟨Nat.le_of_ble_eq_true rfl, Nat.le_of_ble_eq_true rfl⟩ dX8_fault_28 (m_X6_faultOfThings w k_txt_3) (bk_pu (fun r2 => ?_))
      exact fun z => hret _ _ _ _ dX8_fault_31 rfl ⟨z, rfl⟩
    · refine bk_aload_n hX 0 dX8_fault_14 rfl ?_
      refine bk_getr hX kc_0 rfl fl_X8_14 dX8_fault_15 ?_
      refine bk_callV_i hX [] [] yk_X6_faultOfHooks yv_X6_faultOfHooks lk_X8_114 rfl rfl k_txt_1.1 rfl rfl (Nat.le_of_ble_eq_true rfl) ⟨Nat.le_of_ble_eq_true rfl, Nat.le_of_ble_eq_true rfl⟩ dX8_fault_18 (m_X6_faultOfHooks w k_txt_1) (bk_pu (fun r3 => ?_))
      refine bk_goto hX 31 dX8_fault_21 rfl ?_
      exact fun z => hret _ _ _ _ dX8_fault_31 rfl ⟨z, rfl⟩
  · refine bk_bipush hX bk_cb_m2 dX8_fault_7 ?_
    exact fun z => hret _ _ _ _ dX8_fault_9 rfl ⟨z, rfl⟩

def w_X8_allEvents (σ : bk_S) (post : Int32 → Prop) : Prop :=
  post (((1 : Int32) <<< ((σ 5 3) &&& 31)) - (1 : Int32))
set_option maxRecDepth 20000 in
theorem m_X8_allEvents (w : bk_W) {σ : bk_S} {post : Int32 → Prop} : w_X8_allEvents σ post → bk_Mi lyC w yX8_allEvents cX8_allEvents 1 .int 0 0 [.ref (bk_r w 0)] σ (fun r σ1 => post r ∧ σ1 = σ) := by
  intro h0
  refine bk_mi (by decide) (Nat.le_of_ble_eq_true rfl) (fun X hX hret => ?_)
  revert h0
  unfold w_X8_allEvents
  show _ → bk_At lyC w X 0 [(0, .ref (bk_r w 0))] [] σ
  refine bk_iconst hX bk_ci_1 dX8_allEvents_0 ?_
  refine bk_aload_n hX 0 dX8_allEvents_1 rfl ?_
  refine bk_getr hX kc_0 rfl fl_X8_24 dX8_allEvents_2 ?_
  refine bk_geti hX k_tri_5.1 rfl fl_X8_158 dX8_allEvents_5 ?_
  refine bk_ishl hX dX8_allEvents_8 ?_
  refine bk_iconst hX bk_ci_1 dX8_allEvents_9 ?_
  refine bk_isub hX dX8_allEvents_10 ?_
  exact fun z => hret _ _ _ _ dX8_allEvents_11 rfl ⟨z, rfl⟩

def w_X8_refresh (σ : bk_S) (post : bk_S → Prop) : Prop :=
  (¬ (σ 0 13) = 0 → (w_X4_takeHooks 22 1 σ (fun σ1 =>
    w_X4_takeThings 22 3 σ1 (fun σ2 =>
      w_X8_allEvents σ2 (fun r3 =>
        w_X4_takeEvents 22 5 r3 σ2 (fun σ4 =>
          w_X1_run 36 22 σ4 (fun σ5 =>
            bk_lt (α := bk_S) (bk_u σ5 0 13 (0 : Int32)) fun σ6 =>
            post σ6))))))) ∧ ((σ 0 13) = 0 → post σ)
set_option maxRecDepth 20000 in
theorem m_X8_refresh (w : bk_W) {σ : bk_S} {post : bk_S → Prop} : w_X8_refresh σ post → bk_Mv lyC w yX8_refresh cX8_refresh 1 4 99 [.ref (bk_r w 0)] σ post := by
  intro h0
  refine bk_mv (by decide) (Nat.le_of_ble_eq_true rfl) (fun X hX hret => ?_)
  revert h0
  unfold w_X8_refresh
  show _ → bk_At lyC w X 0 [(0, .ref (bk_r w 0))] [] σ
  refine bk_aload_n hX 0 dX8_refresh_0 rfl ?_
  refine bk_geti hX kc_0 rfl fl_X8_82 dX8_refresh_1 ?_
  refine bk_if_ne hX 8 dX8_refresh_4 rfl ?_ ?_
  · refine bk_aload_n hX 0 dX8_refresh_8 rfl ?_
    refine bk_getr hX kc_0 rfl fl_X8_40 dX8_refresh_9 ?_
    refine bk_aload_n hX 0 dX8_refresh_12 rfl ?_
    refine bk_getr hX kc_0 rfl fl_X8_14 dX8_refresh_13 ?_
    refine bk_callV_v hX [.ref (bk_r w 1)] [] yk_X4_takeHooks yv_X4_takeHooks lk_X8_338 rfl rfl k_set_22.1 rfl rfl (Nat.le_of_ble_eq_true rfl) ⟨Nat.le_of_ble_eq_true rfl, Nat.le_of_ble_eq_true rfl⟩ dX8_refresh_16 (m_X4_takeHooks w k_set_22 k_txt_1) (fun σ1 => ?_)
    refine bk_aload_n hX 0 dX8_refresh_19 rfl ?_
    refine bk_getr hX kc_0 rfl fl_X8_40 dX8_refresh_20 ?_
    refine bk_aload_n hX 0 dX8_refresh_23 rfl ?_
    refine bk_getr hX kc_0 rfl fl_X8_18 dX8_refresh_24 ?_
    refine bk_callV_v hX [.ref (bk_r w 3)] [] yk_X4_takeThings yv_X4_takeThings lk_X8_342 rfl rfl k_set_22.1 rfl rfl (Nat.le_of_ble_eq_true rfl) ⟨Nat.le_of_ble_eq_true rfl, Nat.le_of_ble_eq_true rfl⟩ dX8_refresh_27 (m_X4_takeThings w k_set_22 k_txt_3) (fun σ2 => ?_)
    refine bk_aload_n hX 0 dX8_refresh_30 rfl ?_
    refine bk_getr hX kc_0 rfl fl_X8_40 dX8_refresh_31 ?_
    refine bk_aload_n hX 0 dX8_refresh_34 rfl ?_
    refine bk_getr hX kc_0 rfl fl_X8_24 dX8_refresh_35 ?_
    refine bk_aload_n hX 0 dX8_refresh_38 rfl ?_
    refine bk_callV_i hX [] [.ref (bk_r w 5), .ref (bk_r w 22)] yk_X8_allEvents yv_X8_allEvents lk_X8_345 rfl rfl kc_0 rfl rfl (Nat.le_of_ble_eq_true rfl) ⟨Nat.le_of_ble_eq_true rfl, Nat.le_of_ble_eq_true rfl⟩ dX8_refresh_39 (m_X8_allEvents w) (bk_pu (fun r3 => ?_))
    refine bk_callV_v hX [.ref (bk_r w 5), .int r3] [] yk_X4_takeEvents yv_X4_takeEvents lk_X8_348 rfl rfl k_set_22.1 rfl rfl (Nat.le_of_ble_eq_true rfl) ⟨Nat.le_of_ble_eq_true rfl, Nat.le_of_ble_eq_true rfl⟩ dX8_refresh_42 (m_X4_takeEvents w k_set_22 k_tri_5) (fun σ4 => ?_)
    refine bk_aload_n hX 0 dX8_refresh_45 rfl ?_
    refine bk_getr hX kc_0 rfl fl_X8_50 dX8_refresh_46 ?_
    refine bk_aload_n hX 0 dX8_refresh_49 rfl ?_
    refine bk_getr hX kc_0 rfl fl_X8_40 dX8_refresh_50 ?_
    refine bk_callV_v hX [.ref (bk_r w 22)] [] yk_X1_run yv_X1_run lk_X8_352 rfl rfl k_crs_36.1 rfl rfl (Nat.le_of_ble_eq_true rfl) ⟨Nat.le_of_ble_eq_true rfl, Nat.le_of_ble_eq_true rfl⟩ dX8_refresh_53 (m_X1_run w k_crs_36 k_set_22) (fun σ5 => ?_)
    refine bk_aload_n hX 0 dX8_refresh_56 rfl ?_
    refine bk_iconst hX bk_ci_0 dX8_refresh_57 ?_
    refine bk_putZ hX kc_0 rfl fp_X8_82 rfl rfl dX8_refresh_58 (fun σ6 => ?_)
    exact fun z => hret _ _ _ dX8_refresh_61 z
  · exact fun z => hret _ _ _ dX8_refresh_7 z

def w_X8_isHook (x1 : Int32) (σ : bk_S) (post : Int32 → Prop) : Prop :=
  w_X8_isBelow x1 (σ 22 0) (fun r1 =>
    narrow .boolean (.int r1) = .int r1 ∧ post r1)
set_option maxRecDepth 20000 in
theorem m_X8_isHook (w : bk_W) {x1 : Int32} {σ : bk_S} {post : Int32 → Prop} : w_X8_isHook x1 σ post → bk_Mi lyC w yX8_isHook cX8_isHook 2 .boolean 1 21 [.ref (bk_r w 0), .int x1] σ (fun r σ1 => post r ∧ σ1 = σ) := by
  intro h0
  refine bk_mi (by decide) (Nat.le_of_ble_eq_true rfl) (fun X hX hret => ?_)
  revert h0
  unfold w_X8_isHook
  show _ → bk_At lyC w X 0 [(0, .ref (bk_r w 0)), (1, .int x1)] [] σ
  refine bk_iload_n hX 1 dX8_isHook_0 rfl ?_
  refine bk_aload_n hX 0 dX8_isHook_1 rfl ?_
  refine bk_getr hX kc_0 rfl fl_X8_40 dX8_isHook_2 ?_
  refine bk_geti hX k_set_22.1 rfl fl_X8_297 dX8_isHook_5 ?_
  refine bk_callS_i hX [.int x1, .int (σ 22 0)] [] yk_X8_isBelow ys_X8_isBelow lk_X8_133 rfl rfl (Nat.le_of_ble_eq_true rfl) ⟨Nat.le_of_ble_eq_true rfl, Nat.le_of_ble_eq_true rfl⟩ dX8_isHook_8 (m_X8_isBelow w) (bk_pu (fun r1 => ?_))
  exact fun z => hret _ _ _ _ dX8_isHook_11 z.1 ⟨z.2, rfl⟩

def w_X8_hook (x1 : Int32) (σ : bk_S) (post : Int32 → bk_S → Prop) : Prop :=
  w_X8_refresh σ (fun σ1 =>
    w_X8_isHook x1 σ1 (fun r2 =>
      (r2 = 0 → post (-2 : Int32) σ1) ∧ (¬ r2 = 0 → (vp_in x1 12 ∧ post (σ1 (22 + 1) (Int32.toNatClampNeg x1)) σ1))))
set_option maxRecDepth 20000 in
theorem m_X8_hook (w : bk_W) {x1 : Int32} {σ : bk_S} {post : Int32 → bk_S → Prop} : w_X8_hook x1 σ post → bk_Mi lyC w yX8_hook cX8_hook 2 .int 5 119 [.ref (bk_r w 0), .int x1] σ post := by
  intro h0
  refine bk_mi (by decide) (Nat.le_of_ble_eq_true rfl) (fun X hX hret => ?_)
  revert h0
  unfold w_X8_hook
  show _ → bk_At lyC w X 0 [(0, .ref (bk_r w 0)), (1, .int x1)] [] σ
  refine bk_aload_n hX 0 dX8_hook_0 rfl ?_
  refine bk_callV_v hX [] [] yk_X8_refresh yv_X8_refresh lk_X8_121 rfl rfl kc_0 rfl rfl (Nat.le_of_ble_eq_true rfl) ⟨Nat.le_of_ble_eq_true rfl, Nat.le_of_ble_eq_true rfl⟩ dX8_hook_1 (m_X8_refresh w) (fun σ1 => ?_)
  refine bk_aload_n hX 0 dX8_hook_4 rfl ?_
  refine bk_iload_n hX 1 dX8_hook_5 rfl ?_
  refine bk_callV_i hX [.int x1] [] yk_X8_isHook yv_X8_isHook lk_X8_124 rfl rfl kc_0 rfl rfl (Nat.le_of_ble_eq_true rfl) ⟨Nat.le_of_ble_eq_true rfl, Nat.le_of_ble_eq_true rfl⟩ dX8_hook_6 (m_X8_isHook w) (bk_pu (fun r2 => ?_))
  refine bk_if_eq hX 24 dX8_hook_9 rfl ?_ ?_
  · refine bk_bipush hX bk_cb_m2 dX8_hook_24 ?_
    exact fun z => hret _ _ _ _ dX8_hook_26 rfl z
  · refine bk_aload_n hX 0 dX8_hook_12 rfl ?_
    refine bk_getr hX kc_0 rfl fl_X8_40 dX8_hook_13 ?_
    refine bk_getr hX k_set_22.1 rfl fl_X8_127 dX8_hook_16 ?_
    refine bk_iload_n hX 1 dX8_hook_19 rfl ?_
    refine bk_iaload hX k_set_22.2.1 dX8_hook_20 ?_
    refine bk_goto hX 26 dX8_hook_21 rfl ?_
    exact fun z => hret _ _ _ _ dX8_hook_26 rfl z

def w_X8_isThing (x1 : Int32) (σ : bk_S) (post : Int32 → Prop) : Prop :=
  w_X8_isBelow x1 (σ 22 1) (fun r1 =>
    narrow .boolean (.int r1) = .int r1 ∧ post r1)
set_option maxRecDepth 20000 in
theorem m_X8_isThing (w : bk_W) {x1 : Int32} {σ : bk_S} {post : Int32 → Prop} : w_X8_isThing x1 σ post → bk_Mi lyC w yX8_isThing cX8_isThing 2 .boolean 1 21 [.ref (bk_r w 0), .int x1] σ (fun r σ1 => post r ∧ σ1 = σ) := by
  intro h0
  refine bk_mi (by decide) (Nat.le_of_ble_eq_true rfl) (fun X hX hret => ?_)
  revert h0
  unfold w_X8_isThing
  show _ → bk_At lyC w X 0 [(0, .ref (bk_r w 0)), (1, .int x1)] [] σ
  refine bk_iload_n hX 1 dX8_isThing_0 rfl ?_
  refine bk_aload_n hX 0 dX8_isThing_1 rfl ?_
  refine bk_getr hX kc_0 rfl fl_X8_40 dX8_isThing_2 ?_
  refine bk_geti hX k_set_22.1 rfl fl_X8_305 dX8_isThing_5 ?_
  refine bk_callS_i hX [.int x1, .int (σ 22 1)] [] yk_X8_isBelow ys_X8_isBelow lk_X8_133 rfl rfl (Nat.le_of_ble_eq_true rfl) ⟨Nat.le_of_ble_eq_true rfl, Nat.le_of_ble_eq_true rfl⟩ dX8_isThing_8 (m_X8_isBelow w) (bk_pu (fun r1 => ?_))
  exact fun z => hret _ _ _ _ dX8_isThing_11 z.1 ⟨z.2, rfl⟩

def w_X8_thing (x1 : Int32) (x2 : Int32) (σ : bk_S) (post : Int32 → bk_S → Prop) : Prop :=
  w_X8_refresh σ (fun σ1 =>
    w_X8_isThing x1 σ1 (fun r2 =>
      (r2 = 0 → post (-2 : Int32) σ1) ∧ (¬ r2 = 0 → (w_X8_isBelow x2 (3 : Int32) (fun r3 =>
        (¬ r3 = 0 → ((¬ x2 = 0 → ((¬ x2 = (1 : Int32) → (vp_in x1 8 ∧ post (σ1 (22 + 4) (Int32.toNatClampNeg x1)) σ1)) ∧ (x2 = (1 : Int32) → (vp_in x1 8 ∧ post (σ1 (22 + 3) (Int32.toNatClampNeg x1)) σ1)))) ∧ (x2 = 0 → (vp_in x1 8 ∧ post (σ1 (22 + 2) (Int32.toNatClampNeg x1)) σ1)))) ∧ (r3 = 0 → post (-2 : Int32) σ1))))))
set_option maxRecDepth 20000 in
theorem m_X8_thing (w : bk_W) {x1 : Int32} {x2 : Int32} {σ : bk_S} {post : Int32 → bk_S → Prop} : w_X8_thing x1 x2 σ post → bk_Mi lyC w yX8_thing cX8_thing 3 .int 5 119 [.ref (bk_r w 0), .int x1, .int x2] σ post := by
  intro h0
  refine bk_mi (by decide) (Nat.le_of_ble_eq_true rfl) (fun X hX hret => ?_)
  revert h0
  unfold w_X8_thing
  show _ → bk_At lyC w X 0 [(0, .ref (bk_r w 0)), (1, .int x1), (2, .int x2)] [] σ
  refine bk_aload_n hX 0 dX8_thing_0 rfl ?_
  refine bk_callV_v hX [] [] yk_X8_refresh yv_X8_refresh lk_X8_121 rfl rfl kc_0 rfl rfl (Nat.le_of_ble_eq_true rfl) ⟨Nat.le_of_ble_eq_true rfl, Nat.le_of_ble_eq_true rfl⟩ dX8_thing_1 (m_X8_refresh w) (fun σ1 => ?_)
  refine bk_aload_n hX 0 dX8_thing_4 rfl ?_
  refine bk_iload_n hX 1 dX8_thing_5 rfl ?_
  refine bk_callV_i hX [.int x1] [] yk_X8_isThing yv_X8_isThing lk_X8_130 rfl rfl kc_0 rfl rfl (Nat.le_of_ble_eq_true rfl) ⟨Nat.le_of_ble_eq_true rfl, Nat.le_of_ble_eq_true rfl⟩ dX8_thing_6 (m_X8_isThing w) (bk_pu (fun r2 => ?_))
  refine bk_if_eq hX 20 dX8_thing_9 rfl ?_ ?_
  · refine bk_bipush hX bk_cb_m2 dX8_thing_20 ?_
    exact fun z => hret _ _ _ _ dX8_thing_22 rfl z
  · refine bk_iload_n hX 2 dX8_thing_12 rfl ?_
    refine bk_iconst hX bk_ci_3 dX8_thing_13 ?_
    refine bk_callS_i hX [.int x2, .int (3 : Int32)] [] yk_X8_isBelow ys_X8_isBelow lk_X8_133 rfl rfl (Nat.le_of_ble_eq_true rfl) ⟨Nat.le_of_ble_eq_true rfl, Nat.le_of_ble_eq_true rfl⟩ dX8_thing_14 (m_X8_isBelow w) (bk_pu (fun r3 => ?_))
    refine bk_if_ne hX 23 dX8_thing_17 rfl ?_ ?_
    · refine bk_iload_n hX 2 dX8_thing_23 rfl ?_
      refine bk_if_ne hX 37 dX8_thing_24 rfl ?_ ?_
      · refine bk_iload_n hX 2 dX8_thing_37 rfl ?_
        refine bk_iconst hX bk_ci_1 dX8_thing_38 ?_
        refine bk_icmp_ne hX 54 dX8_thing_39 rfl ?_ ?_
        · refine bk_aload_n hX 0 dX8_thing_54 rfl ?_
          refine bk_getr hX kc_0 rfl fl_X8_40 dX8_thing_55 ?_
          refine bk_getr hX k_set_22.1 rfl fl_X8_143 dX8_thing_58 ?_
          refine bk_iload_n hX 1 dX8_thing_61 rfl ?_
          refine bk_iaload hX k_set_22.2.2.2.2.1 dX8_thing_62 ?_
          exact fun z => hret _ _ _ _ dX8_thing_63 rfl z
        · refine bk_aload_n hX 0 dX8_thing_42 rfl ?_
          refine bk_getr hX kc_0 rfl fl_X8_40 dX8_thing_43 ?_
          refine bk_getr hX k_set_22.1 rfl fl_X8_140 dX8_thing_46 ?_
          refine bk_iload_n hX 1 dX8_thing_49 rfl ?_
          refine bk_iaload hX k_set_22.2.2.2.1 dX8_thing_50 ?_
          refine bk_goto hX 63 dX8_thing_51 rfl ?_
          exact fun z => hret _ _ _ _ dX8_thing_63 rfl z
      · refine bk_aload_n hX 0 dX8_thing_27 rfl ?_
        refine bk_getr hX kc_0 rfl fl_X8_40 dX8_thing_28 ?_
        refine bk_getr hX k_set_22.1 rfl fl_X8_137 dX8_thing_31 ?_
        refine bk_iload_n hX 1 dX8_thing_34 rfl ?_
        refine bk_iaload hX k_set_22.2.2.1 dX8_thing_35 ?_
        exact fun z => hret _ _ _ _ dX8_thing_36 rfl z
    · refine bk_bipush hX bk_cb_m2 dX8_thing_20 ?_
      exact fun z => hret _ _ _ _ dX8_thing_22 rfl z

def w_X8_isEvening (x0 : Int32) (post : Int32 → Prop) : Prop :=
  w_X8_isBelow x0 (12 : Int32) (fun r1 =>
    narrow .boolean (.int r1) = .int r1 ∧ post r1)
set_option maxRecDepth 20000 in
theorem m_X8_isEvening (w : bk_W) {x0 : Int32} {σ : bk_S} {post : Int32 → Prop} : w_X8_isEvening x0 post → bk_Mi lyC w yX8_isEvening cX8_isEvening 1 .boolean 1 21 [.int x0] σ (fun r σ1 => post r ∧ σ1 = σ) := by
  intro h0
  refine bk_mi (by decide) (Nat.le_of_ble_eq_true rfl) (fun X hX hret => ?_)
  revert h0
  unfold w_X8_isEvening
  show _ → bk_At lyC w X 0 [(0, .int x0)] [] σ
  refine bk_iload_n hX 0 dX8_isEvening_0 rfl ?_
  refine bk_bipush hX bk_cb_12 dX8_isEvening_1 ?_
  refine bk_callS_i hX [.int x0, .int (12 : Int32)] [] yk_X8_isBelow ys_X8_isBelow lk_X8_133 rfl rfl (Nat.le_of_ble_eq_true rfl) ⟨Nat.le_of_ble_eq_true rfl, Nat.le_of_ble_eq_true rfl⟩ dX8_isEvening_3 (m_X8_isBelow w) (bk_pu (fun r1 => ?_))
  exact fun z => hret _ _ _ _ dX8_isEvening_6 z.1 ⟨z.2, rfl⟩

def w_X8_isEvent (x0 : Int32) (x1 : Int32) (x2 : Int32) (post : Int32 → Prop) : Prop :=
  w_X8_isBelow x0 (3 : Int32) (fun r1 =>
    bk_jn (α := Unit) (fun a3 =>
      post (0 : Int32)) (fun K2 =>
      (r1 = 0 → K2 ()) ∧ (¬ r1 = 0 → (w_X8_isEvening x1 (fun r4 =>
        (r4 = 0 → K2 ()) ∧ (¬ r4 = 0 → (w_X8_isBelow x2 (12 : Int32) (fun r5 =>
          (r5 = 0 → K2 ()) ∧ (¬ r5 = 0 → post (1 : Int32))))))))))
set_option maxRecDepth 20000 in
theorem m_X8_isEvent (w : bk_W) {x0 : Int32} {x1 : Int32} {x2 : Int32} {σ : bk_S} {post : Int32 → Prop} : w_X8_isEvent x0 x1 x2 post → bk_Mi lyC w yX8_isEvent cX8_isEvent 3 .boolean 2 41 [.int x0, .int x1, .int x2] σ (fun r σ1 => post r ∧ σ1 = σ) := by
  intro h0
  refine bk_mi (by decide) (Nat.le_of_ble_eq_true rfl) (fun X hX hret => ?_)
  revert h0
  unfold w_X8_isEvent
  show _ → bk_At lyC w X 0 [(0, .int x0), (1, .int x1), (2, .int x2)] [] σ
  refine bk_iload_n hX 0 dX8_isEvent_0 rfl ?_
  refine bk_iconst hX bk_ci_3 dX8_isEvent_1 ?_
  refine bk_callS_i hX [.int x0, .int (3 : Int32)] [] yk_X8_isBelow ys_X8_isBelow lk_X8_133 rfl rfl (Nat.le_of_ble_eq_true rfl) ⟨Nat.le_of_ble_eq_true rfl, Nat.le_of_ble_eq_true rfl⟩ dX8_isEvent_2 (m_X8_isBelow w) (bk_pu (fun r1 => ?_))
  refine bk_r_jn (α := Unit) (J := fun a => bk_At lyC w X 28 [(0, .int x0), (1, .int x1), (2, .int x2)] [] σ) (fun a3 => ?_) (fun K2 hK2 => ?_)
  · refine bk_iconst hX bk_ci_0 dX8_isEvent_28 ?_
    exact fun z => hret _ _ _ _ dX8_isEvent_29 rfl ⟨z, rfl⟩
  · refine bk_if_eq hX 28 dX8_isEvent_5 rfl ?_ ?_
    · exact bk_pick [0, 1, 2] rfl (hK2 ())
    · refine bk_iload_n hX 1 dX8_isEvent_8 rfl ?_
      refine bk_callS_i hX [.int x1] [] yk_X8_isEvening ys_X8_isEvening lk_X8_179 rfl rfl (Nat.le_of_ble_eq_true rfl) ⟨Nat.le_of_ble_eq_true rfl, Nat.le_of_ble_eq_true rfl⟩ dX8_isEvent_9 (m_X8_isEvening w) (bk_pu (fun r4 => ?_))
      refine bk_if_eq hX 28 dX8_isEvent_12 rfl ?_ ?_
      · exact bk_pick [0, 1, 2] rfl (hK2 ())
      · refine bk_iload_n hX 2 dX8_isEvent_15 rfl ?_
        refine bk_bipush hX bk_cb_12 dX8_isEvent_16 ?_
        refine bk_callS_i hX [.int x2, .int (12 : Int32)] [] yk_X8_isBelow ys_X8_isBelow lk_X8_133 rfl rfl (Nat.le_of_ble_eq_true rfl) ⟨Nat.le_of_ble_eq_true rfl, Nat.le_of_ble_eq_true rfl⟩ dX8_isEvent_18 (m_X8_isBelow w) (bk_pu (fun r5 => ?_))
        refine bk_if_eq hX 28 dX8_isEvent_21 rfl ?_ ?_
        · exact bk_pick [0, 1, 2] rfl (hK2 ())
        · refine bk_iconst hX bk_ci_1 dX8_isEvent_24 ?_
          refine bk_goto hX 29 dX8_isEvent_25 rfl ?_
          exact fun z => hret _ _ _ _ dX8_isEvent_29 rfl ⟨z, rfl⟩

def w_X8_event (x1 : Int32) (x2 : Int32) (x3 : Int32) (σ : bk_S) (post : Int32 → bk_S → Prop) : Prop :=
  w_X8_isEvent x1 x2 x3 (fun r1 =>
    (¬ r1 = 0 → (w_X7_isFull 5 σ (fun r2 =>
      (r2 = 0 → (w_X7_append 5 x1 x2 x3 σ (fun σ3 =>
        w_X8_noteChange σ3 (fun σ4 =>
          post (σ4 5 3) σ4)))) ∧ (¬ r2 = 0 → post (-4 : Int32) σ)))) ∧ (r1 = 0 → post (-2 : Int32) σ))
set_option maxRecDepth 20000 in
theorem m_X8_event (w : bk_W) {x1 : Int32} {x2 : Int32} {x3 : Int32} {σ : bk_S} {post : Int32 → bk_S → Prop} : w_X8_event x1 x2 x3 σ post → bk_Mi lyC w yX8_event cX8_event 4 .int 3 63 [.ref (bk_r w 0), .int x1, .int x2, .int x3] σ post := by
  intro h0
  refine bk_mi (by decide) (Nat.le_of_ble_eq_true rfl) (fun X hX hret => ?_)
  revert h0
  unfold w_X8_event
  show _ → bk_At lyC w X 0 [(0, .ref (bk_r w 0)), (1, .int x1), (2, .int x2), (3, .int x3)] [] σ
  refine bk_iload_n hX 1 dX8_event_0 rfl ?_
  refine bk_iload_n hX 2 dX8_event_1 rfl ?_
  refine bk_iload_n hX 3 dX8_event_2 rfl ?_
  refine bk_callS_i hX [.int x1, .int x2, .int x3] [] yk_X8_isEvent ys_X8_isEvent lk_X8_146 rfl rfl (Nat.le_of_ble_eq_true rfl) ⟨Nat.le_of_ble_eq_true rfl, Nat.le_of_ble_eq_true rfl⟩ dX8_event_3 (m_X8_isEvent w) (bk_pu (fun r1 => ?_))
  refine bk_if_ne hX 12 dX8_event_6 rfl ?_ ?_
  · refine bk_aload_n hX 0 dX8_event_12 rfl ?_
    refine bk_getr hX kc_0 rfl fl_X8_24 dX8_event_13 ?_
    refine bk_callV_i hX [] [] yk_X7_isFull yv_X7_isFull lk_X8_150 rfl rfl k_tri_5.1 rfl rfl (Nat.le_of_ble_eq_true rfl) ⟨Nat.le_of_ble_eq_true rfl, Nat.le_of_ble_eq_true rfl⟩ dX8_event_16 (m_X7_isFull w k_tri_5) (bk_pu (fun r2 => ?_))
    refine bk_if_eq hX 25 dX8_event_19 rfl ?_ ?_
    · refine bk_aload_n hX 0 dX8_event_25 rfl ?_
      refine bk_getr hX kc_0 rfl fl_X8_24 dX8_event_26 ?_
      refine bk_iload_n hX 1 dX8_event_29 rfl ?_
      refine bk_iload_n hX 2 dX8_event_30 rfl ?_
      refine bk_iload_n hX 3 dX8_event_31 rfl ?_
      refine bk_callV_v hX [.int x1, .int x2, .int x3] [] yk_X7_append yv_X7_append lk_X8_154 rfl rfl k_tri_5.1 rfl rfl (Nat.le_of_ble_eq_true rfl) ⟨Nat.le_of_ble_eq_true rfl, Nat.le_of_ble_eq_true rfl⟩ dX8_event_32 (m_X7_append w k_tri_5) (fun σ3 => ?_)
      refine bk_aload_n hX 0 dX8_event_35 rfl ?_
      refine bk_callV_v hX [] [] yk_X8_noteChange yv_X8_noteChange lk_X8_111 rfl rfl kc_0 rfl rfl (Nat.le_of_ble_eq_true rfl) ⟨Nat.le_of_ble_eq_true rfl, Nat.le_of_ble_eq_true rfl⟩ dX8_event_36 (m_X8_noteChange w) (fun σ4 => ?_)
      refine bk_aload_n hX 0 dX8_event_39 rfl ?_
      refine bk_getr hX kc_0 rfl fl_X8_24 dX8_event_40 ?_
      refine bk_geti hX k_tri_5.1 rfl fl_X8_158 dX8_event_43 ?_
      exact fun z => hret _ _ _ _ dX8_event_46 rfl z
    · refine bk_bipush hX bk_cb_m4 dX8_event_22 ?_
      exact fun z => hret _ _ _ _ dX8_event_24 rfl z
  · refine bk_bipush hX bk_cb_m2 dX8_event_9 ?_
    exact fun z => hret _ _ _ _ dX8_event_11 rfl z

def w_X8_back (σ : bk_S) (post : Int32 → bk_S → Prop) : Prop :=
  (¬ (σ 5 3) = 0 → (bk_lt (α := bk_S) (bk_u σ 5 3 ((σ 5 3) - (1 : Int32))) fun σ1 =>
  w_X8_noteChange σ1 (fun σ2 =>
    post (σ2 5 3) σ2))) ∧ ((σ 5 3) = 0 → post (-3 : Int32) σ)
set_option maxRecDepth 20000 in
theorem m_X8_back (w : bk_W) {σ : bk_S} {post : Int32 → bk_S → Prop} : w_X8_back σ post → bk_Mi lyC w yX8_back cX8_back 1 .int 1 20 [.ref (bk_r w 0)] σ post := by
  intro h0
  refine bk_mi (by decide) (Nat.le_of_ble_eq_true rfl) (fun X hX hret => ?_)
  revert h0
  unfold w_X8_back
  show _ → bk_At lyC w X 0 [(0, .ref (bk_r w 0))] [] σ
  refine bk_aload_n hX 0 dX8_back_0 rfl ?_
  refine bk_getr hX kc_0 rfl fl_X8_24 dX8_back_1 ?_
  refine bk_geti hX k_tri_5.1 rfl fl_X8_158 dX8_back_4 ?_
  refine bk_if_ne hX 13 dX8_back_7 rfl ?_ ?_
  · refine bk_aload_n hX 0 dX8_back_13 rfl ?_
    refine bk_getr hX kc_0 rfl fl_X8_24 dX8_back_14 ?_
    refine bk_dup hX rfl dX8_back_17 ?_
    refine bk_geti hX k_tri_5.1 rfl fl_X8_158 dX8_back_18 ?_
    refine bk_iconst hX bk_ci_1 dX8_back_21 ?_
    refine bk_isub hX dX8_back_22 ?_
    refine bk_putI hX k_tri_5.1 rfl fp_X8_158 dX8_back_23 (fun σ1 => ?_)
    refine bk_aload_n hX 0 dX8_back_26 rfl ?_
    refine bk_callV_v hX [] [] yk_X8_noteChange yv_X8_noteChange lk_X8_111 rfl rfl kc_0 rfl rfl (Nat.le_of_ble_eq_true rfl) ⟨Nat.le_of_ble_eq_true rfl, Nat.le_of_ble_eq_true rfl⟩ dX8_back_27 (m_X8_noteChange w) (fun σ2 => ?_)
    refine bk_aload_n hX 0 dX8_back_30 rfl ?_
    refine bk_getr hX kc_0 rfl fl_X8_24 dX8_back_31 ?_
    refine bk_geti hX k_tri_5.1 rfl fl_X8_158 dX8_back_34 ?_
    exact fun z => hret _ _ _ _ dX8_back_37 rfl z
  · refine bk_bipush hX bk_cb_m3 dX8_back_10 ?_
    exact fun z => hret _ _ _ _ dX8_back_12 rfl z

def w_X8_isSheet (x0 : Int32) (post : Int32 → Prop) : Prop :=
  w_X8_isBelow x0 (4 : Int32) (fun r1 =>
    narrow .boolean (.int r1) = .int r1 ∧ post r1)
set_option maxRecDepth 20000 in
theorem m_X8_isSheet (w : bk_W) {x0 : Int32} {σ : bk_S} {post : Int32 → Prop} : w_X8_isSheet x0 post → bk_Mi lyC w yX8_isSheet cX8_isSheet 1 .boolean 1 21 [.int x0] σ (fun r σ1 => post r ∧ σ1 = σ) := by
  intro h0
  refine bk_mi (by decide) (Nat.le_of_ble_eq_true rfl) (fun X hX hret => ?_)
  revert h0
  unfold w_X8_isSheet
  show _ → bk_At lyC w X 0 [(0, .int x0)] [] σ
  refine bk_iload_n hX 0 dX8_isSheet_0 rfl ?_
  refine bk_iconst hX bk_ci_4 dX8_isSheet_1 ?_
  refine bk_callS_i hX [.int x0, .int (4 : Int32)] [] yk_X8_isBelow ys_X8_isBelow lk_X8_133 rfl rfl (Nat.le_of_ble_eq_true rfl) ⟨Nat.le_of_ble_eq_true rfl, Nat.le_of_ble_eq_true rfl⟩ dX8_isSheet_2 (m_X8_isBelow w) (bk_pu (fun r1 => ?_))
  exact fun z => hret _ _ _ _ dX8_isSheet_5 z.1 ⟨z.2, rfl⟩

def w_X8_findingOf (x1 : Int32) (σ : bk_S) (post : Int32 → bk_S → Prop) : Prop :=
  bk_lt (α := bk_S) (bk_u σ 0 15 x1) fun σ1 =>
  post ((-10 : Int32) - x1) σ1
set_option maxRecDepth 20000 in
theorem m_X8_findingOf (w : bk_W) {x1 : Int32} {σ : bk_S} {post : Int32 → bk_S → Prop} : w_X8_findingOf x1 σ post → bk_Mi lyC w yX8_findingOf cX8_findingOf 2 .int 0 0 [.ref (bk_r w 0), .int x1] σ post := by
  intro h0
  refine bk_mi (by decide) (Nat.le_of_ble_eq_true rfl) (fun X hX hret => ?_)
  revert h0
  unfold w_X8_findingOf
  show _ → bk_At lyC w X 0 [(0, .ref (bk_r w 0)), (1, .int x1)] [] σ
  refine bk_aload_n hX 0 dX8_findingOf_0 rfl ?_
  refine bk_iload_n hX 1 dX8_findingOf_1 rfl ?_
  refine bk_putI hX kc_0 rfl fp_X8_89 dX8_findingOf_2 (fun σ1 => ?_)
  refine bk_bipush hX bk_cb_m10 dX8_findingOf_5 ?_
  refine bk_iload_n hX 1 dX8_findingOf_7 rfl ?_
  refine bk_isub hX dX8_findingOf_8 ?_
  exact fun z => hret _ _ _ _ dX8_findingOf_9 rfl z

def w_X8_read (x1 : Int32) (σ : bk_S) (post : Int32 → bk_S → Prop) : Prop :=
  w_X8_isSheet x1 (fun r1 =>
    (¬ r1 = 0 → (vp_in x1 4 ∧ w_X5_isLost (14 + 2 * Int32.toNatClampNeg x1) σ (fun r3 =>
      (r3 = 0 → (bk_lt (α := Int32) (0 : Int32) fun v4 =>
      bk_lt (α := Int32) (0 : Int32) fun v5 =>
      bk_jn (α := Int32 × bk_S) (fun a7 =>
        post a7.1 a7.2) (fun K6 =>
        bk_loop (α := Int32 × Int32 × bk_S) (fun K8 a9 =>
          ((a9.2.2 (14 + 2 * Int32.toNatClampNeg x1) 1) ≤ (a9.2.1 + (2 : Int32)) → post a9.1 a9.2.2) ∧ (¬ (a9.2.2 (14 + 2 * Int32.toNatClampNeg x1) 1) ≤ (a9.2.1 + (2 : Int32)) → (vp_in a9.2.1 60 ∧ vp_in (a9.2.1 + (1 : Int32)) 60 ∧ vp_in (a9.2.1 + (2 : Int32)) 60 ∧ w_X8_event (a9.2.2 ((14 + 2 * Int32.toNatClampNeg x1) + 1) (Int32.toNatClampNeg a9.2.1)) (a9.2.2 ((14 + 2 * Int32.toNatClampNeg x1) + 1) (Int32.toNatClampNeg (a9.2.1 + (1 : Int32)))) (a9.2.2 ((14 + 2 * Int32.toNatClampNeg x1) + 1) (Int32.toNatClampNeg (a9.2.1 + (2 : Int32)))) a9.2.2 (fun r10 σ11 =>
            (0 ≤ r10 → (bk_lt (α := Int32) (a9.1 + (1 : Int32)) fun v12 =>
            bk_lt (α := Int32) (a9.2.1 + (3 : Int32)) fun v13 =>
            K8 (v12, v13, σ11))) ∧ (¬ 0 ≤ r10 → K6 (a9.1, σ11)))))) (v4, v5, σ)))) ∧ (¬ r3 = 0 → (w_X8_findingOf (1 : Int32) σ (fun r14 σ15 =>
        post r14 σ15)))))) ∧ (r1 = 0 → post (-2 : Int32) σ))
set_option maxRecDepth 20000 in
theorem m_X8_read (w : bk_W) {x1 : Int32} {σ : bk_S} {post : Int32 → bk_S → Prop} : w_X8_read x1 σ post → bk_Mi lyC w yX8_read cX8_read 5 .int 4 86 [.ref (bk_r w 0), .int x1] σ post := by
  intro h0
  refine bk_mi (by decide) (Nat.le_of_ble_eq_true rfl) (fun X hX hret => ?_)
  revert h0
  unfold w_X8_read
  show _ → bk_At lyC w X 0 [(0, .ref (bk_r w 0)), (1, .int x1)] [] σ
  refine bk_iload_n hX 1 dX8_read_0 rfl ?_
  refine bk_callS_i hX [.int x1] [] yk_X8_isSheet ys_X8_isSheet lk_X8_161 rfl rfl (Nat.le_of_ble_eq_true rfl) ⟨Nat.le_of_ble_eq_true rfl, Nat.le_of_ble_eq_true rfl⟩ dX8_read_1 (m_X8_isSheet w) (bk_pu (fun r1 => ?_))
  refine bk_if_ne hX 10 dX8_read_4 rfl ?_ ?_
  · refine bk_aload_n hX 0 dX8_read_10 rfl ?_
    refine bk_getr hX kc_0 rfl fl_X8_33 dX8_read_11 ?_
    refine bk_iload_n hX 1 dX8_read_14 rfl ?_
    refine bk_aaload hX kc_13 dX8_read_15 (fun hi2 => ?_)
    refine bk_astore_n hX [(2, .ref (bk_r w (14 + 2 * Int32.toNatClampNeg x1))), (0, .ref (bk_r w 0)), (1, .int x1)] dX8_read_16 (Nat.le_of_ble_eq_true rfl) rfl ?_
    refine bk_aload_n hX 0 dX8_read_17 rfl ?_
    refine bk_callV_i hX [] [] yk_X5_isLost yv_X5_isLost lk_X8_164 rfl rfl (k_sht_of hi2).1 rfl rfl (Nat.le_of_ble_eq_true rfl) ⟨Nat.le_of_ble_eq_true rfl, Nat.le_of_ble_eq_true rfl⟩ dX8_read_18 (m_X5_isLost w (k_sht_of hi2)) (bk_pu (fun r3 => ?_))
    refine bk_if_eq hX 30 dX8_read_21 rfl ?_ ?_
    · refine bk_iconst hX bk_ci_0 dX8_read_30 ?_
      refine bk_istore_n hX (fun v4 => [(3, .int v4), (2, .ref (bk_r w (14 + 2 * Int32.toNatClampNeg x1))), (0, .ref (bk_r w 0)), (1, .int x1)]) dX8_read_31 (Nat.le_of_ble_eq_true rfl) (fun _ => rfl) (fun v4 => ?_)
      refine bk_iconst hX bk_ci_0 dX8_read_32 ?_
      refine bk_istore hX (fun v5 => [(4, .int v5), (3, .int v4), (2, .ref (bk_r w (14 + 2 * Int32.toNatClampNeg x1))), (0, .ref (bk_r w 0)), (1, .int x1)]) dX8_read_33 (Nat.le_of_ble_eq_true rfl) (fun _ => rfl) (fun v5 => ?_)
      refine bk_r_jn (α := Int32 × bk_S) (J := fun a => bk_At lyC w X 78 [(3, .int a.1), (2, .ref (bk_r w (14 + 2 * Int32.toNatClampNeg x1))), (0, .ref (bk_r w 0)), (1, .int x1)] [] a.2) (fun a7 => ?_) (fun K6 hK6 => ?_)
      · refine bk_goto hX 90 dX8_read_78 rfl ?_
        refine bk_iload_n hX 0 dX8_read_90 rfl ?_
        exact fun z => hret _ _ _ _ dX8_read_91 rfl z
      · refine bk_pick [0, 1, 2, 3, 4] rfl (bk_r_loop (α := Int32 × Int32 × bk_S) (J := fun a => bk_At lyC w X 35 [(4, .int a.2.1), (3, .int a.1), (2, .ref (bk_r w (14 + 2 * Int32.toNatClampNeg x1))), (0, .ref (bk_r w 0)), (1, .int x1)] [] a.2.2) (v4, v5, σ) (fun K8 hK8 a9 => ?_))
        refine bk_iload hX 0 dX8_read_35 rfl ?_
        refine bk_iconst hX bk_ci_2 dX8_read_37 ?_
        refine bk_iadd hX dX8_read_38 ?_
        refine bk_aload_n hX 2 dX8_read_39 rfl ?_
        refine bk_geti hX (k_sht_of hi2).1 rfl fl_X8_171 dX8_read_40 ?_
        refine bk_icmp_ge hX 90 dX8_read_43 rfl ?_ ?_
        · refine bk_iload_n hX 1 dX8_read_90 rfl ?_
          exact fun z => hret _ _ _ _ dX8_read_91 rfl z
        · refine bk_aload_n hX 3 dX8_read_46 rfl ?_
          refine bk_aload_n hX 2 dX8_read_47 rfl ?_
          refine bk_getr hX (k_sht_of hi2).1 rfl fl_X8_172 dX8_read_48 ?_
          refine bk_iload hX 0 dX8_read_51 rfl ?_
          refine bk_iaload hX (k_sht_of hi2).2 dX8_read_53 ?_
          refine bk_aload_n hX 2 dX8_read_54 rfl ?_
          refine bk_getr hX (k_sht_of hi2).1 rfl fl_X8_172 dX8_read_55 ?_
          refine bk_iload hX 0 dX8_read_58 rfl ?_
          refine bk_iconst hX bk_ci_1 dX8_read_60 ?_
          refine bk_iadd hX dX8_read_61 ?_
          refine bk_iaload hX (k_sht_of hi2).2 dX8_read_62 ?_
          refine bk_aload_n hX 2 dX8_read_63 rfl ?_
          refine bk_getr hX (k_sht_of hi2).1 rfl fl_X8_172 dX8_read_64 ?_
          refine bk_iload hX 0 dX8_read_67 rfl ?_
          refine bk_iconst hX bk_ci_2 dX8_read_69 ?_
          refine bk_iadd hX dX8_read_70 ?_
          refine bk_iaload hX (k_sht_of hi2).2 dX8_read_71 ?_
          refine bk_callV_i hX [.int (a9.2.2 ((14 + 2 * Int32.toNatClampNeg x1) + 1) (Int32.toNatClampNeg a9.2.1)), .int (a9.2.2 ((14 + 2 * Int32.toNatClampNeg x1) + 1) (Int32.toNatClampNeg (a9.2.1 + (1 : Int32)))), .int (a9.2.2 ((14 + 2 * Int32.toNatClampNeg x1) + 1) (Int32.toNatClampNeg (a9.2.1 + (2 : Int32))))] [] yk_X8_event yv_X8_event lk_X8_175 rfl rfl kc_0 rfl rfl (Nat.le_of_ble_eq_true rfl) ⟨Nat.le_of_ble_eq_true rfl, Nat.le_of_ble_eq_true rfl⟩ dX8_read_72 (m_X8_event w) (fun r10 σ11 => ?_)
          refine bk_if_ge hX 81 dX8_read_75 rfl ?_ ?_
          · refine bk_iinc hX 1 (fun v12 => [(3, .int v12), (4, .int a9.2.1), (2, .ref (bk_r w (14 + 2 * Int32.toNatClampNeg x1))), (0, .ref (bk_r w 0)), (1, .int x1)]) dX8_read_81 rfl bk_ci_1 (Nat.le_of_ble_eq_true rfl) (fun _ => rfl) (fun v12 => ?_)
            refine bk_iinc hX 1 (fun v13 => [(4, .int v13), (3, .int v12), (2, .ref (bk_r w (14 + 2 * Int32.toNatClampNeg x1))), (0, .ref (bk_r w 0)), (1, .int x1)]) dX8_read_84 rfl bk_ci_3 (Nat.le_of_ble_eq_true rfl) (fun _ => rfl) (fun v13 => ?_)
            refine bk_goto hX 35 dX8_read_87 rfl ?_
            exact bk_pick [0, 1, 2, 3, 4] rfl (hK8 (v12, v13, σ11))
          · exact bk_pick [1, 2, 3, 4] rfl (hK6 (a9.1, σ11))
    · refine bk_aload_n hX 1 dX8_read_24 rfl ?_
      refine bk_iconst hX bk_ci_1 dX8_read_25 ?_
      refine bk_callV_i hX [.int (1 : Int32)] [] yk_X8_findingOf yv_X8_findingOf lk_X8_167 rfl rfl kc_0 rfl rfl (Nat.le_of_ble_eq_true rfl) ⟨Nat.le_of_ble_eq_true rfl, Nat.le_of_ble_eq_true rfl⟩ dX8_read_26 (m_X8_findingOf w) (fun r14 σ15 => ?_)
      exact fun z => hret _ _ _ _ dX8_read_29 rfl z
  · refine bk_bipush hX bk_cb_m2 dX8_read_7 ?_
    exact fun z => hret _ _ _ _ dX8_read_9 rfl z

def w_X8_heat (x1 : Int32) (x2 : Int32) (x3 : Int32) (σ : bk_S) (post : Int32 → bk_S → Prop) : Prop :=
  w_X8_refresh σ (fun σ1 =>
    w_X8_isEvening x1 (fun r2 =>
      (r2 = 0 → post (-2 : Int32) σ1) ∧ (¬ r2 = 0 → (w_X8_isThing x2 σ1 (fun r3 =>
        (r3 = 0 → post (-2 : Int32) σ1) ∧ (¬ r3 = 0 → (w_X8_isBelow x3 (2 : Int32) (fun r4 =>
          (¬ r4 = 0 → (bk_lt (α := Int32) ((x1 * (8 : Int32)) + x2) fun v5 =>
          (¬ x3 = 0 → (vp_in v5 96 ∧ post (σ1 (36 + 6) (Int32.toNatClampNeg v5)) σ1)) ∧ (x3 = 0 → (vp_in v5 96 ∧ post (σ1 (36 + 5) (Int32.toNatClampNeg v5)) σ1)))) ∧ (r4 = 0 → post (-2 : Int32) σ1)))))))))
set_option maxRecDepth 20000 in
theorem m_X8_heat (w : bk_W) {x1 : Int32} {x2 : Int32} {x3 : Int32} {σ : bk_S} {post : Int32 → bk_S → Prop} : w_X8_heat x1 x2 x3 σ post → bk_Mi lyC w yX8_heat cX8_heat 5 .int 5 119 [.ref (bk_r w 0), .int x1, .int x2, .int x3] σ post := by
  intro h0
  refine bk_mi (by decide) (Nat.le_of_ble_eq_true rfl) (fun X hX hret => ?_)
  revert h0
  unfold w_X8_heat
  show _ → bk_At lyC w X 0 [(0, .ref (bk_r w 0)), (1, .int x1), (2, .int x2), (3, .int x3)] [] σ
  refine bk_aload_n hX 0 dX8_heat_0 rfl ?_
  refine bk_callV_v hX [] [] yk_X8_refresh yv_X8_refresh lk_X8_121 rfl rfl kc_0 rfl rfl (Nat.le_of_ble_eq_true rfl) ⟨Nat.le_of_ble_eq_true rfl, Nat.le_of_ble_eq_true rfl⟩ dX8_heat_1 (m_X8_refresh w) (fun σ1 => ?_)
  refine bk_iload_n hX 1 dX8_heat_4 rfl ?_
  refine bk_callS_i hX [.int x1] [] yk_X8_isEvening ys_X8_isEvening lk_X8_179 rfl rfl (Nat.le_of_ble_eq_true rfl) ⟨Nat.le_of_ble_eq_true rfl, Nat.le_of_ble_eq_true rfl⟩ dX8_heat_5 (m_X8_isEvening w) (bk_pu (fun r2 => ?_))
  refine bk_if_eq hX 27 dX8_heat_8 rfl ?_ ?_
  · refine bk_bipush hX bk_cb_m2 dX8_heat_27 ?_
    exact fun z => hret _ _ _ _ dX8_heat_29 rfl z
  · refine bk_aload_n hX 0 dX8_heat_11 rfl ?_
    refine bk_iload_n hX 2 dX8_heat_12 rfl ?_
    refine bk_callV_i hX [.int x2] [] yk_X8_isThing yv_X8_isThing lk_X8_130 rfl rfl kc_0 rfl rfl (Nat.le_of_ble_eq_true rfl) ⟨Nat.le_of_ble_eq_true rfl, Nat.le_of_ble_eq_true rfl⟩ dX8_heat_13 (m_X8_isThing w) (bk_pu (fun r3 => ?_))
    refine bk_if_eq hX 27 dX8_heat_16 rfl ?_ ?_
    · refine bk_bipush hX bk_cb_m2 dX8_heat_27 ?_
      exact fun z => hret _ _ _ _ dX8_heat_29 rfl z
    · refine bk_iload_n hX 3 dX8_heat_19 rfl ?_
      refine bk_iconst hX bk_ci_2 dX8_heat_20 ?_
      refine bk_callS_i hX [.int x3, .int (2 : Int32)] [] yk_X8_isBelow ys_X8_isBelow lk_X8_133 rfl rfl (Nat.le_of_ble_eq_true rfl) ⟨Nat.le_of_ble_eq_true rfl, Nat.le_of_ble_eq_true rfl⟩ dX8_heat_21 (m_X8_isBelow w) (bk_pu (fun r4 => ?_))
      refine bk_if_ne hX 30 dX8_heat_24 rfl ?_ ?_
      · refine bk_iload_n hX 1 dX8_heat_30 rfl ?_
        refine bk_bipush hX bk_cb_8 dX8_heat_31 ?_
        refine bk_imul hX dX8_heat_33 ?_
        refine bk_iload_n hX 2 dX8_heat_34 rfl ?_
        refine bk_iadd hX dX8_heat_35 ?_
        refine bk_istore hX (fun v5 => [(4, .int v5), (0, .ref (bk_r w 0)), (1, .int x1), (2, .int x2), (3, .int x3)]) dX8_heat_36 (Nat.le_of_ble_eq_true rfl) (fun _ => rfl) (fun v5 => ?_)
        refine bk_iload_n hX 4 dX8_heat_38 rfl ?_
        refine bk_if_ne hX 55 dX8_heat_39 rfl ?_ ?_
        · refine bk_aload_n hX 1 dX8_heat_55 rfl ?_
          refine bk_getr hX kc_0 rfl fl_X8_50 dX8_heat_56 ?_
          refine bk_getr hX k_crs_36.1 rfl fl_X8_185 dX8_heat_59 ?_
          refine bk_iload hX 0 dX8_heat_62 rfl ?_
          refine bk_iaload hX k_crs_36.2.2.2.2.2.2.1 dX8_heat_64 ?_
          exact fun z => hret _ _ _ _ dX8_heat_65 rfl z
        · refine bk_aload_n hX 1 dX8_heat_42 rfl ?_
          refine bk_getr hX kc_0 rfl fl_X8_50 dX8_heat_43 ?_
          refine bk_getr hX k_crs_36.1 rfl fl_X8_182 dX8_heat_46 ?_
          refine bk_iload hX 0 dX8_heat_49 rfl ?_
          refine bk_iaload hX k_crs_36.2.2.2.2.2.1 dX8_heat_51 ?_
          refine bk_goto hX 65 dX8_heat_52 rfl ?_
          exact fun z => hret _ _ _ _ dX8_heat_65 rfl z
      · refine bk_bipush hX bk_cb_m2 dX8_heat_27 ?_
        exact fun z => hret _ _ _ _ dX8_heat_29 rfl z

def w_X8_said (x1 : Int32) (x2 : Int32) (σ : bk_S) (post : Int32 → bk_S → Prop) : Prop :=
  w_X8_refresh σ (fun σ1 =>
    w_X8_isEvening x1 (fun r2 =>
      (r2 = 0 → post (-2 : Int32) σ1) ∧ (¬ r2 = 0 → (w_X8_isHook x2 σ1 (fun r3 =>
        (¬ r3 = 0 → (vp_in ((x1 * (12 : Int32)) + x2) 144 ∧ post (σ1 (36 + 7) (Int32.toNatClampNeg ((x1 * (12 : Int32)) + x2))) σ1)) ∧ (r3 = 0 → post (-2 : Int32) σ1))))))
set_option maxRecDepth 20000 in
theorem m_X8_said (w : bk_W) {x1 : Int32} {x2 : Int32} {σ : bk_S} {post : Int32 → bk_S → Prop} : w_X8_said x1 x2 σ post → bk_Mi lyC w yX8_said cX8_said 3 .int 5 119 [.ref (bk_r w 0), .int x1, .int x2] σ post := by
  intro h0
  refine bk_mi (by decide) (Nat.le_of_ble_eq_true rfl) (fun X hX hret => ?_)
  revert h0
  unfold w_X8_said
  show _ → bk_At lyC w X 0 [(0, .ref (bk_r w 0)), (1, .int x1), (2, .int x2)] [] σ
  refine bk_aload_n hX 0 dX8_said_0 rfl ?_
  refine bk_callV_v hX [] [] yk_X8_refresh yv_X8_refresh lk_X8_121 rfl rfl kc_0 rfl rfl (Nat.le_of_ble_eq_true rfl) ⟨Nat.le_of_ble_eq_true rfl, Nat.le_of_ble_eq_true rfl⟩ dX8_said_1 (m_X8_refresh w) (fun σ1 => ?_)
  refine bk_iload_n hX 1 dX8_said_4 rfl ?_
  refine bk_callS_i hX [.int x1] [] yk_X8_isEvening ys_X8_isEvening lk_X8_179 rfl rfl (Nat.le_of_ble_eq_true rfl) ⟨Nat.le_of_ble_eq_true rfl, Nat.le_of_ble_eq_true rfl⟩ dX8_said_5 (m_X8_isEvening w) (bk_pu (fun r2 => ?_))
  refine bk_if_eq hX 19 dX8_said_8 rfl ?_ ?_
  · refine bk_bipush hX bk_cb_m2 dX8_said_19 ?_
    exact fun z => hret _ _ _ _ dX8_said_21 rfl z
  · refine bk_aload_n hX 0 dX8_said_11 rfl ?_
    refine bk_iload_n hX 2 dX8_said_12 rfl ?_
    refine bk_callV_i hX [.int x2] [] yk_X8_isHook yv_X8_isHook lk_X8_124 rfl rfl kc_0 rfl rfl (Nat.le_of_ble_eq_true rfl) ⟨Nat.le_of_ble_eq_true rfl, Nat.le_of_ble_eq_true rfl⟩ dX8_said_13 (m_X8_isHook w) (bk_pu (fun r3 => ?_))
    refine bk_if_ne hX 22 dX8_said_16 rfl ?_ ?_
    · refine bk_aload_n hX 0 dX8_said_22 rfl ?_
      refine bk_getr hX kc_0 rfl fl_X8_50 dX8_said_23 ?_
      refine bk_getr hX k_crs_36.1 rfl fl_X8_188 dX8_said_26 ?_
      refine bk_iload_n hX 1 dX8_said_29 rfl ?_
      refine bk_bipush hX bk_cb_12 dX8_said_30 ?_
      refine bk_imul hX dX8_said_32 ?_
      refine bk_iload_n hX 2 dX8_said_33 rfl ?_
      refine bk_iadd hX dX8_said_34 ?_
      refine bk_iaload hX k_crs_36.2.2.2.2.2.2.2.1 dX8_said_35 ?_
      exact fun z => hret _ _ _ _ dX8_said_36 rfl z
    · refine bk_bipush hX bk_cb_m2 dX8_said_19 ?_
      exact fun z => hret _ _ _ _ dX8_said_21 rfl z

def w_X8_at (x1 : Int32) (x2 : Int32) (σ : bk_S) (post : Int32 → bk_S → Prop) : Prop :=
  w_X8_refresh σ (fun σ1 =>
    w_X8_isEvening x1 (fun r2 =>
      (r2 = 0 → post (-2 : Int32) σ1) ∧ (¬ r2 = 0 → (w_X8_isBelow x2 (4 : Int32) (fun r3 =>
        (¬ r3 = 0 → (w_X1_eveningAnswer 36 x1 x2 σ1 (fun r4 =>
          post r4 σ1))) ∧ (r3 = 0 → post (-2 : Int32) σ1))))))
set_option maxRecDepth 20000 in
theorem m_X8_at (w : bk_W) {x1 : Int32} {x2 : Int32} {σ : bk_S} {post : Int32 → bk_S → Prop} : w_X8_at x1 x2 σ post → bk_Mi lyC w yX8_at cX8_at 3 .int 5 119 [.ref (bk_r w 0), .int x1, .int x2] σ post := by
  intro h0
  refine bk_mi (by decide) (Nat.le_of_ble_eq_true rfl) (fun X hX hret => ?_)
  revert h0
  unfold w_X8_at
  show _ → bk_At lyC w X 0 [(0, .ref (bk_r w 0)), (1, .int x1), (2, .int x2)] [] σ
  refine bk_aload_n hX 0 dX8_at_0 rfl ?_
  refine bk_callV_v hX [] [] yk_X8_refresh yv_X8_refresh lk_X8_121 rfl rfl kc_0 rfl rfl (Nat.le_of_ble_eq_true rfl) ⟨Nat.le_of_ble_eq_true rfl, Nat.le_of_ble_eq_true rfl⟩ dX8_at_1 (m_X8_refresh w) (fun σ1 => ?_)
  refine bk_iload_n hX 1 dX8_at_4 rfl ?_
  refine bk_callS_i hX [.int x1] [] yk_X8_isEvening ys_X8_isEvening lk_X8_179 rfl rfl (Nat.le_of_ble_eq_true rfl) ⟨Nat.le_of_ble_eq_true rfl, Nat.le_of_ble_eq_true rfl⟩ dX8_at_5 (m_X8_isEvening w) (bk_pu (fun r2 => ?_))
  refine bk_if_eq hX 19 dX8_at_8 rfl ?_ ?_
  · refine bk_bipush hX bk_cb_m2 dX8_at_19 ?_
    exact fun z => hret _ _ _ _ dX8_at_21 rfl z
  · refine bk_iload_n hX 2 dX8_at_11 rfl ?_
    refine bk_iconst hX bk_ci_4 dX8_at_12 ?_
    refine bk_callS_i hX [.int x2, .int (4 : Int32)] [] yk_X8_isBelow ys_X8_isBelow lk_X8_133 rfl rfl (Nat.le_of_ble_eq_true rfl) ⟨Nat.le_of_ble_eq_true rfl, Nat.le_of_ble_eq_true rfl⟩ dX8_at_13 (m_X8_isBelow w) (bk_pu (fun r3 => ?_))
    refine bk_if_ne hX 22 dX8_at_16 rfl ?_ ?_
    · refine bk_aload_n hX 0 dX8_at_22 rfl ?_
      refine bk_getr hX kc_0 rfl fl_X8_50 dX8_at_23 ?_
      refine bk_iload_n hX 1 dX8_at_26 rfl ?_
      refine bk_iload_n hX 2 dX8_at_27 rfl ?_
      refine bk_callV_i hX [.int x1, .int x2] [] yk_X1_eveningAnswer yv_X1_eveningAnswer lk_X8_191 rfl rfl k_crs_36.1 rfl rfl (Nat.le_of_ble_eq_true rfl) ⟨Nat.le_of_ble_eq_true rfl, Nat.le_of_ble_eq_true rfl⟩ dX8_at_28 (m_X1_eveningAnswer w k_crs_36) (bk_pu (fun r4 => ?_))
      exact fun z => hret _ _ _ _ dX8_at_31 rfl z
    · refine bk_bipush hX bk_cb_m2 dX8_at_19 ?_
      exact fun z => hret _ _ _ _ dX8_at_21 rfl z

def w_X8_settled (x1 : Int32) (σ : bk_S) (post : Int32 → bk_S → Prop) : Prop :=
  w_X8_refresh σ (fun σ1 =>
    w_X8_isThing x1 σ1 (fun r2 =>
      (r2 = 0 → post (-2 : Int32) σ1) ∧ (¬ r2 = 0 → (vp_in x1 8 ∧ post (σ1 (36 + 2) (Int32.toNatClampNeg x1)) σ1))))
set_option maxRecDepth 20000 in
theorem m_X8_settled (w : bk_W) {x1 : Int32} {σ : bk_S} {post : Int32 → bk_S → Prop} : w_X8_settled x1 σ post → bk_Mi lyC w yX8_settled cX8_settled 2 .int 5 119 [.ref (bk_r w 0), .int x1] σ post := by
  intro h0
  refine bk_mi (by decide) (Nat.le_of_ble_eq_true rfl) (fun X hX hret => ?_)
  revert h0
  unfold w_X8_settled
  show _ → bk_At lyC w X 0 [(0, .ref (bk_r w 0)), (1, .int x1)] [] σ
  refine bk_aload_n hX 0 dX8_settled_0 rfl ?_
  refine bk_callV_v hX [] [] yk_X8_refresh yv_X8_refresh lk_X8_121 rfl rfl kc_0 rfl rfl (Nat.le_of_ble_eq_true rfl) ⟨Nat.le_of_ble_eq_true rfl, Nat.le_of_ble_eq_true rfl⟩ dX8_settled_1 (m_X8_refresh w) (fun σ1 => ?_)
  refine bk_aload_n hX 0 dX8_settled_4 rfl ?_
  refine bk_iload_n hX 1 dX8_settled_5 rfl ?_
  refine bk_callV_i hX [.int x1] [] yk_X8_isThing yv_X8_isThing lk_X8_130 rfl rfl kc_0 rfl rfl (Nat.le_of_ble_eq_true rfl) ⟨Nat.le_of_ble_eq_true rfl, Nat.le_of_ble_eq_true rfl⟩ dX8_settled_6 (m_X8_isThing w) (bk_pu (fun r2 => ?_))
  refine bk_if_eq hX 24 dX8_settled_9 rfl ?_ ?_
  · refine bk_bipush hX bk_cb_m2 dX8_settled_24 ?_
    exact fun z => hret _ _ _ _ dX8_settled_26 rfl z
  · refine bk_aload_n hX 0 dX8_settled_12 rfl ?_
    refine bk_getr hX kc_0 rfl fl_X8_50 dX8_settled_13 ?_
    refine bk_getr hX k_crs_36.1 rfl fl_X8_195 dX8_settled_16 ?_
    refine bk_iload_n hX 1 dX8_settled_19 rfl ?_
    refine bk_iaload hX k_crs_36.2.2.1 dX8_settled_20 ?_
    refine bk_goto hX 26 dX8_settled_21 rfl ?_
    exact fun z => hret _ _ _ _ dX8_settled_26 rfl z

def w_X8_sum (x1 : Int32) (σ : bk_S) (post : Int32 → bk_S → Prop) : Prop :=
  w_X8_refresh σ (fun σ1 =>
    w_X8_isBelow x1 (4 : Int32) (fun r2 =>
      (r2 = 0 → post (-2 : Int32) σ1) ∧ (¬ r2 = 0 → (w_X1_sumAnswer 36 x1 σ1 (fun r3 =>
        post r3 σ1)))))
set_option maxRecDepth 20000 in
theorem m_X8_sum (w : bk_W) {x1 : Int32} {σ : bk_S} {post : Int32 → bk_S → Prop} : w_X8_sum x1 σ post → bk_Mi lyC w yX8_sum cX8_sum 2 .int 5 119 [.ref (bk_r w 0), .int x1] σ post := by
  intro h0
  refine bk_mi (by decide) (Nat.le_of_ble_eq_true rfl) (fun X hX hret => ?_)
  revert h0
  unfold w_X8_sum
  show _ → bk_At lyC w X 0 [(0, .ref (bk_r w 0)), (1, .int x1)] [] σ
  refine bk_aload_n hX 0 dX8_sum_0 rfl ?_
  refine bk_callV_v hX [] [] yk_X8_refresh yv_X8_refresh lk_X8_121 rfl rfl kc_0 rfl rfl (Nat.le_of_ble_eq_true rfl) ⟨Nat.le_of_ble_eq_true rfl, Nat.le_of_ble_eq_true rfl⟩ dX8_sum_1 (m_X8_refresh w) (fun σ1 => ?_)
  refine bk_iload_n hX 1 dX8_sum_4 rfl ?_
  refine bk_iconst hX bk_ci_4 dX8_sum_5 ?_
  refine bk_callS_i hX [.int x1, .int (4 : Int32)] [] yk_X8_isBelow ys_X8_isBelow lk_X8_133 rfl rfl (Nat.le_of_ble_eq_true rfl) ⟨Nat.le_of_ble_eq_true rfl, Nat.le_of_ble_eq_true rfl⟩ dX8_sum_6 (m_X8_isBelow w) (bk_pu (fun r2 => ?_))
  refine bk_if_eq hX 23 dX8_sum_9 rfl ?_ ?_
  · refine bk_bipush hX bk_cb_m2 dX8_sum_23 ?_
    exact fun z => hret _ _ _ _ dX8_sum_25 rfl z
  · refine bk_aload_n hX 0 dX8_sum_12 rfl ?_
    refine bk_getr hX kc_0 rfl fl_X8_50 dX8_sum_13 ?_
    refine bk_iload_n hX 1 dX8_sum_16 rfl ?_
    refine bk_callV_i hX [.int x1] [] yk_X1_sumAnswer yv_X1_sumAnswer lk_X8_198 rfl rfl k_crs_36.1 rfl rfl (Nat.le_of_ble_eq_true rfl) ⟨Nat.le_of_ble_eq_true rfl, Nat.le_of_ble_eq_true rfl⟩ dX8_sum_17 (m_X1_sumAnswer w k_crs_36) (bk_pu (fun r3 => ?_))
    refine bk_goto hX 25 dX8_sum_20 rfl ?_
    exact fun z => hret _ _ _ _ dX8_sum_25 rfl z

def w_X8_peace (σ : bk_S) (post : Int32 → bk_S → Prop) : Prop :=
  w_X8_refresh σ (fun σ1 =>
    w_X4_allThings 22 σ1 (fun r2 =>
      w_X1_firstPeace 36 r2 σ1 (fun r3 =>
        post r3 σ1)))
set_option maxRecDepth 20000 in
theorem m_X8_peace (w : bk_W) {σ : bk_S} {post : Int32 → bk_S → Prop} : w_X8_peace σ post → bk_Mi lyC w yX8_peace cX8_peace 1 .int 5 119 [.ref (bk_r w 0)] σ post := by
  intro h0
  refine bk_mi (by decide) (Nat.le_of_ble_eq_true rfl) (fun X hX hret => ?_)
  revert h0
  unfold w_X8_peace
  show _ → bk_At lyC w X 0 [(0, .ref (bk_r w 0))] [] σ
  refine bk_aload_n hX 0 dX8_peace_0 rfl ?_
  refine bk_callV_v hX [] [] yk_X8_refresh yv_X8_refresh lk_X8_121 rfl rfl kc_0 rfl rfl (Nat.le_of_ble_eq_true rfl) ⟨Nat.le_of_ble_eq_true rfl, Nat.le_of_ble_eq_true rfl⟩ dX8_peace_1 (m_X8_refresh w) (fun σ1 => ?_)
  refine bk_aload_n hX 0 dX8_peace_4 rfl ?_
  refine bk_getr hX kc_0 rfl fl_X8_50 dX8_peace_5 ?_
  refine bk_aload_n hX 0 dX8_peace_8 rfl ?_
  refine bk_getr hX kc_0 rfl fl_X8_40 dX8_peace_9 ?_
  refine bk_callV_i hX [] [.ref (bk_r w 36)] yk_X4_allThings yv_X4_allThings lk_X8_201 rfl rfl k_set_22.1 rfl rfl (Nat.le_of_ble_eq_true rfl) ⟨Nat.le_of_ble_eq_true rfl, Nat.le_of_ble_eq_true rfl⟩ dX8_peace_12 (m_X4_allThings w k_set_22) (bk_pu (fun r2 => ?_))
  refine bk_callV_i hX [.int r2] [] yk_X1_firstPeace yv_X1_firstPeace lk_X8_204 rfl rfl k_crs_36.1 rfl rfl (Nat.le_of_ble_eq_true rfl) ⟨Nat.le_of_ble_eq_true rfl, Nat.le_of_ble_eq_true rfl⟩ dX8_peace_15 (m_X1_firstPeace w k_crs_36) (bk_pu (fun r3 => ?_))
  exact fun z => hret _ _ _ _ dX8_peace_18 rfl z

def w_X8_longest (σ : bk_S) (post : Int32 → bk_S → Prop) : Prop :=
  w_X8_refresh σ (fun σ1 =>
    w_X1_thingSaidMost 36 σ1 (fun r2 =>
      post r2 σ1))
set_option maxRecDepth 20000 in
theorem m_X8_longest (w : bk_W) {σ : bk_S} {post : Int32 → bk_S → Prop} : w_X8_longest σ post → bk_Mi lyC w yX8_longest cX8_longest 1 .int 5 119 [.ref (bk_r w 0)] σ post := by
  intro h0
  refine bk_mi (by decide) (Nat.le_of_ble_eq_true rfl) (fun X hX hret => ?_)
  revert h0
  unfold w_X8_longest
  show _ → bk_At lyC w X 0 [(0, .ref (bk_r w 0))] [] σ
  refine bk_aload_n hX 0 dX8_longest_0 rfl ?_
  refine bk_callV_v hX [] [] yk_X8_refresh yv_X8_refresh lk_X8_121 rfl rfl kc_0 rfl rfl (Nat.le_of_ble_eq_true rfl) ⟨Nat.le_of_ble_eq_true rfl, Nat.le_of_ble_eq_true rfl⟩ dX8_longest_1 (m_X8_refresh w) (fun σ1 => ?_)
  refine bk_aload_n hX 0 dX8_longest_4 rfl ?_
  refine bk_getr hX kc_0 rfl fl_X8_50 dX8_longest_5 ?_
  refine bk_callV_i hX [] [] yk_X1_thingSaidMost yv_X1_thingSaidMost lk_X8_207 rfl rfl k_crs_36.1 rfl rfl (Nat.le_of_ble_eq_true rfl) ⟨Nat.le_of_ble_eq_true rfl, Nat.le_of_ble_eq_true rfl⟩ dX8_longest_8 (m_X1_thingSaidMost w k_crs_36) (bk_pu (fun r2 => ?_))
  exact fun z => hret _ _ _ _ dX8_longest_11 rfl z

def w_X8_highest (x1 : Int32) (σ : bk_S) (post : Int32 → bk_S → Prop) : Prop :=
  w_X8_refresh σ (fun σ1 =>
    w_X8_isThing x1 σ1 (fun r2 =>
      (r2 = 0 → post (-2 : Int32) σ1) ∧ (¬ r2 = 0 → (vp_in x1 8 ∧ post (σ1 (36 + 3) (Int32.toNatClampNeg x1)) σ1))))
set_option maxRecDepth 20000 in
theorem m_X8_highest (w : bk_W) {x1 : Int32} {σ : bk_S} {post : Int32 → bk_S → Prop} : w_X8_highest x1 σ post → bk_Mi lyC w yX8_highest cX8_highest 2 .int 5 119 [.ref (bk_r w 0), .int x1] σ post := by
  intro h0
  refine bk_mi (by decide) (Nat.le_of_ble_eq_true rfl) (fun X hX hret => ?_)
  revert h0
  unfold w_X8_highest
  show _ → bk_At lyC w X 0 [(0, .ref (bk_r w 0)), (1, .int x1)] [] σ
  refine bk_aload_n hX 0 dX8_highest_0 rfl ?_
  refine bk_callV_v hX [] [] yk_X8_refresh yv_X8_refresh lk_X8_121 rfl rfl kc_0 rfl rfl (Nat.le_of_ble_eq_true rfl) ⟨Nat.le_of_ble_eq_true rfl, Nat.le_of_ble_eq_true rfl⟩ dX8_highest_1 (m_X8_refresh w) (fun σ1 => ?_)
  refine bk_aload_n hX 0 dX8_highest_4 rfl ?_
  refine bk_iload_n hX 1 dX8_highest_5 rfl ?_
  refine bk_callV_i hX [.int x1] [] yk_X8_isThing yv_X8_isThing lk_X8_130 rfl rfl kc_0 rfl rfl (Nat.le_of_ble_eq_true rfl) ⟨Nat.le_of_ble_eq_true rfl, Nat.le_of_ble_eq_true rfl⟩ dX8_highest_6 (m_X8_isThing w) (bk_pu (fun r2 => ?_))
  refine bk_if_eq hX 24 dX8_highest_9 rfl ?_ ?_
  · refine bk_bipush hX bk_cb_m2 dX8_highest_24 ?_
    exact fun z => hret _ _ _ _ dX8_highest_26 rfl z
  · refine bk_aload_n hX 0 dX8_highest_12 rfl ?_
    refine bk_getr hX kc_0 rfl fl_X8_50 dX8_highest_13 ?_
    refine bk_getr hX k_crs_36.1 rfl fl_X8_210 dX8_highest_16 ?_
    refine bk_iload_n hX 1 dX8_highest_19 rfl ?_
    refine bk_iaload hX k_crs_36.2.2.2.1 dX8_highest_20 ?_
    refine bk_goto hX 26 dX8_highest_21 rfl ?_
    exact fun z => hret _ _ _ _ dX8_highest_26 rfl z

def w_X8_unsettledThings (σ : bk_S) (post : Int32 → Prop) : Prop :=
  w_X4_allThings 22 σ (fun r1 =>
    w_X1_settledBehind 36 (11 : Int32) σ (fun r2 =>
      post (r1 &&& (r2 ^^^ (-1 : Int32)))))
set_option maxRecDepth 20000 in
theorem m_X8_unsettledThings (w : bk_W) {σ : bk_S} {post : Int32 → Prop} : w_X8_unsettledThings σ post → bk_Mi lyC w yX8_unsettledThings cX8_unsettledThings 1 .int 1 23 [.ref (bk_r w 0)] σ (fun r σ1 => post r ∧ σ1 = σ) := by
  intro h0
  refine bk_mi (by decide) (Nat.le_of_ble_eq_true rfl) (fun X hX hret => ?_)
  revert h0
  unfold w_X8_unsettledThings
  show _ → bk_At lyC w X 0 [(0, .ref (bk_r w 0))] [] σ
  refine bk_aload_n hX 0 dX8_unsettledThings_0 rfl ?_
  refine bk_getr hX kc_0 rfl fl_X8_40 dX8_unsettledThings_1 ?_
  refine bk_callV_i hX [] [] yk_X4_allThings yv_X4_allThings lk_X8_201 rfl rfl k_set_22.1 rfl rfl (Nat.le_of_ble_eq_true rfl) ⟨Nat.le_of_ble_eq_true rfl, Nat.le_of_ble_eq_true rfl⟩ dX8_unsettledThings_4 (m_X4_allThings w k_set_22) (bk_pu (fun r1 => ?_))
  refine bk_aload_n hX 0 dX8_unsettledThings_7 rfl ?_
  refine bk_getr hX kc_0 rfl fl_X8_50 dX8_unsettledThings_8 ?_
  refine bk_bipush hX bk_cb_11 dX8_unsettledThings_11 ?_
  refine bk_callV_i hX [.int (11 : Int32)] [.int r1] yk_X1_settledBehind yv_X1_settledBehind lk_X8_356 rfl rfl k_crs_36.1 rfl rfl (Nat.le_of_ble_eq_true rfl) ⟨Nat.le_of_ble_eq_true rfl, Nat.le_of_ble_eq_true rfl⟩ dX8_unsettledThings_13 (m_X1_settledBehind w k_crs_36) (bk_pu (fun r2 => ?_))
  refine bk_iconst hX bk_ci_m1 dX8_unsettledThings_16 ?_
  refine bk_ixor hX dX8_unsettledThings_17 ?_
  refine bk_iand hX dX8_unsettledThings_18 ?_
  exact fun z => hret _ _ _ _ dX8_unsettledThings_19 rfl ⟨z, rfl⟩

def w_X8_sore (σ : bk_S) (post : Int32 → bk_S → Prop) : Prop :=
  w_X8_refresh σ (fun σ1 =>
    w_X8_unsettledThings σ1 (fun r2 =>
      post r2 σ1))
set_option maxRecDepth 20000 in
theorem m_X8_sore (w : bk_W) {σ : bk_S} {post : Int32 → bk_S → Prop} : w_X8_sore σ post → bk_Mi lyC w yX8_sore cX8_sore 1 .int 5 119 [.ref (bk_r w 0)] σ post := by
  intro h0
  refine bk_mi (by decide) (Nat.le_of_ble_eq_true rfl) (fun X hX hret => ?_)
  revert h0
  unfold w_X8_sore
  show _ → bk_At lyC w X 0 [(0, .ref (bk_r w 0))] [] σ
  refine bk_aload_n hX 0 dX8_sore_0 rfl ?_
  refine bk_callV_v hX [] [] yk_X8_refresh yv_X8_refresh lk_X8_121 rfl rfl kc_0 rfl rfl (Nat.le_of_ble_eq_true rfl) ⟨Nat.le_of_ble_eq_true rfl, Nat.le_of_ble_eq_true rfl⟩ dX8_sore_1 (m_X8_refresh w) (fun σ1 => ?_)
  refine bk_aload_n hX 0 dX8_sore_4 rfl ?_
  refine bk_callV_i hX [] [] yk_X8_unsettledThings yv_X8_unsettledThings lk_X8_213 rfl rfl kc_0 rfl rfl (Nat.le_of_ble_eq_true rfl) ⟨Nat.le_of_ble_eq_true rfl, Nat.le_of_ble_eq_true rfl⟩ dX8_sore_5 (m_X8_unsettledThings w) (bk_pu (fun r2 => ?_))
  exact fun z => hret _ _ _ _ dX8_sore_8 rfl z

def w_X8_chooseSwap (σ : bk_S) (post : bk_S → Prop) : Prop :=
  w_X4_copyFrom 29 22 σ (fun σ1 =>
    w_X0_clear 60 σ1 (fun σ2 =>
      bk_lt (α := Int32) (0 : Int32) fun v3 =>
      bk_loop (α := Int32 × bk_S) (fun K4 a5 =>
        ((a5.2 22 1) ≤ a5.1 → post a5.2) ∧ (¬ (a5.2 22 1) ≤ a5.1 → (bk_lt (α := Int32) (a5.1 + (1 : Int32)) fun v6 =>
        bk_loop (α := Int32 × bk_S) (fun K7 a8 =>
          ((a8.2 22 1) ≤ a8.1 → (bk_lt (α := Int32) (a5.1 + (1 : Int32)) fun v9 =>
          K4 (v9, a8.2))) ∧ (¬ (a8.2 22 1) ≤ a8.1 → (w_X4_exchange 29 a5.1 a8.1 a8.2 (fun σ10 =>
            w_X1_run 48 29 σ10 (fun σ11 =>
              w_X8_sumOf (48 + 9) 12 σ11 (fun r12 =>
                w_X0_offer 60 a5.1 a8.1 (σ11 48 11) r12 σ11 (fun σ13 =>
                  w_X4_exchange 29 a5.1 a8.1 σ13 (fun σ14 =>
                    bk_lt (α := Int32) (a8.1 + (1 : Int32)) fun v15 =>
                    K7 (v15, σ14))))))))) (v6, a5.2)))) (v3, σ2)))
set_option maxRecDepth 20000 in
theorem m_X8_chooseSwap (w : bk_W) {σ : bk_S} {post : bk_S → Prop} : w_X8_chooseSwap σ post → bk_Mv lyC w yX8_chooseSwap cX8_chooseSwap 3 4 99 [.ref (bk_r w 0)] σ post := by
  intro h0
  refine bk_mv (by decide) (Nat.le_of_ble_eq_true rfl) (fun X hX hret => ?_)
  revert h0
  unfold w_X8_chooseSwap
  show _ → bk_At lyC w X 0 [(0, .ref (bk_r w 0))] [] σ
  refine bk_aload_n hX 0 dX8_chooseSwap_0 rfl ?_
  refine bk_getr hX kc_0 rfl fl_X8_44 dX8_chooseSwap_1 ?_
  refine bk_aload_n hX 0 dX8_chooseSwap_4 rfl ?_
  refine bk_getr hX kc_0 rfl fl_X8_40 dX8_chooseSwap_5 ?_
  refine bk_callV_v hX [.ref (bk_r w 22)] [] yk_X4_copyFrom yv_X4_copyFrom lk_X8_359 rfl rfl k_set_29.1 rfl rfl (Nat.le_of_ble_eq_true rfl) ⟨Nat.le_of_ble_eq_true rfl, Nat.le_of_ble_eq_true rfl⟩ dX8_chooseSwap_8 (m_X4_copyFrom w k_set_29 k_set_22) (fun σ1 => ?_)
  refine bk_aload_n hX 0 dX8_chooseSwap_11 rfl ?_
  refine bk_getr hX kc_0 rfl fl_X8_60 dX8_chooseSwap_12 ?_
  refine bk_callV_v hX [] [] yk_X0_clear yv_X0_clear lk_X8_362 rfl rfl k_cho_60 rfl rfl (Nat.le_of_ble_eq_true rfl) ⟨Nat.le_of_ble_eq_true rfl, Nat.le_of_ble_eq_true rfl⟩ dX8_chooseSwap_15 (m_X0_clear w k_cho_60) (fun σ2 => ?_)
  refine bk_iconst hX bk_ci_0 dX8_chooseSwap_18 ?_
  refine bk_istore_n hX (fun v3 => [(1, .int v3), (0, .ref (bk_r w 0))]) dX8_chooseSwap_19 (Nat.le_of_ble_eq_true rfl) (fun _ => rfl) (fun v3 => ?_)
  refine bk_pick [0, 1] rfl (bk_r_loop (α := Int32 × bk_S) (J := fun a => bk_At lyC w X 20 [(1, .int a.1), (0, .ref (bk_r w 0))] [] a.2) (v3, σ2) (fun K4 hK4 a5 => ?_))
  refine bk_iload_n hX 0 dX8_chooseSwap_20 rfl ?_
  refine bk_aload_n hX 1 dX8_chooseSwap_21 rfl ?_
  refine bk_getr hX kc_0 rfl fl_X8_40 dX8_chooseSwap_22 ?_
  refine bk_geti hX k_set_22.1 rfl fl_X8_305 dX8_chooseSwap_25 ?_
  refine bk_icmp_ge hX 113 dX8_chooseSwap_28 rfl ?_ ?_
  · exact fun z => hret _ _ _ dX8_chooseSwap_113 z
  · refine bk_iload_n hX 0 dX8_chooseSwap_31 rfl ?_
    refine bk_iconst hX bk_ci_1 dX8_chooseSwap_32 ?_
    refine bk_iadd hX dX8_chooseSwap_33 ?_
    refine bk_istore_n hX (fun v6 => [(2, .int v6), (1, .int a5.1), (0, .ref (bk_r w 0))]) dX8_chooseSwap_34 (Nat.le_of_ble_eq_true rfl) (fun _ => rfl) (fun v6 => ?_)
    refine bk_pick [0, 1, 2] rfl (bk_r_loop (α := Int32 × bk_S) (J := fun a => bk_At lyC w X 35 [(2, .int a.1), (1, .int a5.1), (0, .ref (bk_r w 0))] [] a.2) (v6, a5.2) (fun K7 hK7 a8 => ?_))
    refine bk_iload_n hX 0 dX8_chooseSwap_35 rfl ?_
    refine bk_aload_n hX 2 dX8_chooseSwap_36 rfl ?_
    refine bk_getr hX kc_0 rfl fl_X8_40 dX8_chooseSwap_37 ?_
    refine bk_geti hX k_set_22.1 rfl fl_X8_305 dX8_chooseSwap_40 ?_
    refine bk_icmp_ge hX 107 dX8_chooseSwap_43 rfl ?_ ?_
    · refine bk_iinc hX 1 (fun v9 => [(1, .int v9), (2, .int a8.1), (0, .ref (bk_r w 0))]) dX8_chooseSwap_107 rfl bk_ci_1 (Nat.le_of_ble_eq_true rfl) (fun _ => rfl) (fun v9 => ?_)
      refine bk_goto hX 20 dX8_chooseSwap_110 rfl ?_
      exact bk_pick [0, 2] rfl (hK4 (v9, a8.2))
    · refine bk_aload_n hX 2 dX8_chooseSwap_46 rfl ?_
      refine bk_getr hX kc_0 rfl fl_X8_44 dX8_chooseSwap_47 ?_
      refine bk_iload_n hX 1 dX8_chooseSwap_50 rfl ?_
      refine bk_iload_n hX 0 dX8_chooseSwap_51 rfl ?_
      refine bk_callV_v hX [.int a5.1, .int a8.1] [] yk_X4_exchange yv_X4_exchange lk_X8_365 rfl rfl k_set_29.1 rfl rfl (Nat.le_of_ble_eq_true rfl) ⟨Nat.le_of_ble_eq_true rfl, Nat.le_of_ble_eq_true rfl⟩ dX8_chooseSwap_52 (m_X4_exchange w k_set_29) (fun σ10 => ?_)
      refine bk_aload_n hX 2 dX8_chooseSwap_55 rfl ?_
      refine bk_getr hX kc_0 rfl fl_X8_54 dX8_chooseSwap_56 ?_
      refine bk_aload_n hX 2 dX8_chooseSwap_59 rfl ?_
      refine bk_getr hX kc_0 rfl fl_X8_44 dX8_chooseSwap_60 ?_
      refine bk_callV_v hX [.ref (bk_r w 29)] [] yk_X1_run yv_X1_run lk_X8_352 rfl rfl k_crs_48.1 rfl rfl (Nat.le_of_ble_eq_true rfl) ⟨Nat.le_of_ble_eq_true rfl, Nat.le_of_ble_eq_true rfl⟩ dX8_chooseSwap_63 (m_X1_run w k_crs_48 k_set_29) (fun σ11 => ?_)
      refine bk_aload_n hX 2 dX8_chooseSwap_66 rfl ?_
      refine bk_getr hX kc_0 rfl fl_X8_60 dX8_chooseSwap_67 ?_
      refine bk_iload_n hX 1 dX8_chooseSwap_70 rfl ?_
      refine bk_iload_n hX 0 dX8_chooseSwap_71 rfl ?_
      refine bk_aload_n hX 2 dX8_chooseSwap_72 rfl ?_
      refine bk_getr hX kc_0 rfl fl_X8_54 dX8_chooseSwap_73 ?_
      refine bk_geti hX k_crs_48.1 rfl fl_X8_265 dX8_chooseSwap_76 ?_
      refine bk_aload_n hX 2 dX8_chooseSwap_79 rfl ?_
      refine bk_getr hX kc_0 rfl fl_X8_54 dX8_chooseSwap_80 ?_
      refine bk_getr hX k_crs_48.1 rfl fl_X8_268 dX8_chooseSwap_83 ?_
      refine bk_callS_i hX [.ref (bk_r w (48 + 9))] [.int (σ11 48 11), .int a8.1, .int a5.1, .ref (bk_r w 60)] yk_X8_sumOf ys_X8_sumOf lk_X8_271 rfl rfl (Nat.le_of_ble_eq_true rfl) ⟨Nat.le_of_ble_eq_true rfl, Nat.le_of_ble_eq_true rfl⟩ dX8_chooseSwap_86 (m_X8_sumOf w k_crs_48.2.2.2.2.2.2.2.2.2.1) (bk_pu (fun r12 => ?_))
      refine bk_callV_v hX [.int a5.1, .int a8.1, .int (σ11 48 11), .int r12] [] yk_X0_offer yv_X0_offer lk_X8_368 rfl rfl k_cho_60 rfl rfl (Nat.le_of_ble_eq_true rfl) ⟨Nat.le_of_ble_eq_true rfl, Nat.le_of_ble_eq_true rfl⟩ dX8_chooseSwap_89 (m_X0_offer w k_cho_60) (fun σ13 => ?_)
      refine bk_aload_n hX 2 dX8_chooseSwap_92 rfl ?_
      refine bk_getr hX kc_0 rfl fl_X8_44 dX8_chooseSwap_93 ?_
      refine bk_iload_n hX 1 dX8_chooseSwap_96 rfl ?_
      refine bk_iload_n hX 0 dX8_chooseSwap_97 rfl ?_
      refine bk_callV_v hX [.int a5.1, .int a8.1] [] yk_X4_exchange yv_X4_exchange lk_X8_365 rfl rfl k_set_29.1 rfl rfl (Nat.le_of_ble_eq_true rfl) ⟨Nat.le_of_ble_eq_true rfl, Nat.le_of_ble_eq_true rfl⟩ dX8_chooseSwap_98 (m_X4_exchange w k_set_29) (fun σ14 => ?_)
      refine bk_iinc hX 0 (fun v15 => [(2, .int v15), (1, .int a5.1), (0, .ref (bk_r w 0))]) dX8_chooseSwap_101 rfl bk_ci_1 (Nat.le_of_ble_eq_true rfl) (fun _ => rfl) (fun v15 => ?_)
      refine bk_goto hX 35 dX8_chooseSwap_104 rfl ?_
      exact bk_pick [0, 1, 2] rfl (hK7 (v15, σ14))

def w_X8_swap (x1 : Int32) (σ : bk_S) (post : Int32 → bk_S → Prop) : Prop :=
  w_X8_isBelow x1 (4 : Int32) (fun r1 =>
    (¬ r1 = 0 → (w_X8_refresh σ (fun σ2 =>
      w_X8_chooseSwap σ2 (fun σ3 =>
        w_X0_swapAnswer 60 x1 σ3 (fun r4 =>
          post r4 σ3))))) ∧ (r1 = 0 → post (-2 : Int32) σ))
set_option maxRecDepth 20000 in
theorem m_X8_swap (w : bk_W) {x1 : Int32} {σ : bk_S} {post : Int32 → bk_S → Prop} : w_X8_swap x1 σ post → bk_Mi lyC w yX8_swap cX8_swap 2 .int 5 121 [.ref (bk_r w 0), .int x1] σ post := by
  intro h0
  refine bk_mi (by decide) (Nat.le_of_ble_eq_true rfl) (fun X hX hret => ?_)
  revert h0
  unfold w_X8_swap
  show _ → bk_At lyC w X 0 [(0, .ref (bk_r w 0)), (1, .int x1)] [] σ
  refine bk_iload_n hX 1 dX8_swap_0 rfl ?_
  refine bk_iconst hX bk_ci_4 dX8_swap_1 ?_
  refine bk_callS_i hX [.int x1, .int (4 : Int32)] [] yk_X8_isBelow ys_X8_isBelow lk_X8_133 rfl rfl (Nat.le_of_ble_eq_true rfl) ⟨Nat.le_of_ble_eq_true rfl, Nat.le_of_ble_eq_true rfl⟩ dX8_swap_2 (m_X8_isBelow w) (bk_pu (fun r1 => ?_))
  refine bk_if_ne hX 11 dX8_swap_5 rfl ?_ ?_
  · refine bk_aload_n hX 0 dX8_swap_11 rfl ?_
    refine bk_callV_v hX [] [] yk_X8_refresh yv_X8_refresh lk_X8_121 rfl rfl kc_0 rfl rfl (Nat.le_of_ble_eq_true rfl) ⟨Nat.le_of_ble_eq_true rfl, Nat.le_of_ble_eq_true rfl⟩ dX8_swap_12 (m_X8_refresh w) (fun σ2 => ?_)
    refine bk_aload_n hX 0 dX8_swap_15 rfl ?_
    refine bk_callV_v hX [] [] yk_X8_chooseSwap yv_X8_chooseSwap lk_X8_216 rfl rfl kc_0 rfl rfl (Nat.le_of_ble_eq_true rfl) ⟨Nat.le_of_ble_eq_true rfl, Nat.le_of_ble_eq_true rfl⟩ dX8_swap_16 (m_X8_chooseSwap w) (fun σ3 => ?_)
    refine bk_aload_n hX 0 dX8_swap_19 rfl ?_
    refine bk_getr hX kc_0 rfl fl_X8_60 dX8_swap_20 ?_
    refine bk_iload_n hX 1 dX8_swap_23 rfl ?_
    refine bk_callV_i hX [.int x1] [] yk_X0_swapAnswer yv_X0_swapAnswer lk_X8_219 rfl rfl k_cho_60 rfl rfl (Nat.le_of_ble_eq_true rfl) ⟨Nat.le_of_ble_eq_true rfl, Nat.le_of_ble_eq_true rfl⟩ dX8_swap_24 (m_X0_swapAnswer w k_cho_60) (bk_pu (fun r4 => ?_))
    exact fun z => hret _ _ _ _ dX8_swap_27 rfl z
  · refine bk_bipush hX bk_cb_m2 dX8_swap_8 ?_
    exact fun z => hret _ _ _ _ dX8_swap_10 rfl z

def w_X8_fewestHooks (σ : bk_S) (post : Int32 → bk_S → Prop) : Prop :=
  w_X4_copyFrom 29 22 σ (fun σ1 =>
    bk_lt (α := Int32) (0 : Int32) fun v2 =>
    bk_loop (α := Int32 × bk_S) (fun K3 a4 =>
      ((a4.2 22 0) < a4.1 → post (-1 : Int32) a4.2) ∧ (¬ (a4.2 22 0) < a4.1 → (bk_lt (α := bk_S) (bk_u a4.2 29 0 a4.1) fun σ5 =>
      w_X1_run 48 29 σ5 (fun σ6 =>
        (¬ (σ6 48 11) = (σ6 29 1) → (bk_lt (α := Int32) (a4.1 + (1 : Int32)) fun v7 =>
        K3 (v7, σ6))) ∧ ((σ6 48 11) = (σ6 29 1) → post a4.1 σ6))))) (v2, σ1))
set_option maxRecDepth 20000 in
theorem m_X8_fewestHooks (w : bk_W) {σ : bk_S} {post : Int32 → bk_S → Prop} : w_X8_fewestHooks σ post → bk_Mi lyC w yX8_fewestHooks cX8_fewestHooks 2 .int 4 99 [.ref (bk_r w 0)] σ post := by
  intro h0
  refine bk_mi (by decide) (Nat.le_of_ble_eq_true rfl) (fun X hX hret => ?_)
  revert h0
  unfold w_X8_fewestHooks
  show _ → bk_At lyC w X 0 [(0, .ref (bk_r w 0))] [] σ
  refine bk_aload_n hX 0 dX8_fewestHooks_0 rfl ?_
  refine bk_getr hX kc_0 rfl fl_X8_44 dX8_fewestHooks_1 ?_
  refine bk_aload_n hX 0 dX8_fewestHooks_4 rfl ?_
  refine bk_getr hX kc_0 rfl fl_X8_40 dX8_fewestHooks_5 ?_
  refine bk_callV_v hX [.ref (bk_r w 22)] [] yk_X4_copyFrom yv_X4_copyFrom lk_X8_359 rfl rfl k_set_29.1 rfl rfl (Nat.le_of_ble_eq_true rfl) ⟨Nat.le_of_ble_eq_true rfl, Nat.le_of_ble_eq_true rfl⟩ dX8_fewestHooks_8 (m_X4_copyFrom w k_set_29 k_set_22) (fun σ1 => ?_)
  refine bk_iconst hX bk_ci_0 dX8_fewestHooks_11 ?_
  refine bk_istore_n hX (fun v2 => [(1, .int v2), (0, .ref (bk_r w 0))]) dX8_fewestHooks_12 (Nat.le_of_ble_eq_true rfl) (fun _ => rfl) (fun v2 => ?_)
  refine bk_pick [0, 1] rfl (bk_r_loop (α := Int32 × bk_S) (J := fun a => bk_At lyC w X 13 [(1, .int a.1), (0, .ref (bk_r w 0))] [] a.2) (v2, σ1) (fun K3 hK3 a4 => ?_))
  refine bk_iload_n hX 0 dX8_fewestHooks_13 rfl ?_
  refine bk_aload_n hX 1 dX8_fewestHooks_14 rfl ?_
  refine bk_getr hX kc_0 rfl fl_X8_40 dX8_fewestHooks_15 ?_
  refine bk_geti hX k_set_22.1 rfl fl_X8_297 dX8_fewestHooks_18 ?_
  refine bk_icmp_gt hX 68 dX8_fewestHooks_21 rfl ?_ ?_
  · refine bk_iconst hX bk_ci_m1 dX8_fewestHooks_68 ?_
    exact fun z => hret _ _ _ _ dX8_fewestHooks_69 rfl z
  · refine bk_aload_n hX 1 dX8_fewestHooks_24 rfl ?_
    refine bk_getr hX kc_0 rfl fl_X8_44 dX8_fewestHooks_25 ?_
    refine bk_iload_n hX 0 dX8_fewestHooks_28 rfl ?_
    refine bk_putI hX k_set_29.1 rfl fp_X8_297 dX8_fewestHooks_29 (fun σ5 => ?_)
    refine bk_aload_n hX 1 dX8_fewestHooks_32 rfl ?_
    refine bk_getr hX kc_0 rfl fl_X8_54 dX8_fewestHooks_33 ?_
    refine bk_aload_n hX 1 dX8_fewestHooks_36 rfl ?_
    refine bk_getr hX kc_0 rfl fl_X8_44 dX8_fewestHooks_37 ?_
    refine bk_callV_v hX [.ref (bk_r w 29)] [] yk_X1_run yv_X1_run lk_X8_352 rfl rfl k_crs_48.1 rfl rfl (Nat.le_of_ble_eq_true rfl) ⟨Nat.le_of_ble_eq_true rfl, Nat.le_of_ble_eq_true rfl⟩ dX8_fewestHooks_40 (m_X1_run w k_crs_48 k_set_29) (fun σ6 => ?_)
    refine bk_aload_n hX 1 dX8_fewestHooks_43 rfl ?_
    refine bk_getr hX kc_0 rfl fl_X8_54 dX8_fewestHooks_44 ?_
    refine bk_geti hX k_crs_48.1 rfl fl_X8_265 dX8_fewestHooks_47 ?_
    refine bk_aload_n hX 1 dX8_fewestHooks_50 rfl ?_
    refine bk_getr hX kc_0 rfl fl_X8_44 dX8_fewestHooks_51 ?_
    refine bk_geti hX k_set_29.1 rfl fl_X8_305 dX8_fewestHooks_54 ?_
    refine bk_icmp_ne hX 62 dX8_fewestHooks_57 rfl ?_ ?_
    · refine bk_iinc hX 0 (fun v7 => [(1, .int v7), (0, .ref (bk_r w 0))]) dX8_fewestHooks_62 rfl bk_ci_1 (Nat.le_of_ble_eq_true rfl) (fun _ => rfl) (fun v7 => ?_)
      refine bk_goto hX 13 dX8_fewestHooks_65 rfl ?_
      exact bk_pick [0, 1] rfl (hK3 (v7, σ6))
    · refine bk_iload_n hX 0 dX8_fewestHooks_60 rfl ?_
      exact fun z => hret _ _ _ _ dX8_fewestHooks_61 rfl z

def w_X8_fit (σ : bk_S) (post : Int32 → bk_S → Prop) : Prop :=
  w_X8_refresh σ (fun σ1 =>
    w_X8_fewestHooks σ1 (fun r2 σ3 =>
      post r2 σ3))
set_option maxRecDepth 20000 in
theorem m_X8_fit (w : bk_W) {σ : bk_S} {post : Int32 → bk_S → Prop} : w_X8_fit σ post → bk_Mi lyC w yX8_fit cX8_fit 1 .int 5 120 [.ref (bk_r w 0)] σ post := by
  intro h0
  refine bk_mi (by decide) (Nat.le_of_ble_eq_true rfl) (fun X hX hret => ?_)
  revert h0
  unfold w_X8_fit
  show _ → bk_At lyC w X 0 [(0, .ref (bk_r w 0))] [] σ
  refine bk_aload_n hX 0 dX8_fit_0 rfl ?_
  refine bk_callV_v hX [] [] yk_X8_refresh yv_X8_refresh lk_X8_121 rfl rfl kc_0 rfl rfl (Nat.le_of_ble_eq_true rfl) ⟨Nat.le_of_ble_eq_true rfl, Nat.le_of_ble_eq_true rfl⟩ dX8_fit_1 (m_X8_refresh w) (fun σ1 => ?_)
  refine bk_aload_n hX 0 dX8_fit_4 rfl ?_
  refine bk_callV_i hX [] [] yk_X8_fewestHooks yv_X8_fewestHooks lk_X8_222 rfl rfl kc_0 rfl rfl (Nat.le_of_ble_eq_true rfl) ⟨Nat.le_of_ble_eq_true rfl, Nat.le_of_ble_eq_true rfl⟩ dX8_fit_5 (m_X8_fewestHooks w) (fun r2 σ3 => ?_)
  exact fun z => hret _ _ _ _ dX8_fit_8 rfl z

def w_X8_chooseLeft (x1 : Int32) (σ : bk_S) (post : bk_S → Prop) : Prop :=
  w_X4_copyFrom 29 22 σ (fun σ1 =>
    w_X0_clear 60 σ1 (fun σ2 =>
      bk_lt (α := Int32) (0 : Int32) fun v3 =>
      bk_loop (α := Int32 × bk_S) (fun K4 a5 =>
        ((a5.2 22 0) ≤ a5.1 → post a5.2) ∧ (¬ (a5.2 22 0) ≤ a5.1 → (vp_in x1 12 ∧ vp_in x1 12 ∧ bk_lt (α := bk_S) (bk_u a5.2 (29 + 5) (Int32.toNatClampNeg x1) ((a5.2 (22 + 5) (Int32.toNatClampNeg x1)) ||| ((1 : Int32) <<< (a5.1 &&& 31)))) fun σ6 =>
        w_X1_run 48 29 σ6 (fun σ7 =>
          w_X8_sumOf (48 + 9) 12 σ7 (fun r8 =>
            w_X0_offer 60 a5.1 (-1 : Int32) (σ7 48 11) r8 σ7 (fun σ9 =>
              bk_lt (α := Int32) (a5.1 + (1 : Int32)) fun v10 =>
              K4 (v10, σ9))))))) (v3, σ2)))
set_option maxRecDepth 20000 in
theorem m_X8_chooseLeft (w : bk_W) {x1 : Int32} {σ : bk_S} {post : bk_S → Prop} : w_X8_chooseLeft x1 σ post → bk_Mv lyC w yX8_chooseLeft cX8_chooseLeft 3 4 99 [.ref (bk_r w 0), .int x1] σ post := by
  intro h0
  refine bk_mv (by decide) (Nat.le_of_ble_eq_true rfl) (fun X hX hret => ?_)
  revert h0
  unfold w_X8_chooseLeft
  show _ → bk_At lyC w X 0 [(0, .ref (bk_r w 0)), (1, .int x1)] [] σ
  refine bk_aload_n hX 0 dX8_chooseLeft_0 rfl ?_
  refine bk_getr hX kc_0 rfl fl_X8_44 dX8_chooseLeft_1 ?_
  refine bk_aload_n hX 0 dX8_chooseLeft_4 rfl ?_
  refine bk_getr hX kc_0 rfl fl_X8_40 dX8_chooseLeft_5 ?_
  refine bk_callV_v hX [.ref (bk_r w 22)] [] yk_X4_copyFrom yv_X4_copyFrom lk_X8_359 rfl rfl k_set_29.1 rfl rfl (Nat.le_of_ble_eq_true rfl) ⟨Nat.le_of_ble_eq_true rfl, Nat.le_of_ble_eq_true rfl⟩ dX8_chooseLeft_8 (m_X4_copyFrom w k_set_29 k_set_22) (fun σ1 => ?_)
  refine bk_aload_n hX 0 dX8_chooseLeft_11 rfl ?_
  refine bk_getr hX kc_0 rfl fl_X8_60 dX8_chooseLeft_12 ?_
  refine bk_callV_v hX [] [] yk_X0_clear yv_X0_clear lk_X8_362 rfl rfl k_cho_60 rfl rfl (Nat.le_of_ble_eq_true rfl) ⟨Nat.le_of_ble_eq_true rfl, Nat.le_of_ble_eq_true rfl⟩ dX8_chooseLeft_15 (m_X0_clear w k_cho_60) (fun σ2 => ?_)
  refine bk_iconst hX bk_ci_0 dX8_chooseLeft_18 ?_
  refine bk_istore_n hX (fun v3 => [(2, .int v3), (0, .ref (bk_r w 0)), (1, .int x1)]) dX8_chooseLeft_19 (Nat.le_of_ble_eq_true rfl) (fun _ => rfl) (fun v3 => ?_)
  refine bk_pick [0, 1, 2] rfl (bk_r_loop (α := Int32 × bk_S) (J := fun a => bk_At lyC w X 20 [(2, .int a.1), (0, .ref (bk_r w 0)), (1, .int x1)] [] a.2) (v3, σ2) (fun K4 hK4 a5 => ?_))
  refine bk_iload_n hX 0 dX8_chooseLeft_20 rfl ?_
  refine bk_aload_n hX 1 dX8_chooseLeft_21 rfl ?_
  refine bk_getr hX kc_0 rfl fl_X8_40 dX8_chooseLeft_22 ?_
  refine bk_geti hX k_set_22.1 rfl fl_X8_297 dX8_chooseLeft_25 ?_
  refine bk_icmp_ge hX 96 dX8_chooseLeft_28 rfl ?_ ?_
  · exact fun z => hret _ _ _ dX8_chooseLeft_96 z
  · refine bk_aload_n hX 1 dX8_chooseLeft_31 rfl ?_
    refine bk_getr hX kc_0 rfl fl_X8_44 dX8_chooseLeft_32 ?_
    refine bk_getr hX k_set_29.1 rfl fl_X8_372 dX8_chooseLeft_35 ?_
    refine bk_iload_n hX 2 dX8_chooseLeft_38 rfl ?_
    refine bk_aload_n hX 1 dX8_chooseLeft_39 rfl ?_
    refine bk_getr hX kc_0 rfl fl_X8_40 dX8_chooseLeft_40 ?_
    refine bk_getr hX k_set_22.1 rfl fl_X8_372 dX8_chooseLeft_43 ?_
    refine bk_iload_n hX 2 dX8_chooseLeft_46 rfl ?_
    refine bk_iaload hX k_set_22.2.2.2.2.2.1 dX8_chooseLeft_47 ?_
    refine bk_iconst hX bk_ci_1 dX8_chooseLeft_48 ?_
    refine bk_iload_n hX 0 dX8_chooseLeft_49 rfl ?_
    refine bk_ishl hX dX8_chooseLeft_50 ?_
    refine bk_ior hX dX8_chooseLeft_51 ?_
    refine bk_iastore hX k_set_29.2.2.2.2.2.1 dX8_chooseLeft_52 (fun σ6 => ?_)
    refine bk_aload_n hX 1 dX8_chooseLeft_53 rfl ?_
    refine bk_getr hX kc_0 rfl fl_X8_54 dX8_chooseLeft_54 ?_
    refine bk_aload_n hX 1 dX8_chooseLeft_57 rfl ?_
    refine bk_getr hX kc_0 rfl fl_X8_44 dX8_chooseLeft_58 ?_
    refine bk_callV_v hX [.ref (bk_r w 29)] [] yk_X1_run yv_X1_run lk_X8_352 rfl rfl k_crs_48.1 rfl rfl (Nat.le_of_ble_eq_true rfl) ⟨Nat.le_of_ble_eq_true rfl, Nat.le_of_ble_eq_true rfl⟩ dX8_chooseLeft_61 (m_X1_run w k_crs_48 k_set_29) (fun σ7 => ?_)
    refine bk_aload_n hX 1 dX8_chooseLeft_64 rfl ?_
    refine bk_getr hX kc_0 rfl fl_X8_60 dX8_chooseLeft_65 ?_
    refine bk_iload_n hX 0 dX8_chooseLeft_68 rfl ?_
    refine bk_iconst hX bk_ci_m1 dX8_chooseLeft_69 ?_
    refine bk_aload_n hX 1 dX8_chooseLeft_70 rfl ?_
    refine bk_getr hX kc_0 rfl fl_X8_54 dX8_chooseLeft_71 ?_
    refine bk_geti hX k_crs_48.1 rfl fl_X8_265 dX8_chooseLeft_74 ?_
    refine bk_aload_n hX 1 dX8_chooseLeft_77 rfl ?_
    refine bk_getr hX kc_0 rfl fl_X8_54 dX8_chooseLeft_78 ?_
    refine bk_getr hX k_crs_48.1 rfl fl_X8_268 dX8_chooseLeft_81 ?_
    refine bk_callS_i hX [.ref (bk_r w (48 + 9))] [.int (σ7 48 11), .int (-1 : Int32), .int a5.1, .ref (bk_r w 60)] yk_X8_sumOf ys_X8_sumOf lk_X8_271 rfl rfl (Nat.le_of_ble_eq_true rfl) ⟨Nat.le_of_ble_eq_true rfl, Nat.le_of_ble_eq_true rfl⟩ dX8_chooseLeft_84 (m_X8_sumOf w k_crs_48.2.2.2.2.2.2.2.2.2.1) (bk_pu (fun r8 => ?_))
    refine bk_callV_v hX [.int a5.1, .int (-1 : Int32), .int (σ7 48 11), .int r8] [] yk_X0_offer yv_X0_offer lk_X8_368 rfl rfl k_cho_60 rfl rfl (Nat.le_of_ble_eq_true rfl) ⟨Nat.le_of_ble_eq_true rfl, Nat.le_of_ble_eq_true rfl⟩ dX8_chooseLeft_87 (m_X0_offer w k_cho_60) (fun σ9 => ?_)
    refine bk_iinc hX 0 (fun v10 => [(2, .int v10), (0, .ref (bk_r w 0)), (1, .int x1)]) dX8_chooseLeft_90 rfl bk_ci_1 (Nat.le_of_ble_eq_true rfl) (fun _ => rfl) (fun v10 => ?_)
    refine bk_goto hX 20 dX8_chooseLeft_93 rfl ?_
    exact bk_pick [0, 1, 2] rfl (hK4 (v10, σ9))

def w_X8_leave (x1 : Int32) (x2 : Int32) (σ : bk_S) (post : Int32 → bk_S → Prop) : Prop :=
  w_X8_isEvening x1 (fun r1 =>
    (r1 = 0 → post (-2 : Int32) σ) ∧ (¬ r1 = 0 → (w_X8_isBelow x2 (3 : Int32) (fun r2 =>
      (¬ r2 = 0 → (w_X8_refresh σ (fun σ3 =>
        w_X8_chooseLeft x1 σ3 (fun σ4 =>
          w_X0_leaveAnswer 60 x2 σ4 (fun r5 =>
            post r5 σ4))))) ∧ (r2 = 0 → post (-2 : Int32) σ)))))
set_option maxRecDepth 20000 in
theorem m_X8_leave (w : bk_W) {x1 : Int32} {x2 : Int32} {σ : bk_S} {post : Int32 → bk_S → Prop} : w_X8_leave x1 x2 σ post → bk_Mi lyC w yX8_leave cX8_leave 3 .int 5 121 [.ref (bk_r w 0), .int x1, .int x2] σ post := by
  intro h0
  refine bk_mi (by decide) (Nat.le_of_ble_eq_true rfl) (fun X hX hret => ?_)
  revert h0
  unfold w_X8_leave
  show _ → bk_At lyC w X 0 [(0, .ref (bk_r w 0)), (1, .int x1), (2, .int x2)] [] σ
  refine bk_iload_n hX 1 dX8_leave_0 rfl ?_
  refine bk_callS_i hX [.int x1] [] yk_X8_isEvening ys_X8_isEvening lk_X8_179 rfl rfl (Nat.le_of_ble_eq_true rfl) ⟨Nat.le_of_ble_eq_true rfl, Nat.le_of_ble_eq_true rfl⟩ dX8_leave_1 (m_X8_isEvening w) (bk_pu (fun r1 => ?_))
  refine bk_if_eq hX 15 dX8_leave_4 rfl ?_ ?_
  · refine bk_bipush hX bk_cb_m2 dX8_leave_15 ?_
    exact fun z => hret _ _ _ _ dX8_leave_17 rfl z
  · refine bk_iload_n hX 2 dX8_leave_7 rfl ?_
    refine bk_iconst hX bk_ci_3 dX8_leave_8 ?_
    refine bk_callS_i hX [.int x2, .int (3 : Int32)] [] yk_X8_isBelow ys_X8_isBelow lk_X8_133 rfl rfl (Nat.le_of_ble_eq_true rfl) ⟨Nat.le_of_ble_eq_true rfl, Nat.le_of_ble_eq_true rfl⟩ dX8_leave_9 (m_X8_isBelow w) (bk_pu (fun r2 => ?_))
    refine bk_if_ne hX 18 dX8_leave_12 rfl ?_ ?_
    · refine bk_aload_n hX 0 dX8_leave_18 rfl ?_
      refine bk_callV_v hX [] [] yk_X8_refresh yv_X8_refresh lk_X8_121 rfl rfl kc_0 rfl rfl (Nat.le_of_ble_eq_true rfl) ⟨Nat.le_of_ble_eq_true rfl, Nat.le_of_ble_eq_true rfl⟩ dX8_leave_19 (m_X8_refresh w) (fun σ3 => ?_)
      refine bk_aload_n hX 0 dX8_leave_22 rfl ?_
      refine bk_iload_n hX 1 dX8_leave_23 rfl ?_
      refine bk_callV_v hX [.int x1] [] yk_X8_chooseLeft yv_X8_chooseLeft lk_X8_225 rfl rfl kc_0 rfl rfl (Nat.le_of_ble_eq_true rfl) ⟨Nat.le_of_ble_eq_true rfl, Nat.le_of_ble_eq_true rfl⟩ dX8_leave_24 (m_X8_chooseLeft w) (fun σ4 => ?_)
      refine bk_aload_n hX 0 dX8_leave_27 rfl ?_
      refine bk_getr hX kc_0 rfl fl_X8_60 dX8_leave_28 ?_
      refine bk_iload_n hX 2 dX8_leave_31 rfl ?_
      refine bk_callV_i hX [.int x2] [] yk_X0_leaveAnswer yv_X0_leaveAnswer lk_X8_228 rfl rfl k_cho_60 rfl rfl (Nat.le_of_ble_eq_true rfl) ⟨Nat.le_of_ble_eq_true rfl, Nat.le_of_ble_eq_true rfl⟩ dX8_leave_32 (m_X0_leaveAnswer w k_cho_60) (bk_pu (fun r5 => ?_))
      exact fun z => hret _ _ _ _ dX8_leave_35 rfl z
    · refine bk_bipush hX bk_cb_m2 dX8_leave_15 ?_
      exact fun z => hret _ _ _ _ dX8_leave_17 rfl z

def w_X8_refreshEnds (σ : bk_S) (post : bk_S → Prop) : Prop :=
  (¬ (σ 0 14) = 0 → (w_X4_copyFrom 29 22 σ (fun σ1 =>
    w_X8_allEvents σ1 (fun r2 =>
      bk_lt (α := Int32) r2 fun v3 =>
      bk_lt (α := Int32) (0 : Int32) fun v4 =>
      bk_jn (α := bk_S) (fun a6 =>
        bk_lt (α := bk_S) (bk_u a6 0 14 (0 : Int32)) fun σ14 =>
        post σ14) (fun K5 =>
        bk_loop (α := Int32 × bk_S) (fun K7 a8 =>
          (v3 < a8.1 → K5 a8.2) ∧ (¬ v3 < a8.1 → (w_X4_takeEvents 29 5 a8.1 a8.2 (fun σ9 =>
            w_X1_run 48 29 σ9 (fun σ10 =>
              w_X1_settledBehind 48 (11 : Int32) σ10 (fun r11 =>
                vp_in a8.1 256 ∧ bk_lt (α := bk_S) (bk_u σ10 64 (Int32.toNatClampNeg a8.1) r11) fun σ12 =>
                bk_lt (α := Int32) (a8.1 + (1 : Int32)) fun v13 =>
                K7 (v13, σ12))))))) (v4, σ1)))))) ∧ ((σ 0 14) = 0 → post σ)
set_option maxRecDepth 20000 in
theorem m_X8_refreshEnds (w : bk_W) {σ : bk_S} {post : bk_S → Prop} : w_X8_refreshEnds σ post → bk_Mv lyC w yX8_refreshEnds cX8_refreshEnds 3 4 99 [.ref (bk_r w 0)] σ post := by
  intro h0
  refine bk_mv (by decide) (Nat.le_of_ble_eq_true rfl) (fun X hX hret => ?_)
  revert h0
  unfold w_X8_refreshEnds
  show _ → bk_At lyC w X 0 [(0, .ref (bk_r w 0))] [] σ
  refine bk_aload_n hX 0 dX8_refreshEnds_0 rfl ?_
  refine bk_geti hX kc_0 rfl fl_X8_86 dX8_refreshEnds_1 ?_
  refine bk_if_ne hX 8 dX8_refreshEnds_4 rfl ?_ ?_
  · refine bk_aload_n hX 0 dX8_refreshEnds_8 rfl ?_
    refine bk_getr hX kc_0 rfl fl_X8_44 dX8_refreshEnds_9 ?_
    refine bk_aload_n hX 0 dX8_refreshEnds_12 rfl ?_
    refine bk_getr hX kc_0 rfl fl_X8_40 dX8_refreshEnds_13 ?_
    refine bk_callV_v hX [.ref (bk_r w 22)] [] yk_X4_copyFrom yv_X4_copyFrom lk_X8_359 rfl rfl k_set_29.1 rfl rfl (Nat.le_of_ble_eq_true rfl) ⟨Nat.le_of_ble_eq_true rfl, Nat.le_of_ble_eq_true rfl⟩ dX8_refreshEnds_16 (m_X4_copyFrom w k_set_29 k_set_22) (fun σ1 => ?_)
    refine bk_aload_n hX 0 dX8_refreshEnds_19 rfl ?_
    refine bk_callV_i hX [] [] yk_X8_allEvents yv_X8_allEvents lk_X8_345 rfl rfl kc_0 rfl rfl (Nat.le_of_ble_eq_true rfl) ⟨Nat.le_of_ble_eq_true rfl, Nat.le_of_ble_eq_true rfl⟩ dX8_refreshEnds_20 (m_X8_allEvents w) (bk_pu (fun r2 => ?_))
    refine bk_istore_n hX (fun v3 => [(1, .int v3), (0, .ref (bk_r w 0))]) dX8_refreshEnds_23 (Nat.le_of_ble_eq_true rfl) (fun _ => rfl) (fun v3 => ?_)
    refine bk_iconst hX bk_ci_0 dX8_refreshEnds_24 ?_
    refine bk_istore_n hX (fun v4 => [(2, .int v4), (1, .int v3), (0, .ref (bk_r w 0))]) dX8_refreshEnds_25 (Nat.le_of_ble_eq_true rfl) (fun _ => rfl) (fun v4 => ?_)
    refine bk_r_jn (α := bk_S) (J := fun a => bk_At lyC w X 75 [(1, .int v3), (0, .ref (bk_r w 0))] [] a) (fun a6 => ?_) (fun K5 hK5 => ?_)
    · refine bk_aload_n hX 1 dX8_refreshEnds_75 rfl ?_
      refine bk_iconst hX bk_ci_0 dX8_refreshEnds_76 ?_
      refine bk_putZ hX kc_0 rfl fp_X8_86 rfl rfl dX8_refreshEnds_77 (fun σ14 => ?_)
      exact fun z => hret _ _ _ dX8_refreshEnds_80 z
    · refine bk_pick [0, 1, 2] rfl (bk_r_loop (α := Int32 × bk_S) (J := fun a => bk_At lyC w X 26 [(2, .int a.1), (1, .int v3), (0, .ref (bk_r w 0))] [] a.2) (v4, σ1) (fun K7 hK7 a8 => ?_))
      refine bk_iload_n hX 0 dX8_refreshEnds_26 rfl ?_
      refine bk_iload_n hX 1 dX8_refreshEnds_27 rfl ?_
      refine bk_icmp_gt hX 75 dX8_refreshEnds_28 rfl ?_ ?_
      · exact bk_pick [1, 2] rfl (hK5 a8.2)
      · refine bk_aload_n hX 2 dX8_refreshEnds_31 rfl ?_
        refine bk_getr hX kc_0 rfl fl_X8_44 dX8_refreshEnds_32 ?_
        refine bk_aload_n hX 2 dX8_refreshEnds_35 rfl ?_
        refine bk_getr hX kc_0 rfl fl_X8_24 dX8_refreshEnds_36 ?_
        refine bk_iload_n hX 0 dX8_refreshEnds_39 rfl ?_
        refine bk_callV_v hX [.ref (bk_r w 5), .int a8.1] [] yk_X4_takeEvents yv_X4_takeEvents lk_X8_348 rfl rfl k_set_29.1 rfl rfl (Nat.le_of_ble_eq_true rfl) ⟨Nat.le_of_ble_eq_true rfl, Nat.le_of_ble_eq_true rfl⟩ dX8_refreshEnds_40 (m_X4_takeEvents w k_set_29 k_tri_5) (fun σ9 => ?_)
        refine bk_aload_n hX 2 dX8_refreshEnds_43 rfl ?_
        refine bk_getr hX kc_0 rfl fl_X8_54 dX8_refreshEnds_44 ?_
        refine bk_aload_n hX 2 dX8_refreshEnds_47 rfl ?_
        refine bk_getr hX kc_0 rfl fl_X8_44 dX8_refreshEnds_48 ?_
        refine bk_callV_v hX [.ref (bk_r w 29)] [] yk_X1_run yv_X1_run lk_X8_352 rfl rfl k_crs_48.1 rfl rfl (Nat.le_of_ble_eq_true rfl) ⟨Nat.le_of_ble_eq_true rfl, Nat.le_of_ble_eq_true rfl⟩ dX8_refreshEnds_51 (m_X1_run w k_crs_48 k_set_29) (fun σ10 => ?_)
        refine bk_aload_n hX 2 dX8_refreshEnds_54 rfl ?_
        refine bk_getr hX kc_0 rfl fl_X8_78 dX8_refreshEnds_55 ?_
        refine bk_iload_n hX 0 dX8_refreshEnds_58 rfl ?_
        refine bk_aload_n hX 2 dX8_refreshEnds_59 rfl ?_
        refine bk_getr hX kc_0 rfl fl_X8_54 dX8_refreshEnds_60 ?_
        refine bk_bipush hX bk_cb_11 dX8_refreshEnds_63 ?_
        refine bk_callV_i hX [.int (11 : Int32)] [.int a8.1, .ref (bk_r w 64)] yk_X1_settledBehind yv_X1_settledBehind lk_X8_356 rfl rfl k_crs_48.1 rfl rfl (Nat.le_of_ble_eq_true rfl) ⟨Nat.le_of_ble_eq_true rfl, Nat.le_of_ble_eq_true rfl⟩ dX8_refreshEnds_65 (m_X1_settledBehind w k_crs_48) (bk_pu (fun r11 => ?_))
        refine bk_iastore hX kc_64 dX8_refreshEnds_68 (fun σ12 => ?_)
        refine bk_iinc hX 0 (fun v13 => [(2, .int v13), (1, .int v3), (0, .ref (bk_r w 0))]) dX8_refreshEnds_69 rfl bk_ci_1 (Nat.le_of_ble_eq_true rfl) (fun _ => rfl) (fun v13 => ?_)
        refine bk_goto hX 26 dX8_refreshEnds_72 rfl ?_
        exact bk_pick [0, 1, 2] rfl (hK7 (v13, σ12))
  · exact fun z => hret _ _ _ dX8_refreshEnds_7 z

def w_X8_chooseSpared (σ : bk_S) (post : bk_S → Prop) : Prop :=
  w_X0_clear 60 σ (fun σ1 =>
    w_X4_allThings 22 σ1 (fun r2 =>
      bk_lt (α := Int32) r2 fun v3 =>
      w_X8_allEvents σ1 (fun r4 =>
        bk_lt (α := Int32) r4 fun v5 =>
        vp_in v5 256 ∧ (¬ (σ1 64 (Int32.toNatClampNeg v5)) = v3 → (bk_lt (α := Int32) (0 : Int32) fun v6 =>
        bk_jn (α := Unit) (fun a8 =>
          bk_lt (α := Int32) (0 : Int32) fun v15 =>
          bk_jn (α := Int32 × Int32) (fun a17 =>
            w_X0_offer 60 a17.1 a17.2 (0 : Int32) (0 : Int32) σ1 (fun σ25 =>
              post σ25)) (fun K16 =>
            bk_loop (α := Int32) (fun K18 a19 =>
              ((σ1 5 3) ≤ a19 → post σ1) ∧ (¬ (σ1 5 3) ≤ a19 → (bk_lt (α := Int32) (a19 + (1 : Int32)) fun v20 =>
              bk_loop (α := Int32) (fun K21 a22 =>
                ((σ1 5 3) ≤ a22 → (bk_lt (α := Int32) (a19 + (1 : Int32)) fun v23 =>
                K18 v23)) ∧ (¬ (σ1 5 3) ≤ a22 → (vp_in (v5 &&& ((((1 : Int32) <<< (a19 &&& 31)) ||| ((1 : Int32) <<< (a22 &&& 31))) ^^^ (-1 : Int32))) 256 ∧ (¬ (σ1 64 (Int32.toNatClampNeg (v5 &&& ((((1 : Int32) <<< (a19 &&& 31)) ||| ((1 : Int32) <<< (a22 &&& 31))) ^^^ (-1 : Int32))))) = v3 → (bk_lt (α := Int32) (a22 + (1 : Int32)) fun v24 =>
                K21 v24)) ∧ ((σ1 64 (Int32.toNatClampNeg (v5 &&& ((((1 : Int32) <<< (a19 &&& 31)) ||| ((1 : Int32) <<< (a22 &&& 31))) ^^^ (-1 : Int32))))) = v3 → K16 (a19, a22))))) v20))) v15)) (fun K7 =>
          bk_jn (α := Int32) (fun a10 =>
            w_X0_offer 60 a10 (-1 : Int32) (0 : Int32) (0 : Int32) σ1 (fun σ14 =>
              post σ14)) (fun K9 =>
            bk_loop (α := Int32) (fun K11 a12 =>
              ((σ1 5 3) ≤ a12 → K7 ()) ∧ (¬ (σ1 5 3) ≤ a12 → (vp_in (v5 &&& (((1 : Int32) <<< (a12 &&& 31)) ^^^ (-1 : Int32))) 256 ∧ (¬ (σ1 64 (Int32.toNatClampNeg (v5 &&& (((1 : Int32) <<< (a12 &&& 31)) ^^^ (-1 : Int32))))) = v3 → (bk_lt (α := Int32) (a12 + (1 : Int32)) fun v13 =>
              K11 v13)) ∧ ((σ1 64 (Int32.toNatClampNeg (v5 &&& (((1 : Int32) <<< (a12 &&& 31)) ^^^ (-1 : Int32))))) = v3 → K9 a12)))) v6)))) ∧ ((σ1 64 (Int32.toNatClampNeg v5)) = v3 → (w_X0_offer 60 (-1 : Int32) (-1 : Int32) (0 : Int32) (0 : Int32) σ1 (fun σ26 =>
          post σ26))))))
set_option maxRecDepth 20000 in
theorem m_X8_chooseSpared (w : bk_W) {σ : bk_S} {post : bk_S → Prop} : w_X8_chooseSpared σ post → bk_Mv lyC w yX8_chooseSpared cX8_chooseSpared 5 1 25 [.ref (bk_r w 0)] σ post := by
  intro h0
  refine bk_mv (by decide) (Nat.le_of_ble_eq_true rfl) (fun X hX hret => ?_)
  revert h0
  unfold w_X8_chooseSpared
  show _ → bk_At lyC w X 0 [(0, .ref (bk_r w 0))] [] σ
  refine bk_aload_n hX 0 dX8_chooseSpared_0 rfl ?_
  refine bk_getr hX kc_0 rfl fl_X8_60 dX8_chooseSpared_1 ?_
  refine bk_callV_v hX [] [] yk_X0_clear yv_X0_clear lk_X8_362 rfl rfl k_cho_60 rfl rfl (Nat.le_of_ble_eq_true rfl) ⟨Nat.le_of_ble_eq_true rfl, Nat.le_of_ble_eq_true rfl⟩ dX8_chooseSpared_4 (m_X0_clear w k_cho_60) (fun σ1 => ?_)
  refine bk_aload_n hX 0 dX8_chooseSpared_7 rfl ?_
  refine bk_getr hX kc_0 rfl fl_X8_40 dX8_chooseSpared_8 ?_
  refine bk_callV_i hX [] [] yk_X4_allThings yv_X4_allThings lk_X8_201 rfl rfl k_set_22.1 rfl rfl (Nat.le_of_ble_eq_true rfl) ⟨Nat.le_of_ble_eq_true rfl, Nat.le_of_ble_eq_true rfl⟩ dX8_chooseSpared_11 (m_X4_allThings w k_set_22) (bk_pu (fun r2 => ?_))
  refine bk_istore_n hX (fun v3 => [(1, .int v3), (0, .ref (bk_r w 0))]) dX8_chooseSpared_14 (Nat.le_of_ble_eq_true rfl) (fun _ => rfl) (fun v3 => ?_)
  refine bk_aload_n hX 1 dX8_chooseSpared_15 rfl ?_
  refine bk_callV_i hX [] [] yk_X8_allEvents yv_X8_allEvents lk_X8_345 rfl rfl kc_0 rfl rfl (Nat.le_of_ble_eq_true rfl) ⟨Nat.le_of_ble_eq_true rfl, Nat.le_of_ble_eq_true rfl⟩ dX8_chooseSpared_16 (m_X8_allEvents w) (bk_pu (fun r4 => ?_))
  refine bk_istore_n hX (fun v5 => [(2, .int v5), (1, .int v3), (0, .ref (bk_r w 0))]) dX8_chooseSpared_19 (Nat.le_of_ble_eq_true rfl) (fun _ => rfl) (fun v5 => ?_)
  refine bk_aload_n hX 2 dX8_chooseSpared_20 rfl ?_
  refine bk_getr hX kc_0 rfl fl_X8_78 dX8_chooseSpared_21 ?_
  refine bk_iload_n hX 0 dX8_chooseSpared_24 rfl ?_
  refine bk_iaload hX kc_64 dX8_chooseSpared_25 ?_
  refine bk_iload_n hX 1 dX8_chooseSpared_26 rfl ?_
  refine bk_icmp_ne hX 42 dX8_chooseSpared_27 rfl ?_ ?_
  · refine bk_iconst hX bk_ci_0 dX8_chooseSpared_42 ?_
    refine bk_istore_n hX (fun v6 => [(3, .int v6), (2, .int v5), (1, .int v3), (0, .ref (bk_r w 0))]) dX8_chooseSpared_43 (Nat.le_of_ble_eq_true rfl) (fun _ => rfl) (fun v6 => ?_)
    refine bk_r_jn (α := Unit) (J := fun a => bk_At lyC w X 89 [(2, .int v5), (1, .int v3), (0, .ref (bk_r w 0))] [] σ1) (fun a8 => ?_) (fun K7 hK7 => ?_)
    · refine bk_iconst hX bk_ci_0 dX8_chooseSpared_89 ?_
      refine bk_istore_n hX (fun v15 => [(3, .int v15), (2, .int v5), (1, .int v3), (0, .ref (bk_r w 0))]) dX8_chooseSpared_90 (Nat.le_of_ble_eq_true rfl) (fun _ => rfl) (fun v15 => ?_)
      refine bk_r_jn (α := Int32 × Int32) (J := fun a => bk_At lyC w X 140 [(4, .int a.2), (3, .int a.1), (2, .int v5), (1, .int v3), (0, .ref (bk_r w 0))] [] σ1) (fun a17 => ?_) (fun K16 hK16 => ?_)
      · refine bk_aload_n hX 4 dX8_chooseSpared_140 rfl ?_
        refine bk_getr hX kc_0 rfl fl_X8_60 dX8_chooseSpared_141 ?_
        refine bk_iload_n hX 1 dX8_chooseSpared_144 rfl ?_
        refine bk_iload hX 0 dX8_chooseSpared_145 rfl ?_
        refine bk_iconst hX bk_ci_0 dX8_chooseSpared_147 ?_
        refine bk_iconst hX bk_ci_0 dX8_chooseSpared_148 ?_
        refine bk_callV_v hX [.int a17.1, .int a17.2, .int (0 : Int32), .int (0 : Int32)] [] yk_X0_offer yv_X0_offer lk_X8_368 rfl rfl k_cho_60 rfl rfl (Nat.le_of_ble_eq_true rfl) ⟨Nat.le_of_ble_eq_true rfl, Nat.le_of_ble_eq_true rfl⟩ dX8_chooseSpared_149 (m_X0_offer w k_cho_60) (fun σ25 => ?_)
        exact fun z => hret _ _ _ dX8_chooseSpared_152 z
      · refine bk_pick [0, 1, 2, 3] rfl (bk_r_loop (α := Int32) (J := fun a => bk_At lyC w X 91 [(3, .int a), (2, .int v5), (1, .int v3), (0, .ref (bk_r w 0))] [] σ1) v15 (fun K18 hK18 a19 => ?_))
        refine bk_iload_n hX 0 dX8_chooseSpared_91 rfl ?_
        refine bk_aload_n hX 3 dX8_chooseSpared_92 rfl ?_
        refine bk_getr hX kc_0 rfl fl_X8_24 dX8_chooseSpared_93 ?_
        refine bk_geti hX k_tri_5.1 rfl fl_X8_158 dX8_chooseSpared_96 ?_
        refine bk_icmp_ge hX 165 dX8_chooseSpared_99 rfl ?_ ?_
        · exact fun z => hret _ _ _ dX8_chooseSpared_165 z
        · refine bk_iload_n hX 0 dX8_chooseSpared_102 rfl ?_
          refine bk_iconst hX bk_ci_1 dX8_chooseSpared_103 ?_
          refine bk_iadd hX dX8_chooseSpared_104 ?_
          refine bk_istore hX (fun v20 => [(4, .int v20), (3, .int a19), (2, .int v5), (1, .int v3), (0, .ref (bk_r w 0))]) dX8_chooseSpared_105 (Nat.le_of_ble_eq_true rfl) (fun _ => rfl) (fun v20 => ?_)
          refine bk_pick [0, 1, 2, 3, 4] rfl (bk_r_loop (α := Int32) (J := fun a => bk_At lyC w X 107 [(4, .int a), (3, .int a19), (2, .int v5), (1, .int v3), (0, .ref (bk_r w 0))] [] σ1) v20 (fun K21 hK21 a22 => ?_))
          refine bk_iload hX 0 dX8_chooseSpared_107 rfl ?_
          refine bk_aload_n hX 4 dX8_chooseSpared_109 rfl ?_
          refine bk_getr hX kc_0 rfl fl_X8_24 dX8_chooseSpared_110 ?_
          refine bk_geti hX k_tri_5.1 rfl fl_X8_158 dX8_chooseSpared_113 ?_
          refine bk_icmp_ge hX 159 dX8_chooseSpared_116 rfl ?_ ?_
          · refine bk_iinc hX 1 (fun v23 => [(3, .int v23), (4, .int a22), (2, .int v5), (1, .int v3), (0, .ref (bk_r w 0))]) dX8_chooseSpared_159 rfl bk_ci_1 (Nat.le_of_ble_eq_true rfl) (fun _ => rfl) (fun v23 => ?_)
            refine bk_goto hX 91 dX8_chooseSpared_162 rfl ?_
            exact bk_pick [0, 2, 3, 4] rfl (hK18 v23)
          · refine bk_aload_n hX 4 dX8_chooseSpared_119 rfl ?_
            refine bk_getr hX kc_0 rfl fl_X8_78 dX8_chooseSpared_120 ?_
            refine bk_iload_n hX 2 dX8_chooseSpared_123 rfl ?_
            refine bk_iconst hX bk_ci_1 dX8_chooseSpared_124 ?_
            refine bk_iload_n hX 1 dX8_chooseSpared_125 rfl ?_
            refine bk_ishl hX dX8_chooseSpared_126 ?_
            refine bk_iconst hX bk_ci_1 dX8_chooseSpared_127 ?_
            refine bk_iload hX 0 dX8_chooseSpared_128 rfl ?_
            refine bk_ishl hX dX8_chooseSpared_130 ?_
            refine bk_ior hX dX8_chooseSpared_131 ?_
            refine bk_iconst hX bk_ci_m1 dX8_chooseSpared_132 ?_
            refine bk_ixor hX dX8_chooseSpared_133 ?_
            refine bk_iand hX dX8_chooseSpared_134 ?_
            refine bk_iaload hX kc_64 dX8_chooseSpared_135 ?_
            refine bk_iload_n hX 3 dX8_chooseSpared_136 rfl ?_
            refine bk_icmp_ne hX 153 dX8_chooseSpared_137 rfl ?_ ?_
            · refine bk_iinc hX 0 (fun v24 => [(4, .int v24), (3, .int a19), (2, .int v5), (1, .int v3), (0, .ref (bk_r w 0))]) dX8_chooseSpared_153 rfl bk_ci_1 (Nat.le_of_ble_eq_true rfl) (fun _ => rfl) (fun v24 => ?_)
              refine bk_goto hX 107 dX8_chooseSpared_156 rfl ?_
              exact bk_pick [0, 1, 2, 3, 4] rfl (hK21 v24)
            · exact bk_pick [0, 1, 2, 3, 4] rfl (hK16 (a19, a22))
    · refine bk_r_jn (α := Int32) (J := fun a => bk_At lyC w X 71 [(3, .int a), (2, .int v5), (1, .int v3), (0, .ref (bk_r w 0))] [] σ1) (fun a10 => ?_) (fun K9 hK9 => ?_)
      · refine bk_aload_n hX 3 dX8_chooseSpared_71 rfl ?_
        refine bk_getr hX kc_0 rfl fl_X8_60 dX8_chooseSpared_72 ?_
        refine bk_iload_n hX 0 dX8_chooseSpared_75 rfl ?_
        refine bk_iconst hX bk_ci_m1 dX8_chooseSpared_76 ?_
        refine bk_iconst hX bk_ci_0 dX8_chooseSpared_77 ?_
        refine bk_iconst hX bk_ci_0 dX8_chooseSpared_78 ?_
        refine bk_callV_v hX [.int a10, .int (-1 : Int32), .int (0 : Int32), .int (0 : Int32)] [] yk_X0_offer yv_X0_offer lk_X8_368 rfl rfl k_cho_60 rfl rfl (Nat.le_of_ble_eq_true rfl) ⟨Nat.le_of_ble_eq_true rfl, Nat.le_of_ble_eq_true rfl⟩ dX8_chooseSpared_79 (m_X0_offer w k_cho_60) (fun σ14 => ?_)
        exact fun z => hret _ _ _ dX8_chooseSpared_82 z
      · refine bk_pick [0, 1, 2, 3] rfl (bk_r_loop (α := Int32) (J := fun a => bk_At lyC w X 44 [(3, .int a), (2, .int v5), (1, .int v3), (0, .ref (bk_r w 0))] [] σ1) v6 (fun K11 hK11 a12 => ?_))
        refine bk_iload_n hX 0 dX8_chooseSpared_44 rfl ?_
        refine bk_aload_n hX 3 dX8_chooseSpared_45 rfl ?_
        refine bk_getr hX kc_0 rfl fl_X8_24 dX8_chooseSpared_46 ?_
        refine bk_geti hX k_tri_5.1 rfl fl_X8_158 dX8_chooseSpared_49 ?_
        refine bk_icmp_ge hX 89 dX8_chooseSpared_52 rfl ?_ ?_
        · exact bk_pick [1, 2, 3] rfl (hK7 ())
        · refine bk_aload_n hX 3 dX8_chooseSpared_55 rfl ?_
          refine bk_getr hX kc_0 rfl fl_X8_78 dX8_chooseSpared_56 ?_
          refine bk_iload_n hX 1 dX8_chooseSpared_59 rfl ?_
          refine bk_iconst hX bk_ci_1 dX8_chooseSpared_60 ?_
          refine bk_iload_n hX 0 dX8_chooseSpared_61 rfl ?_
          refine bk_ishl hX dX8_chooseSpared_62 ?_
          refine bk_iconst hX bk_ci_m1 dX8_chooseSpared_63 ?_
          refine bk_ixor hX dX8_chooseSpared_64 ?_
          refine bk_iand hX dX8_chooseSpared_65 ?_
          refine bk_iaload hX kc_64 dX8_chooseSpared_66 ?_
          refine bk_iload_n hX 2 dX8_chooseSpared_67 rfl ?_
          refine bk_icmp_ne hX 83 dX8_chooseSpared_68 rfl ?_ ?_
          · refine bk_iinc hX 0 (fun v13 => [(3, .int v13), (2, .int v5), (1, .int v3), (0, .ref (bk_r w 0))]) dX8_chooseSpared_83 rfl bk_ci_1 (Nat.le_of_ble_eq_true rfl) (fun _ => rfl) (fun v13 => ?_)
            refine bk_goto hX 44 dX8_chooseSpared_86 rfl ?_
            exact bk_pick [0, 1, 2, 3] rfl (hK11 v13)
          · exact bk_pick [0, 1, 2, 3] rfl (hK9 a12)
  · refine bk_aload_n hX 2 dX8_chooseSpared_30 rfl ?_
    refine bk_getr hX kc_0 rfl fl_X8_60 dX8_chooseSpared_31 ?_
    refine bk_iconst hX bk_ci_m1 dX8_chooseSpared_34 ?_
    refine bk_iconst hX bk_ci_m1 dX8_chooseSpared_35 ?_
    refine bk_iconst hX bk_ci_0 dX8_chooseSpared_36 ?_
    refine bk_iconst hX bk_ci_0 dX8_chooseSpared_37 ?_
    refine bk_callV_v hX [.int (-1 : Int32), .int (-1 : Int32), .int (0 : Int32), .int (0 : Int32)] [] yk_X0_offer yv_X0_offer lk_X8_368 rfl rfl k_cho_60 rfl rfl (Nat.le_of_ble_eq_true rfl) ⟨Nat.le_of_ble_eq_true rfl, Nat.le_of_ble_eq_true rfl⟩ dX8_chooseSpared_38 (m_X0_offer w k_cho_60) (fun σ26 => ?_)
    exact fun z => hret _ _ _ dX8_chooseSpared_41 z

def w_X8_spare (x1 : Int32) (σ : bk_S) (post : Int32 → bk_S → Prop) : Prop :=
  (x1 < (-1 : Int32) → post (-2 : Int32) σ) ∧ (¬ x1 < (-1 : Int32) → ((x1 ≤ (1 : Int32) → (w_X8_refresh σ (fun σ1 =>
    w_X8_refreshEnds σ1 (fun σ2 =>
      w_X8_chooseSpared σ2 (fun σ3 =>
        w_X0_spareAnswer 60 x1 σ3 (fun r4 =>
          post r4 σ3)))))) ∧ (¬ x1 ≤ (1 : Int32) → post (-2 : Int32) σ)))
set_option maxRecDepth 20000 in
theorem m_X8_spare (w : bk_W) {x1 : Int32} {σ : bk_S} {post : Int32 → bk_S → Prop} : w_X8_spare x1 σ post → bk_Mi lyC w yX8_spare cX8_spare 2 .int 5 121 [.ref (bk_r w 0), .int x1] σ post := by
  intro h0
  refine bk_mi (by decide) (Nat.le_of_ble_eq_true rfl) (fun X hX hret => ?_)
  revert h0
  unfold w_X8_spare
  show _ → bk_At lyC w X 0 [(0, .ref (bk_r w 0)), (1, .int x1)] [] σ
  refine bk_iload_n hX 1 dX8_spare_0 rfl ?_
  refine bk_iconst hX bk_ci_m1 dX8_spare_1 ?_
  refine bk_icmp_lt hX 10 dX8_spare_2 rfl ?_ ?_
  · refine bk_bipush hX bk_cb_m2 dX8_spare_10 ?_
    exact fun z => hret _ _ _ _ dX8_spare_12 rfl z
  · refine bk_iload_n hX 1 dX8_spare_5 rfl ?_
    refine bk_iconst hX bk_ci_1 dX8_spare_6 ?_
    refine bk_icmp_le hX 13 dX8_spare_7 rfl ?_ ?_
    · refine bk_aload_n hX 0 dX8_spare_13 rfl ?_
      refine bk_callV_v hX [] [] yk_X8_refresh yv_X8_refresh lk_X8_121 rfl rfl kc_0 rfl rfl (Nat.le_of_ble_eq_true rfl) ⟨Nat.le_of_ble_eq_true rfl, Nat.le_of_ble_eq_true rfl⟩ dX8_spare_14 (m_X8_refresh w) (fun σ1 => ?_)
      refine bk_aload_n hX 0 dX8_spare_17 rfl ?_
      refine bk_callV_v hX [] [] yk_X8_refreshEnds yv_X8_refreshEnds lk_X8_231 rfl rfl kc_0 rfl rfl (Nat.le_of_ble_eq_true rfl) ⟨Nat.le_of_ble_eq_true rfl, Nat.le_of_ble_eq_true rfl⟩ dX8_spare_18 (m_X8_refreshEnds w) (fun σ2 => ?_)
      refine bk_aload_n hX 0 dX8_spare_21 rfl ?_
      refine bk_callV_v hX [] [] yk_X8_chooseSpared yv_X8_chooseSpared lk_X8_234 rfl rfl kc_0 rfl rfl (Nat.le_of_ble_eq_true rfl) ⟨Nat.le_of_ble_eq_true rfl, Nat.le_of_ble_eq_true rfl⟩ dX8_spare_22 (m_X8_chooseSpared w) (fun σ3 => ?_)
      refine bk_aload_n hX 0 dX8_spare_25 rfl ?_
      refine bk_getr hX kc_0 rfl fl_X8_60 dX8_spare_26 ?_
      refine bk_iload_n hX 1 dX8_spare_29 rfl ?_
      refine bk_callV_i hX [.int x1] [] yk_X0_spareAnswer yv_X0_spareAnswer lk_X8_237 rfl rfl k_cho_60 rfl rfl (Nat.le_of_ble_eq_true rfl) ⟨Nat.le_of_ble_eq_true rfl, Nat.le_of_ble_eq_true rfl⟩ dX8_spare_30 (m_X0_spareAnswer w k_cho_60) (bk_pu (fun r4 => ?_))
      exact fun z => hret _ _ _ _ dX8_spare_33 rfl z
    · refine bk_bipush hX bk_cb_m2 dX8_spare_10 ?_
      exact fun z => hret _ _ _ _ dX8_spare_12 rfl z

def w_X8_seen (x1 : Int32) (x2 : Int32) (x3 : Int32) (σ : bk_S) (post : Int32 → bk_S → Prop) : Prop :=
  w_X8_isEvening x1 (fun r1 =>
    (r1 = 0 → post (-2 : Int32) σ) ∧ (¬ r1 = 0 → (w_X8_isBelow x2 (8 : Int32) (fun r2 =>
      (r2 = 0 → post (-2 : Int32) σ) ∧ (¬ r2 = 0 → (w_X8_isBelow x3 (2 : Int32) (fun r3 =>
        (¬ r3 = 0 → (w_X7_isFull 9 σ (fun r4 =>
          (r4 = 0 → (w_X7_append 9 x1 x2 x3 σ (fun σ5 =>
            post (σ5 9 3) σ5))) ∧ (¬ r4 = 0 → post (-4 : Int32) σ)))) ∧ (r3 = 0 → post (-2 : Int32) σ))))))))
set_option maxRecDepth 20000 in
theorem m_X8_seen (w : bk_W) {x1 : Int32} {x2 : Int32} {x3 : Int32} {σ : bk_S} {post : Int32 → bk_S → Prop} : w_X8_seen x1 x2 x3 σ post → bk_Mi lyC w yX8_seen cX8_seen 4 .int 2 43 [.ref (bk_r w 0), .int x1, .int x2, .int x3] σ post := by
  intro h0
  refine bk_mi (by decide) (Nat.le_of_ble_eq_true rfl) (fun X hX hret => ?_)
  revert h0
  unfold w_X8_seen
  show _ → bk_At lyC w X 0 [(0, .ref (bk_r w 0)), (1, .int x1), (2, .int x2), (3, .int x3)] [] σ
  refine bk_iload_n hX 1 dX8_seen_0 rfl ?_
  refine bk_callS_i hX [.int x1] [] yk_X8_isEvening ys_X8_isEvening lk_X8_179 rfl rfl (Nat.le_of_ble_eq_true rfl) ⟨Nat.le_of_ble_eq_true rfl, Nat.le_of_ble_eq_true rfl⟩ dX8_seen_1 (m_X8_isEvening w) (bk_pu (fun r1 => ?_))
  refine bk_if_eq hX 24 dX8_seen_4 rfl ?_ ?_
  · refine bk_bipush hX bk_cb_m2 dX8_seen_24 ?_
    exact fun z => hret _ _ _ _ dX8_seen_26 rfl z
  · refine bk_iload_n hX 2 dX8_seen_7 rfl ?_
    refine bk_bipush hX bk_cb_8 dX8_seen_8 ?_
    refine bk_callS_i hX [.int x2, .int (8 : Int32)] [] yk_X8_isBelow ys_X8_isBelow lk_X8_133 rfl rfl (Nat.le_of_ble_eq_true rfl) ⟨Nat.le_of_ble_eq_true rfl, Nat.le_of_ble_eq_true rfl⟩ dX8_seen_10 (m_X8_isBelow w) (bk_pu (fun r2 => ?_))
    refine bk_if_eq hX 24 dX8_seen_13 rfl ?_ ?_
    · refine bk_bipush hX bk_cb_m2 dX8_seen_24 ?_
      exact fun z => hret _ _ _ _ dX8_seen_26 rfl z
    · refine bk_iload_n hX 3 dX8_seen_16 rfl ?_
      refine bk_iconst hX bk_ci_2 dX8_seen_17 ?_
      refine bk_callS_i hX [.int x3, .int (2 : Int32)] [] yk_X8_isBelow ys_X8_isBelow lk_X8_133 rfl rfl (Nat.le_of_ble_eq_true rfl) ⟨Nat.le_of_ble_eq_true rfl, Nat.le_of_ble_eq_true rfl⟩ dX8_seen_18 (m_X8_isBelow w) (bk_pu (fun r3 => ?_))
      refine bk_if_ne hX 27 dX8_seen_21 rfl ?_ ?_
      · refine bk_aload_n hX 0 dX8_seen_27 rfl ?_
        refine bk_getr hX kc_0 rfl fl_X8_28 dX8_seen_28 ?_
        refine bk_callV_i hX [] [] yk_X7_isFull yv_X7_isFull lk_X8_150 rfl rfl k_tri_9.1 rfl rfl (Nat.le_of_ble_eq_true rfl) ⟨Nat.le_of_ble_eq_true rfl, Nat.le_of_ble_eq_true rfl⟩ dX8_seen_31 (m_X7_isFull w k_tri_9) (bk_pu (fun r4 => ?_))
        refine bk_if_eq hX 40 dX8_seen_34 rfl ?_ ?_
        · refine bk_aload_n hX 0 dX8_seen_40 rfl ?_
          refine bk_getr hX kc_0 rfl fl_X8_28 dX8_seen_41 ?_
          refine bk_iload_n hX 1 dX8_seen_44 rfl ?_
          refine bk_iload_n hX 2 dX8_seen_45 rfl ?_
          refine bk_iload_n hX 3 dX8_seen_46 rfl ?_
          refine bk_callV_v hX [.int x1, .int x2, .int x3] [] yk_X7_append yv_X7_append lk_X8_154 rfl rfl k_tri_9.1 rfl rfl (Nat.le_of_ble_eq_true rfl) ⟨Nat.le_of_ble_eq_true rfl, Nat.le_of_ble_eq_true rfl⟩ dX8_seen_47 (m_X7_append w k_tri_9) (fun σ5 => ?_)
          refine bk_aload_n hX 0 dX8_seen_50 rfl ?_
          refine bk_getr hX kc_0 rfl fl_X8_28 dX8_seen_51 ?_
          refine bk_geti hX k_tri_9.1 rfl fl_X8_158 dX8_seen_54 ?_
          exact fun z => hret _ _ _ _ dX8_seen_57 rfl z
        · refine bk_bipush hX bk_cb_m4 dX8_seen_37 ?_
          exact fun z => hret _ _ _ _ dX8_seen_39 rfl z
      · refine bk_bipush hX bk_cb_m2 dX8_seen_24 ?_
        exact fun z => hret _ _ _ _ dX8_seen_26 rfl z

def w_X8_forget (σ : bk_S) (post : Int32 → bk_S → Prop) : Prop :=
  bk_lt (α := Int32) (σ 9 3) fun v1 =>
  bk_lt (α := bk_S) (bk_u σ 9 3 (0 : Int32)) fun σ2 =>
  post v1 σ2
set_option maxRecDepth 20000 in
theorem m_X8_forget (w : bk_W) {σ : bk_S} {post : Int32 → bk_S → Prop} : w_X8_forget σ post → bk_Mi lyC w yX8_forget cX8_forget 2 .int 0 0 [.ref (bk_r w 0)] σ post := by
  intro h0
  refine bk_mi (by decide) (Nat.le_of_ble_eq_true rfl) (fun X hX hret => ?_)
  revert h0
  unfold w_X8_forget
  show _ → bk_At lyC w X 0 [(0, .ref (bk_r w 0))] [] σ
  refine bk_aload_n hX 0 dX8_forget_0 rfl ?_
  refine bk_getr hX kc_0 rfl fl_X8_28 dX8_forget_1 ?_
  refine bk_geti hX k_tri_9.1 rfl fl_X8_158 dX8_forget_4 ?_
  refine bk_istore_n hX (fun v1 => [(1, .int v1), (0, .ref (bk_r w 0))]) dX8_forget_7 (Nat.le_of_ble_eq_true rfl) (fun _ => rfl) (fun v1 => ?_)
  refine bk_aload_n hX 1 dX8_forget_8 rfl ?_
  refine bk_getr hX kc_0 rfl fl_X8_28 dX8_forget_9 ?_
  refine bk_iconst hX bk_ci_0 dX8_forget_12 ?_
  refine bk_putI hX k_tri_9.1 rfl fp_X8_158 dX8_forget_13 (fun σ2 => ?_)
  refine bk_iload_n hX 0 dX8_forget_16 rfl ?_
  exact fun z => hret _ _ _ _ dX8_forget_17 rfl z

def w_X8_allComesOut (σ : bk_S) (post : Int32 → Prop) : Prop :=
  bk_lt (α := Int32) (0 : Int32) fun v1 =>
  bk_loop (α := Int32) (fun K2 a3 =>
    ((σ 9 3) ≤ a3 → post (1 : Int32)) ∧ (¬ (σ 9 3) ≤ a3 → (vp_in a3 8 ∧ bk_lt (α := Int32) (σ (9 + 1) (Int32.toNatClampNeg a3)) fun v4 =>
    vp_in a3 8 ∧ bk_lt (α := Int32) (σ (9 + 2) (Int32.toNatClampNeg a3)) fun v5 =>
    (v5 < (σ 29 1) → (w_X1_settledBehind 48 v4 σ (fun r6 =>
      bk_lt (α := Int32) ((r6 >>> (v5 &&& 31)) &&& (1 : Int32)) fun v7 =>
      vp_in a3 8 ∧ (v7 = (σ (9 + 3) (Int32.toNatClampNeg a3)) → (bk_lt (α := Int32) (a3 + (1 : Int32)) fun v8 =>
      K2 v8)) ∧ (¬ v7 = (σ (9 + 3) (Int32.toNatClampNeg a3)) → post (0 : Int32))))) ∧ (¬ v5 < (σ 29 1) → post (0 : Int32))))) v1
set_option maxRecDepth 20000 in
theorem m_X8_allComesOut (w : bk_W) {σ : bk_S} {post : Int32 → Prop} : w_X8_allComesOut σ post → bk_Mi lyC w yX8_allComesOut cX8_allComesOut 5 .boolean 1 23 [.ref (bk_r w 0)] σ (fun r σ1 => post r ∧ σ1 = σ) := by
  intro h0
  refine bk_mi (by decide) (Nat.le_of_ble_eq_true rfl) (fun X hX hret => ?_)
  revert h0
  unfold w_X8_allComesOut
  show _ → bk_At lyC w X 0 [(0, .ref (bk_r w 0))] [] σ
  refine bk_iconst hX bk_ci_0 dX8_allComesOut_0 ?_
  refine bk_istore_n hX (fun v1 => [(1, .int v1), (0, .ref (bk_r w 0))]) dX8_allComesOut_1 (Nat.le_of_ble_eq_true rfl) (fun _ => rfl) (fun v1 => ?_)
  refine bk_pick [0, 1] rfl (bk_r_loop (α := Int32) (J := fun a => bk_At lyC w X 2 [(1, .int a), (0, .ref (bk_r w 0))] [] σ) v1 (fun K2 hK2 a3 => ?_))
  refine bk_iload_n hX 0 dX8_allComesOut_2 rfl ?_
  refine bk_aload_n hX 1 dX8_allComesOut_3 rfl ?_
  refine bk_getr hX kc_0 rfl fl_X8_28 dX8_allComesOut_4 ?_
  refine bk_geti hX k_tri_9.1 rfl fl_X8_158 dX8_allComesOut_7 ?_
  refine bk_icmp_ge hX 82 dX8_allComesOut_10 rfl ?_ ?_
  · refine bk_iconst hX bk_ci_1 dX8_allComesOut_82 ?_
    exact fun z => hret _ _ _ _ dX8_allComesOut_83 rfl ⟨z, rfl⟩
  · refine bk_aload_n hX 1 dX8_allComesOut_13 rfl ?_
    refine bk_getr hX kc_0 rfl fl_X8_28 dX8_allComesOut_14 ?_
    refine bk_getr hX k_tri_9.1 rfl fl_X8_378 dX8_allComesOut_17 ?_
    refine bk_iload_n hX 0 dX8_allComesOut_20 rfl ?_
    refine bk_iaload hX k_tri_9.2.1 dX8_allComesOut_21 ?_
    refine bk_istore_n hX (fun v4 => [(2, .int v4), (1, .int a3), (0, .ref (bk_r w 0))]) dX8_allComesOut_22 (Nat.le_of_ble_eq_true rfl) (fun _ => rfl) (fun v4 => ?_)
    refine bk_aload_n hX 2 dX8_allComesOut_23 rfl ?_
    refine bk_getr hX kc_0 rfl fl_X8_28 dX8_allComesOut_24 ?_
    refine bk_getr hX k_tri_9.1 rfl fl_X8_381 dX8_allComesOut_27 ?_
    refine bk_iload_n hX 1 dX8_allComesOut_30 rfl ?_
    refine bk_iaload hX k_tri_9.2.2.1 dX8_allComesOut_31 ?_
    refine bk_istore_n hX (fun v5 => [(3, .int v5), (2, .int v4), (1, .int a3), (0, .ref (bk_r w 0))]) dX8_allComesOut_32 (Nat.le_of_ble_eq_true rfl) (fun _ => rfl) (fun v5 => ?_)
    refine bk_iload_n hX 0 dX8_allComesOut_33 rfl ?_
    refine bk_aload_n hX 3 dX8_allComesOut_34 rfl ?_
    refine bk_getr hX kc_0 rfl fl_X8_44 dX8_allComesOut_35 ?_
    refine bk_geti hX k_set_29.1 rfl fl_X8_305 dX8_allComesOut_38 ?_
    refine bk_icmp_lt hX 46 dX8_allComesOut_41 rfl ?_ ?_
    · refine bk_aload_n hX 3 dX8_allComesOut_46 rfl ?_
      refine bk_getr hX kc_0 rfl fl_X8_54 dX8_allComesOut_47 ?_
      refine bk_iload_n hX 1 dX8_allComesOut_50 rfl ?_
      refine bk_callV_i hX [.int v4] [] yk_X1_settledBehind yv_X1_settledBehind lk_X8_356 rfl rfl k_crs_48.1 rfl rfl (Nat.le_of_ble_eq_true rfl) ⟨Nat.le_of_ble_eq_true rfl, Nat.le_of_ble_eq_true rfl⟩ dX8_allComesOut_51 (m_X1_settledBehind w k_crs_48) (bk_pu (fun r6 => ?_))
      refine bk_iload_n hX 0 dX8_allComesOut_54 rfl ?_
      refine bk_ishr hX dX8_allComesOut_55 ?_
      refine bk_iconst hX bk_ci_1 dX8_allComesOut_56 ?_
      refine bk_iand hX dX8_allComesOut_57 ?_
      refine bk_istore hX (fun v7 => [(4, .int v7), (3, .int v5), (2, .int v4), (1, .int a3), (0, .ref (bk_r w 0))]) dX8_allComesOut_58 (Nat.le_of_ble_eq_true rfl) (fun _ => rfl) (fun v7 => ?_)
      refine bk_iload hX 0 dX8_allComesOut_60 rfl ?_
      refine bk_aload_n hX 4 dX8_allComesOut_62 rfl ?_
      refine bk_getr hX kc_0 rfl fl_X8_28 dX8_allComesOut_63 ?_
      refine bk_getr hX k_tri_9.1 rfl fl_X8_384 dX8_allComesOut_66 ?_
      refine bk_iload_n hX 3 dX8_allComesOut_69 rfl ?_
      refine bk_iaload hX k_tri_9.2.2.2 dX8_allComesOut_70 ?_
      refine bk_icmp_eq hX 76 dX8_allComesOut_71 rfl ?_ ?_
      · refine bk_iinc hX 3 (fun v8 => [(1, .int v8), (4, .int v7), (3, .int v5), (2, .int v4), (0, .ref (bk_r w 0))]) dX8_allComesOut_76 rfl bk_ci_1 (Nat.le_of_ble_eq_true rfl) (fun _ => rfl) (fun v8 => ?_)
        refine bk_goto hX 2 dX8_allComesOut_79 rfl ?_
        exact bk_pick [0, 4] rfl (hK2 v8)
      · refine bk_iconst hX bk_ci_0 dX8_allComesOut_74 ?_
        exact fun z => hret _ _ _ _ dX8_allComesOut_75 rfl ⟨z, rfl⟩
    · refine bk_iconst hX bk_ci_0 dX8_allComesOut_44 ?_
      exact fun z => hret _ _ _ _ dX8_allComesOut_45 rfl ⟨z, rfl⟩

def w_X8_eventsThatNeverWere (σ : bk_S) (post : Int32 → bk_S → Prop) : Prop :=
  w_X4_copyFrom 29 22 σ (fun σ1 =>
    bk_lt (α := Int32) (0 : Int32) fun v2 =>
    bk_lt (α := Int32) (0 : Int32) fun v3 =>
    bk_loop (α := Int32 × Int32 × bk_S) (fun K4 a5 =>
      ((a5.2.2 5 3) ≤ a5.2.1 → post a5.1 a5.2.2) ∧ (¬ (a5.2.2 5 3) ≤ a5.2.1 → (w_X8_allEvents a5.2.2 (fun r6 =>
        w_X4_takeEvents 29 5 (r6 &&& (((1 : Int32) <<< (a5.2.1 &&& 31)) ^^^ (-1 : Int32))) a5.2.2 (fun σ7 =>
          w_X1_run 48 29 σ7 (fun σ8 =>
            w_X8_allComesOut σ8 (fun r9 =>
              (r9 = 0 → (bk_lt (α := Int32) (a5.2.1 + (1 : Int32)) fun v10 =>
              K4 (a5.1, v10, σ8))) ∧ (¬ r9 = 0 → (bk_lt (α := Int32) (a5.1 ||| ((1 : Int32) <<< (a5.2.1 &&& 31))) fun v11 =>
              bk_lt (α := Int32) (a5.2.1 + (1 : Int32)) fun v12 =>
              K4 (v11, v12, σ8)))))))))) (v2, v3, σ1))
set_option maxRecDepth 20000 in
theorem m_X8_eventsThatNeverWere (w : bk_W) {σ : bk_S} {post : Int32 → bk_S → Prop} : w_X8_eventsThatNeverWere σ post → bk_Mi lyC w yX8_eventsThatNeverWere cX8_eventsThatNeverWere 3 .int 4 99 [.ref (bk_r w 0)] σ post := by
  intro h0
  refine bk_mi (by decide) (Nat.le_of_ble_eq_true rfl) (fun X hX hret => ?_)
  revert h0
  unfold w_X8_eventsThatNeverWere
  show _ → bk_At lyC w X 0 [(0, .ref (bk_r w 0))] [] σ
  refine bk_aload_n hX 0 dX8_eventsThatNeverWere_0 rfl ?_
  refine bk_getr hX kc_0 rfl fl_X8_44 dX8_eventsThatNeverWere_1 ?_
  refine bk_aload_n hX 0 dX8_eventsThatNeverWere_4 rfl ?_
  refine bk_getr hX kc_0 rfl fl_X8_40 dX8_eventsThatNeverWere_5 ?_
  refine bk_callV_v hX [.ref (bk_r w 22)] [] yk_X4_copyFrom yv_X4_copyFrom lk_X8_359 rfl rfl k_set_29.1 rfl rfl (Nat.le_of_ble_eq_true rfl) ⟨Nat.le_of_ble_eq_true rfl, Nat.le_of_ble_eq_true rfl⟩ dX8_eventsThatNeverWere_8 (m_X4_copyFrom w k_set_29 k_set_22) (fun σ1 => ?_)
  refine bk_iconst hX bk_ci_0 dX8_eventsThatNeverWere_11 ?_
  refine bk_istore_n hX (fun v2 => [(1, .int v2), (0, .ref (bk_r w 0))]) dX8_eventsThatNeverWere_12 (Nat.le_of_ble_eq_true rfl) (fun _ => rfl) (fun v2 => ?_)
  refine bk_iconst hX bk_ci_0 dX8_eventsThatNeverWere_13 ?_
  refine bk_istore_n hX (fun v3 => [(2, .int v3), (1, .int v2), (0, .ref (bk_r w 0))]) dX8_eventsThatNeverWere_14 (Nat.le_of_ble_eq_true rfl) (fun _ => rfl) (fun v3 => ?_)
  refine bk_pick [0, 1, 2] rfl (bk_r_loop (α := Int32 × Int32 × bk_S) (J := fun a => bk_At lyC w X 15 [(2, .int a.2.1), (1, .int a.1), (0, .ref (bk_r w 0))] [] a.2.2) (v2, v3, σ1) (fun K4 hK4 a5 => ?_))
  refine bk_iload_n hX 0 dX8_eventsThatNeverWere_15 rfl ?_
  refine bk_aload_n hX 2 dX8_eventsThatNeverWere_16 rfl ?_
  refine bk_getr hX kc_0 rfl fl_X8_24 dX8_eventsThatNeverWere_17 ?_
  refine bk_geti hX k_tri_5.1 rfl fl_X8_158 dX8_eventsThatNeverWere_20 ?_
  refine bk_icmp_ge hX 77 dX8_eventsThatNeverWere_23 rfl ?_ ?_
  · refine bk_iload_n hX 1 dX8_eventsThatNeverWere_77 rfl ?_
    exact fun z => hret _ _ _ _ dX8_eventsThatNeverWere_78 rfl z
  · refine bk_aload_n hX 2 dX8_eventsThatNeverWere_26 rfl ?_
    refine bk_getr hX kc_0 rfl fl_X8_44 dX8_eventsThatNeverWere_27 ?_
    refine bk_aload_n hX 2 dX8_eventsThatNeverWere_30 rfl ?_
    refine bk_getr hX kc_0 rfl fl_X8_24 dX8_eventsThatNeverWere_31 ?_
    refine bk_aload_n hX 2 dX8_eventsThatNeverWere_34 rfl ?_
    refine bk_callV_i hX [] [.ref (bk_r w 5), .ref (bk_r w 29)] yk_X8_allEvents yv_X8_allEvents lk_X8_345 rfl rfl kc_0 rfl rfl (Nat.le_of_ble_eq_true rfl) ⟨Nat.le_of_ble_eq_true rfl, Nat.le_of_ble_eq_true rfl⟩ dX8_eventsThatNeverWere_35 (m_X8_allEvents w) (bk_pu (fun r6 => ?_))
    refine bk_iconst hX bk_ci_1 dX8_eventsThatNeverWere_38 ?_
    refine bk_iload_n hX 0 dX8_eventsThatNeverWere_39 rfl ?_
    refine bk_ishl hX dX8_eventsThatNeverWere_40 ?_
    refine bk_iconst hX bk_ci_m1 dX8_eventsThatNeverWere_41 ?_
    refine bk_ixor hX dX8_eventsThatNeverWere_42 ?_
    refine bk_iand hX dX8_eventsThatNeverWere_43 ?_
    refine bk_callV_v hX [.ref (bk_r w 5), .int (r6 &&& (((1 : Int32) <<< (a5.2.1 &&& 31)) ^^^ (-1 : Int32)))] [] yk_X4_takeEvents yv_X4_takeEvents lk_X8_348 rfl rfl k_set_29.1 rfl rfl (Nat.le_of_ble_eq_true rfl) ⟨Nat.le_of_ble_eq_true rfl, Nat.le_of_ble_eq_true rfl⟩ dX8_eventsThatNeverWere_44 (m_X4_takeEvents w k_set_29 k_tri_5) (fun σ7 => ?_)
    refine bk_aload_n hX 2 dX8_eventsThatNeverWere_47 rfl ?_
    refine bk_getr hX kc_0 rfl fl_X8_54 dX8_eventsThatNeverWere_48 ?_
    refine bk_aload_n hX 2 dX8_eventsThatNeverWere_51 rfl ?_
    refine bk_getr hX kc_0 rfl fl_X8_44 dX8_eventsThatNeverWere_52 ?_
    refine bk_callV_v hX [.ref (bk_r w 29)] [] yk_X1_run yv_X1_run lk_X8_352 rfl rfl k_crs_48.1 rfl rfl (Nat.le_of_ble_eq_true rfl) ⟨Nat.le_of_ble_eq_true rfl, Nat.le_of_ble_eq_true rfl⟩ dX8_eventsThatNeverWere_55 (m_X1_run w k_crs_48 k_set_29) (fun σ8 => ?_)
    refine bk_aload_n hX 2 dX8_eventsThatNeverWere_58 rfl ?_
    refine bk_callV_i hX [] [] yk_X8_allComesOut yv_X8_allComesOut lk_X8_375 rfl rfl kc_0 rfl rfl (Nat.le_of_ble_eq_true rfl) ⟨Nat.le_of_ble_eq_true rfl, Nat.le_of_ble_eq_true rfl⟩ dX8_eventsThatNeverWere_59 (m_X8_allComesOut w) (bk_pu (fun r9 => ?_))
    refine bk_if_eq hX 71 dX8_eventsThatNeverWere_62 rfl ?_ ?_
    · refine bk_iinc hX 0 (fun v10 => [(2, .int v10), (1, .int a5.1), (0, .ref (bk_r w 0))]) dX8_eventsThatNeverWere_71 rfl bk_ci_1 (Nat.le_of_ble_eq_true rfl) (fun _ => rfl) (fun v10 => ?_)
      refine bk_goto hX 15 dX8_eventsThatNeverWere_74 rfl ?_
      exact bk_pick [0, 1, 2] rfl (hK4 (a5.1, v10, σ8))
    · refine bk_iload_n hX 1 dX8_eventsThatNeverWere_65 rfl ?_
      refine bk_iconst hX bk_ci_1 dX8_eventsThatNeverWere_66 ?_
      refine bk_iload_n hX 0 dX8_eventsThatNeverWere_67 rfl ?_
      refine bk_ishl hX dX8_eventsThatNeverWere_68 ?_
      refine bk_ior hX dX8_eventsThatNeverWere_69 ?_
      refine bk_istore_n hX (fun v11 => [(1, .int v11), (2, .int a5.2.1), (0, .ref (bk_r w 0))]) dX8_eventsThatNeverWere_70 (Nat.le_of_ble_eq_true rfl) (fun _ => rfl) (fun v11 => ?_)
      refine bk_iinc hX 1 (fun v12 => [(2, .int v12), (1, .int v11), (0, .ref (bk_r w 0))]) dX8_eventsThatNeverWere_71 rfl bk_ci_1 (Nat.le_of_ble_eq_true rfl) (fun _ => rfl) (fun v12 => ?_)
      refine bk_goto hX 15 dX8_eventsThatNeverWere_74 rfl ?_
      exact bk_pick [0, 1, 2] rfl (hK4 (v11, v12, σ8))

def w_X8_never (σ : bk_S) (post : Int32 → bk_S → Prop) : Prop :=
  w_X8_refresh σ (fun σ1 =>
    w_X8_eventsThatNeverWere σ1 (fun r2 σ3 =>
      post r2 σ3))
set_option maxRecDepth 20000 in
theorem m_X8_never (w : bk_W) {σ : bk_S} {post : Int32 → bk_S → Prop} : w_X8_never σ post → bk_Mi lyC w yX8_never cX8_never 1 .int 5 121 [.ref (bk_r w 0)] σ post := by
  intro h0
  refine bk_mi (by decide) (Nat.le_of_ble_eq_true rfl) (fun X hX hret => ?_)
  revert h0
  unfold w_X8_never
  show _ → bk_At lyC w X 0 [(0, .ref (bk_r w 0))] [] σ
  refine bk_aload_n hX 0 dX8_never_0 rfl ?_
  refine bk_callV_v hX [] [] yk_X8_refresh yv_X8_refresh lk_X8_121 rfl rfl kc_0 rfl rfl (Nat.le_of_ble_eq_true rfl) ⟨Nat.le_of_ble_eq_true rfl, Nat.le_of_ble_eq_true rfl⟩ dX8_never_1 (m_X8_refresh w) (fun σ1 => ?_)
  refine bk_aload_n hX 0 dX8_never_4 rfl ?_
  refine bk_callV_i hX [] [] yk_X8_eventsThatNeverWere yv_X8_eventsThatNeverWere lk_X8_240 rfl rfl kc_0 rfl rfl (Nat.le_of_ble_eq_true rfl) ⟨Nat.le_of_ble_eq_true rfl, Nat.le_of_ble_eq_true rfl⟩ dX8_never_5 (m_X8_eventsThatNeverWere w) (fun r2 σ3 => ?_)
  exact fun z => hret _ _ _ _ dX8_never_8 rfl z

def w_X8_sortsThatFit (x1 : Int32) (σ : bk_S) (post : Int32 → bk_S → Prop) : Prop :=
  w_X4_copyFrom 29 22 σ (fun σ1 =>
    bk_lt (α := Int32) (0 : Int32) fun v2 =>
    bk_lt (α := Int32) (0 : Int32) fun v3 =>
    bk_loop (α := Int32 × Int32 × bk_S) (fun K4 a5 =>
      ((3 : Int32) ≤ a5.2.1 → post a5.1 a5.2.2) ∧ (¬ (3 : Int32) ≤ a5.2.1 → (vp_in x1 8 ∧ bk_lt (α := bk_S) (bk_u a5.2.2 (29 + 2) (Int32.toNatClampNeg x1) a5.2.1) fun σ6 =>
      w_X1_run 48 29 σ6 (fun σ7 =>
        w_X8_allComesOut σ7 (fun r8 =>
          (r8 = 0 → (bk_lt (α := Int32) (a5.2.1 + (1 : Int32)) fun v9 =>
          K4 (a5.1, v9, σ7))) ∧ (¬ r8 = 0 → (bk_lt (α := Int32) (a5.1 ||| ((1 : Int32) <<< (a5.2.1 &&& 31))) fun v10 =>
          bk_lt (α := Int32) (a5.2.1 + (1 : Int32)) fun v11 =>
          K4 (v10, v11, σ7)))))))) (v2, v3, σ1))
set_option maxRecDepth 20000 in
theorem m_X8_sortsThatFit (w : bk_W) {x1 : Int32} {σ : bk_S} {post : Int32 → bk_S → Prop} : w_X8_sortsThatFit x1 σ post → bk_Mi lyC w yX8_sortsThatFit cX8_sortsThatFit 4 .int 4 99 [.ref (bk_r w 0), .int x1] σ post := by
  intro h0
  refine bk_mi (by decide) (Nat.le_of_ble_eq_true rfl) (fun X hX hret => ?_)
  revert h0
  unfold w_X8_sortsThatFit
  show _ → bk_At lyC w X 0 [(0, .ref (bk_r w 0)), (1, .int x1)] [] σ
  refine bk_aload_n hX 0 dX8_sortsThatFit_0 rfl ?_
  refine bk_getr hX kc_0 rfl fl_X8_44 dX8_sortsThatFit_1 ?_
  refine bk_aload_n hX 0 dX8_sortsThatFit_4 rfl ?_
  refine bk_getr hX kc_0 rfl fl_X8_40 dX8_sortsThatFit_5 ?_
  refine bk_callV_v hX [.ref (bk_r w 22)] [] yk_X4_copyFrom yv_X4_copyFrom lk_X8_359 rfl rfl k_set_29.1 rfl rfl (Nat.le_of_ble_eq_true rfl) ⟨Nat.le_of_ble_eq_true rfl, Nat.le_of_ble_eq_true rfl⟩ dX8_sortsThatFit_8 (m_X4_copyFrom w k_set_29 k_set_22) (fun σ1 => ?_)
  refine bk_iconst hX bk_ci_0 dX8_sortsThatFit_11 ?_
  refine bk_istore_n hX (fun v2 => [(2, .int v2), (0, .ref (bk_r w 0)), (1, .int x1)]) dX8_sortsThatFit_12 (Nat.le_of_ble_eq_true rfl) (fun _ => rfl) (fun v2 => ?_)
  refine bk_iconst hX bk_ci_0 dX8_sortsThatFit_13 ?_
  refine bk_istore_n hX (fun v3 => [(3, .int v3), (2, .int v2), (0, .ref (bk_r w 0)), (1, .int x1)]) dX8_sortsThatFit_14 (Nat.le_of_ble_eq_true rfl) (fun _ => rfl) (fun v3 => ?_)
  refine bk_pick [0, 1, 2, 3] rfl (bk_r_loop (α := Int32 × Int32 × bk_S) (J := fun a => bk_At lyC w X 15 [(3, .int a.2.1), (2, .int a.1), (0, .ref (bk_r w 0)), (1, .int x1)] [] a.2.2) (v2, v3, σ1) (fun K4 hK4 a5 => ?_))
  refine bk_iload_n hX 0 dX8_sortsThatFit_15 rfl ?_
  refine bk_iconst hX bk_ci_3 dX8_sortsThatFit_16 ?_
  refine bk_icmp_ge hX 60 dX8_sortsThatFit_17 rfl ?_ ?_
  · refine bk_iload_n hX 1 dX8_sortsThatFit_60 rfl ?_
    exact fun z => hret _ _ _ _ dX8_sortsThatFit_61 rfl z
  · refine bk_aload_n hX 2 dX8_sortsThatFit_20 rfl ?_
    refine bk_getr hX kc_0 rfl fl_X8_44 dX8_sortsThatFit_21 ?_
    refine bk_getr hX k_set_29.1 rfl fl_X8_137 dX8_sortsThatFit_24 ?_
    refine bk_iload_n hX 3 dX8_sortsThatFit_27 rfl ?_
    refine bk_iload_n hX 0 dX8_sortsThatFit_28 rfl ?_
    refine bk_iastore hX k_set_29.2.2.1 dX8_sortsThatFit_29 (fun σ6 => ?_)
    refine bk_aload_n hX 2 dX8_sortsThatFit_30 rfl ?_
    refine bk_getr hX kc_0 rfl fl_X8_54 dX8_sortsThatFit_31 ?_
    refine bk_aload_n hX 2 dX8_sortsThatFit_34 rfl ?_
    refine bk_getr hX kc_0 rfl fl_X8_44 dX8_sortsThatFit_35 ?_
    refine bk_callV_v hX [.ref (bk_r w 29)] [] yk_X1_run yv_X1_run lk_X8_352 rfl rfl k_crs_48.1 rfl rfl (Nat.le_of_ble_eq_true rfl) ⟨Nat.le_of_ble_eq_true rfl, Nat.le_of_ble_eq_true rfl⟩ dX8_sortsThatFit_38 (m_X1_run w k_crs_48 k_set_29) (fun σ7 => ?_)
    refine bk_aload_n hX 2 dX8_sortsThatFit_41 rfl ?_
    refine bk_callV_i hX [] [] yk_X8_allComesOut yv_X8_allComesOut lk_X8_375 rfl rfl kc_0 rfl rfl (Nat.le_of_ble_eq_true rfl) ⟨Nat.le_of_ble_eq_true rfl, Nat.le_of_ble_eq_true rfl⟩ dX8_sortsThatFit_42 (m_X8_allComesOut w) (bk_pu (fun r8 => ?_))
    refine bk_if_eq hX 54 dX8_sortsThatFit_45 rfl ?_ ?_
    · refine bk_iinc hX 0 (fun v9 => [(3, .int v9), (2, .int a5.1), (0, .ref (bk_r w 0)), (1, .int x1)]) dX8_sortsThatFit_54 rfl bk_ci_1 (Nat.le_of_ble_eq_true rfl) (fun _ => rfl) (fun v9 => ?_)
      refine bk_goto hX 15 dX8_sortsThatFit_57 rfl ?_
      exact bk_pick [0, 1, 2, 3] rfl (hK4 (a5.1, v9, σ7))
    · refine bk_iload_n hX 1 dX8_sortsThatFit_48 rfl ?_
      refine bk_iconst hX bk_ci_1 dX8_sortsThatFit_49 ?_
      refine bk_iload_n hX 0 dX8_sortsThatFit_50 rfl ?_
      refine bk_ishl hX dX8_sortsThatFit_51 ?_
      refine bk_ior hX dX8_sortsThatFit_52 ?_
      refine bk_istore_n hX (fun v10 => [(2, .int v10), (3, .int a5.2.1), (0, .ref (bk_r w 0)), (1, .int x1)]) dX8_sortsThatFit_53 (Nat.le_of_ble_eq_true rfl) (fun _ => rfl) (fun v10 => ?_)
      refine bk_iinc hX 1 (fun v11 => [(3, .int v11), (2, .int v10), (0, .ref (bk_r w 0)), (1, .int x1)]) dX8_sortsThatFit_54 rfl bk_ci_1 (Nat.le_of_ble_eq_true rfl) (fun _ => rfl) (fun v11 => ?_)
      refine bk_goto hX 15 dX8_sortsThatFit_57 rfl ?_
      exact bk_pick [0, 1, 2, 3] rfl (hK4 (v10, v11, σ7))

def w_X8_tryHeats (x1 : Int32) (σ : bk_S) (post : bk_S → Prop) : Prop :=
  w_X4_copyFrom 29 22 σ (fun σ1 =>
    bk_lt (α := bk_S) (bk_u σ1 61 0 (0 : Int32)) fun σ2 =>
    bk_lt (α := Int32) (1 : Int32) fun v3 =>
    bk_loop (α := Int32 × bk_S) (fun K4 a5 =>
      ((9 : Int32) < a5.1 → post a5.2) ∧ (¬ (9 : Int32) < a5.1 → (vp_in x1 8 ∧ bk_lt (α := bk_S) (bk_u a5.2 (29 + 3) (Int32.toNatClampNeg x1) a5.1) fun σ6 =>
      w_X1_run 48 29 σ6 (fun σ7 =>
        w_X8_allComesOut σ7 (fun r8 =>
          bk_lt (α := bk_S) (if r8 = 0 then σ7 else bk_u σ7 61 0 ((σ7 61 0) ||| ((1 : Int32) <<< (a5.1 &&& 31)))) fun a10 =>
          bk_lt (α := Int32) (0 : Int32) fun v12 =>
          bk_loop (α := Int32 × bk_S) (fun K13 a14 =>
            ((12 : Int32) ≤ a14.1 → (bk_lt (α := Int32) (a5.1 + (1 : Int32)) fun v15 =>
            K4 (v15, a14.2))) ∧ (¬ (12 : Int32) ≤ a14.1 → (w_X1_settledBehind 48 a14.1 a14.2 (fun r16 =>
              vp_in ((a5.1 * (12 : Int32)) + a14.1) 120 ∧ bk_lt (α := bk_S) (bk_u a14.2 (61 + 1) (Int32.toNatClampNeg ((a5.1 * (12 : Int32)) + a14.1)) r16) fun σ17 =>
              bk_lt (α := Int32) (a14.1 + (1 : Int32)) fun v18 =>
              K13 (v18, σ17))))) (v12, a10)))))) (v3, σ2))
set_option maxRecDepth 20000 in
theorem m_X8_tryHeats (w : bk_W) {x1 : Int32} {σ : bk_S} {post : bk_S → Prop} : w_X8_tryHeats x1 σ post → bk_Mv lyC w yX8_tryHeats cX8_tryHeats 4 4 99 [.ref (bk_r w 0), .int x1] σ post := by
  intro h0
  refine bk_mv (by decide) (Nat.le_of_ble_eq_true rfl) (fun X hX hret => ?_)
  revert h0
  unfold w_X8_tryHeats
  show _ → bk_At lyC w X 0 [(0, .ref (bk_r w 0)), (1, .int x1)] [] σ
  refine bk_aload_n hX 0 dX8_tryHeats_0 rfl ?_
  refine bk_getr hX kc_0 rfl fl_X8_44 dX8_tryHeats_1 ?_
  refine bk_aload_n hX 0 dX8_tryHeats_4 rfl ?_
  refine bk_getr hX kc_0 rfl fl_X8_40 dX8_tryHeats_5 ?_
  refine bk_callV_v hX [.ref (bk_r w 22)] [] yk_X4_copyFrom yv_X4_copyFrom lk_X8_359 rfl rfl k_set_29.1 rfl rfl (Nat.le_of_ble_eq_true rfl) ⟨Nat.le_of_ble_eq_true rfl, Nat.le_of_ble_eq_true rfl⟩ dX8_tryHeats_8 (m_X4_copyFrom w k_set_29 k_set_22) (fun σ1 => ?_)
  refine bk_aload_n hX 0 dX8_tryHeats_11 rfl ?_
  refine bk_getr hX kc_0 rfl fl_X8_67 dX8_tryHeats_12 ?_
  refine bk_iconst hX bk_ci_0 dX8_tryHeats_15 ?_
  refine bk_putI hX k_hea_61.1 rfl fp_X8_249 dX8_tryHeats_16 (fun σ2 => ?_)
  refine bk_iconst hX bk_ci_1 dX8_tryHeats_19 ?_
  refine bk_istore_n hX (fun v3 => [(2, .int v3), (0, .ref (bk_r w 0)), (1, .int x1)]) dX8_tryHeats_20 (Nat.le_of_ble_eq_true rfl) (fun _ => rfl) (fun v3 => ?_)
  refine bk_pick [0, 1, 2] rfl (bk_r_loop (α := Int32 × bk_S) (J := fun a => bk_At lyC w X 21 [(2, .int a.1), (0, .ref (bk_r w 0)), (1, .int x1)] [] a.2) (v3, σ2) (fun K4 hK4 a5 => ?_))
  refine bk_iload_n hX 0 dX8_tryHeats_21 rfl ?_
  refine bk_bipush hX bk_cb_9 dX8_tryHeats_22 ?_
  refine bk_icmp_gt hX 112 dX8_tryHeats_24 rfl ?_ ?_
  · exact fun z => hret _ _ _ dX8_tryHeats_112 z
  · refine bk_aload_n hX 1 dX8_tryHeats_27 rfl ?_
    refine bk_getr hX kc_0 rfl fl_X8_44 dX8_tryHeats_28 ?_
    refine bk_getr hX k_set_29.1 rfl fl_X8_140 dX8_tryHeats_31 ?_
    refine bk_iload_n hX 2 dX8_tryHeats_34 rfl ?_
    refine bk_iload_n hX 0 dX8_tryHeats_35 rfl ?_
    refine bk_iastore hX k_set_29.2.2.2.1 dX8_tryHeats_36 (fun σ6 => ?_)
    refine bk_aload_n hX 1 dX8_tryHeats_37 rfl ?_
    refine bk_getr hX kc_0 rfl fl_X8_54 dX8_tryHeats_38 ?_
    refine bk_aload_n hX 1 dX8_tryHeats_41 rfl ?_
    refine bk_getr hX kc_0 rfl fl_X8_44 dX8_tryHeats_42 ?_
    refine bk_callV_v hX [.ref (bk_r w 29)] [] yk_X1_run yv_X1_run lk_X8_352 rfl rfl k_crs_48.1 rfl rfl (Nat.le_of_ble_eq_true rfl) ⟨Nat.le_of_ble_eq_true rfl, Nat.le_of_ble_eq_true rfl⟩ dX8_tryHeats_45 (m_X1_run w k_crs_48 k_set_29) (fun σ7 => ?_)
    refine bk_aload_n hX 1 dX8_tryHeats_48 rfl ?_
    refine bk_callV_i hX [] [] yk_X8_allComesOut yv_X8_allComesOut lk_X8_375 rfl rfl kc_0 rfl rfl (Nat.le_of_ble_eq_true rfl) ⟨Nat.le_of_ble_eq_true rfl, Nat.le_of_ble_eq_true rfl⟩ dX8_tryHeats_49 (m_X8_allComesOut w) (bk_pu (fun r8 => ?_))
    refine bk_r_if (α := bk_S) (F := fun K9 => (r8 = 0 → K9 σ7) ∧ (¬ r8 = 0 → (bk_lt (α := bk_S) (bk_u σ7 61 0 ((σ7 61 0) ||| ((1 : Int32) <<< (a5.1 &&& 31)))) fun σ11 => K9 σ11))) (fun K9 z => ⟨fun h0 => (bk_pos (K := K9) h0 z), fun h0 => (bk_neg (K := K9) h0 z)⟩) (J := fun a => bk_At lyC w X 70 [(2, .int a5.1), (0, .ref (bk_r w 0)), (1, .int x1)] [] a) (fun a10 => ?_) (fun K9 hK9 => ?_)
    · refine bk_iconst hX bk_ci_0 dX8_tryHeats_70 ?_
      refine bk_istore_n hX (fun v12 => [(3, .int v12), (2, .int a5.1), (0, .ref (bk_r w 0)), (1, .int x1)]) dX8_tryHeats_71 (Nat.le_of_ble_eq_true rfl) (fun _ => rfl) (fun v12 => ?_)
      refine bk_pick [0, 1, 2, 3] rfl (bk_r_loop (α := Int32 × bk_S) (J := fun a => bk_At lyC w X 72 [(3, .int a.1), (2, .int a5.1), (0, .ref (bk_r w 0)), (1, .int x1)] [] a.2) (v12, a10) (fun K13 hK13 a14 => ?_))
      refine bk_iload_n hX 0 dX8_tryHeats_72 rfl ?_
      refine bk_bipush hX bk_cb_12 dX8_tryHeats_73 ?_
      refine bk_icmp_ge hX 106 dX8_tryHeats_75 rfl ?_ ?_
      · refine bk_iinc hX 1 (fun v15 => [(2, .int v15), (3, .int a14.1), (0, .ref (bk_r w 0)), (1, .int x1)]) dX8_tryHeats_106 rfl bk_ci_1 (Nat.le_of_ble_eq_true rfl) (fun _ => rfl) (fun v15 => ?_)
        refine bk_goto hX 21 dX8_tryHeats_109 rfl ?_
        exact bk_pick [0, 2, 3] rfl (hK4 (v15, a14.2))
      · refine bk_aload_n hX 2 dX8_tryHeats_78 rfl ?_
        refine bk_getr hX kc_0 rfl fl_X8_67 dX8_tryHeats_79 ?_
        refine bk_getr hX k_hea_61.1 rfl fl_X8_387 dX8_tryHeats_82 ?_
        refine bk_iload_n hX 1 dX8_tryHeats_85 rfl ?_
        refine bk_bipush hX bk_cb_12 dX8_tryHeats_86 ?_
        refine bk_imul hX dX8_tryHeats_88 ?_
        refine bk_iload_n hX 0 dX8_tryHeats_89 rfl ?_
        refine bk_iadd hX dX8_tryHeats_90 ?_
        refine bk_aload_n hX 2 dX8_tryHeats_91 rfl ?_
        refine bk_getr hX kc_0 rfl fl_X8_54 dX8_tryHeats_92 ?_
        refine bk_iload_n hX 0 dX8_tryHeats_95 rfl ?_
        refine bk_callV_i hX [.int a14.1] [.int ((a5.1 * (12 : Int32)) + a14.1), .ref (bk_r w (61 + 1))] yk_X1_settledBehind yv_X1_settledBehind lk_X8_356 rfl rfl k_crs_48.1 rfl rfl (Nat.le_of_ble_eq_true rfl) ⟨Nat.le_of_ble_eq_true rfl, Nat.le_of_ble_eq_true rfl⟩ dX8_tryHeats_96 (m_X1_settledBehind w k_crs_48) (bk_pu (fun r16 => ?_))
        refine bk_iastore hX k_hea_61.2 dX8_tryHeats_99 (fun σ17 => ?_)
        refine bk_iinc hX 0 (fun v18 => [(3, .int v18), (2, .int a5.1), (0, .ref (bk_r w 0)), (1, .int x1)]) dX8_tryHeats_100 rfl bk_ci_1 (Nat.le_of_ble_eq_true rfl) (fun _ => rfl) (fun v18 => ?_)
        refine bk_goto hX 72 dX8_tryHeats_103 rfl ?_
        exact bk_pick [0, 1, 2, 3] rfl (hK13 (v18, σ17))
    · refine bk_if_eq hX 70 dX8_tryHeats_52 rfl ?_ ?_
      · exact bk_pick [0, 1, 2] rfl (hK9 σ7)
      · refine bk_aload_n hX 1 dX8_tryHeats_55 rfl ?_
        refine bk_getr hX kc_0 rfl fl_X8_67 dX8_tryHeats_56 ?_
        refine bk_dup hX rfl dX8_tryHeats_59 ?_
        refine bk_geti hX k_hea_61.1 rfl fl_X8_249 dX8_tryHeats_60 ?_
        refine bk_iconst hX bk_ci_1 dX8_tryHeats_63 ?_
        refine bk_iload_n hX 0 dX8_tryHeats_64 rfl ?_
        refine bk_ishl hX dX8_tryHeats_65 ?_
        refine bk_ior hX dX8_tryHeats_66 ?_
        refine bk_putI hX k_hea_61.1 rfl fp_X8_249 dX8_tryHeats_67 (fun σ11 => ?_)
        exact bk_pick [0, 1, 2] rfl (hK9 σ11)

def w_X8_was (x1 : Int32) (x2 : Int32) (σ : bk_S) (post : Int32 → bk_S → Prop) : Prop :=
  w_X8_refresh σ (fun σ1 =>
    w_X8_isThing x1 σ1 (fun r2 =>
      (r2 = 0 → post (-2 : Int32) σ1) ∧ (¬ r2 = 0 → (w_X8_isBelow x2 (2 : Int32) (fun r3 =>
        (¬ r3 = 0 → ((¬ x2 = (1 : Int32) → (w_X8_tryHeats x1 σ1 (fun σ4 =>
          post (σ4 61 0) σ4))) ∧ (x2 = (1 : Int32) → (w_X8_sortsThatFit x1 σ1 (fun r5 σ6 =>
          post r5 σ6))))) ∧ (r3 = 0 → post (-2 : Int32) σ1))))))
set_option maxRecDepth 20000 in
theorem m_X8_was (w : bk_W) {x1 : Int32} {x2 : Int32} {σ : bk_S} {post : Int32 → bk_S → Prop} : w_X8_was x1 x2 σ post → bk_Mi lyC w yX8_was cX8_was 3 .int 5 122 [.ref (bk_r w 0), .int x1, .int x2] σ post := by
  intro h0
  refine bk_mi (by decide) (Nat.le_of_ble_eq_true rfl) (fun X hX hret => ?_)
  revert h0
  unfold w_X8_was
  show _ → bk_At lyC w X 0 [(0, .ref (bk_r w 0)), (1, .int x1), (2, .int x2)] [] σ
  refine bk_aload_n hX 0 dX8_was_0 rfl ?_
  refine bk_callV_v hX [] [] yk_X8_refresh yv_X8_refresh lk_X8_121 rfl rfl kc_0 rfl rfl (Nat.le_of_ble_eq_true rfl) ⟨Nat.le_of_ble_eq_true rfl, Nat.le_of_ble_eq_true rfl⟩ dX8_was_1 (m_X8_refresh w) (fun σ1 => ?_)
  refine bk_aload_n hX 0 dX8_was_4 rfl ?_
  refine bk_iload_n hX 1 dX8_was_5 rfl ?_
  refine bk_callV_i hX [.int x1] [] yk_X8_isThing yv_X8_isThing lk_X8_130 rfl rfl kc_0 rfl rfl (Nat.le_of_ble_eq_true rfl) ⟨Nat.le_of_ble_eq_true rfl, Nat.le_of_ble_eq_true rfl⟩ dX8_was_6 (m_X8_isThing w) (bk_pu (fun r2 => ?_))
  refine bk_if_eq hX 20 dX8_was_9 rfl ?_ ?_
  · refine bk_bipush hX bk_cb_m2 dX8_was_20 ?_
    exact fun z => hret _ _ _ _ dX8_was_22 rfl z
  · refine bk_iload_n hX 2 dX8_was_12 rfl ?_
    refine bk_iconst hX bk_ci_2 dX8_was_13 ?_
    refine bk_callS_i hX [.int x2, .int (2 : Int32)] [] yk_X8_isBelow ys_X8_isBelow lk_X8_133 rfl rfl (Nat.le_of_ble_eq_true rfl) ⟨Nat.le_of_ble_eq_true rfl, Nat.le_of_ble_eq_true rfl⟩ dX8_was_14 (m_X8_isBelow w) (bk_pu (fun r3 => ?_))
    refine bk_if_ne hX 23 dX8_was_17 rfl ?_ ?_
    · refine bk_iload_n hX 2 dX8_was_23 rfl ?_
      refine bk_iconst hX bk_ci_1 dX8_was_24 ?_
      refine bk_icmp_ne hX 34 dX8_was_25 rfl ?_ ?_
      · refine bk_aload_n hX 0 dX8_was_34 rfl ?_
        refine bk_iload_n hX 1 dX8_was_35 rfl ?_
        refine bk_callV_v hX [.int x1] [] yk_X8_tryHeats yv_X8_tryHeats lk_X8_246 rfl rfl kc_0 rfl rfl (Nat.le_of_ble_eq_true rfl) ⟨Nat.le_of_ble_eq_true rfl, Nat.le_of_ble_eq_true rfl⟩ dX8_was_36 (m_X8_tryHeats w) (fun σ4 => ?_)
        refine bk_aload_n hX 0 dX8_was_39 rfl ?_
        refine bk_getr hX kc_0 rfl fl_X8_67 dX8_was_40 ?_
        refine bk_geti hX k_hea_61.1 rfl fl_X8_249 dX8_was_43 ?_
        exact fun z => hret _ _ _ _ dX8_was_46 rfl z
      · refine bk_aload_n hX 0 dX8_was_28 rfl ?_
        refine bk_iload_n hX 1 dX8_was_29 rfl ?_
        refine bk_callV_i hX [.int x1] [] yk_X8_sortsThatFit yv_X8_sortsThatFit lk_X8_243 rfl rfl kc_0 rfl rfl (Nat.le_of_ble_eq_true rfl) ⟨Nat.le_of_ble_eq_true rfl, Nat.le_of_ble_eq_true rfl⟩ dX8_was_30 (m_X8_sortsThatFit w) (fun r5 σ6 => ?_)
        exact fun z => hret _ _ _ _ dX8_was_33 rfl z
    · refine bk_bipush hX bk_cb_m2 dX8_was_20 ?_
      exact fun z => hret _ _ _ _ dX8_was_22 rfl z

def w_X8_ask (x1 : Int32) (σ : bk_S) (post : Int32 → bk_S → Prop) : Prop :=
  w_X8_refresh σ (fun σ1 =>
    w_X8_isThing x1 σ1 (fun r2 =>
      (¬ r2 = 0 → (w_X8_tryHeats x1 σ1 (fun σ3 =>
        w_X2_eveningToAsk 61 σ3 (fun r4 =>
          post r4 σ3)))) ∧ (r2 = 0 → post (-2 : Int32) σ1)))
set_option maxRecDepth 20000 in
theorem m_X8_ask (w : bk_W) {x1 : Int32} {σ : bk_S} {post : Int32 → bk_S → Prop} : w_X8_ask x1 σ post → bk_Mi lyC w yX8_ask cX8_ask 2 .int 5 122 [.ref (bk_r w 0), .int x1] σ post := by
  intro h0
  refine bk_mi (by decide) (Nat.le_of_ble_eq_true rfl) (fun X hX hret => ?_)
  revert h0
  unfold w_X8_ask
  show _ → bk_At lyC w X 0 [(0, .ref (bk_r w 0)), (1, .int x1)] [] σ
  refine bk_aload_n hX 0 dX8_ask_0 rfl ?_
  refine bk_callV_v hX [] [] yk_X8_refresh yv_X8_refresh lk_X8_121 rfl rfl kc_0 rfl rfl (Nat.le_of_ble_eq_true rfl) ⟨Nat.le_of_ble_eq_true rfl, Nat.le_of_ble_eq_true rfl⟩ dX8_ask_1 (m_X8_refresh w) (fun σ1 => ?_)
  refine bk_aload_n hX 0 dX8_ask_4 rfl ?_
  refine bk_iload_n hX 1 dX8_ask_5 rfl ?_
  refine bk_callV_i hX [.int x1] [] yk_X8_isThing yv_X8_isThing lk_X8_130 rfl rfl kc_0 rfl rfl (Nat.le_of_ble_eq_true rfl) ⟨Nat.le_of_ble_eq_true rfl, Nat.le_of_ble_eq_true rfl⟩ dX8_ask_6 (m_X8_isThing w) (bk_pu (fun r2 => ?_))
  refine bk_if_ne hX 15 dX8_ask_9 rfl ?_ ?_
  · refine bk_aload_n hX 0 dX8_ask_15 rfl ?_
    refine bk_iload_n hX 1 dX8_ask_16 rfl ?_
    refine bk_callV_v hX [.int x1] [] yk_X8_tryHeats yv_X8_tryHeats lk_X8_246 rfl rfl kc_0 rfl rfl (Nat.le_of_ble_eq_true rfl) ⟨Nat.le_of_ble_eq_true rfl, Nat.le_of_ble_eq_true rfl⟩ dX8_ask_17 (m_X8_tryHeats w) (fun σ3 => ?_)
    refine bk_aload_n hX 0 dX8_ask_20 rfl ?_
    refine bk_getr hX kc_0 rfl fl_X8_67 dX8_ask_21 ?_
    refine bk_callV_i hX [] [] yk_X2_eveningToAsk yv_X2_eveningToAsk lk_X8_252 rfl rfl k_hea_61.1 rfl rfl (Nat.le_of_ble_eq_true rfl) ⟨Nat.le_of_ble_eq_true rfl, Nat.le_of_ble_eq_true rfl⟩ dX8_ask_24 (m_X2_eveningToAsk w k_hea_61) (bk_pu (fun r4 => ?_))
    exact fun z => hret _ _ _ _ dX8_ask_27 rfl z
  · refine bk_bipush hX bk_cb_m2 dX8_ask_12 ?_
    exact fun z => hret _ _ _ _ dX8_ask_14 rfl z

def w_X8_weightOf (x1 : Int32) (x2 : Int32) (σ : bk_S) (post : Int64 → Prop) : Prop :=
  bk_lt (α := Int64) (1 : Int64) fun v1 =>
  bk_lt (α := Int32) (0 : Int32) fun v2 =>
  bk_loop (α := Int64 × Int32) (fun K3 a4 =>
    ((σ 5 3) ≤ a4.2 → post a4.1) ∧ (¬ (σ 5 3) ≤ a4.2 → (bk_lt (α := Int64) (if ((x2 >>> (a4.2 &&& 31)) &&& (1 : Int32)) = (1 : Int32) then (Int32.toInt64 x1) else (Int32.toInt64 ((16 : Int32) - x1))) fun a6 =>
    bk_lt (α := Int64) (a4.1 * a6) fun v7 =>
    bk_lt (α := Int32) (a4.2 + (1 : Int32)) fun v8 =>
    K3 (v7, v8)))) (v1, v2)
set_option maxRecDepth 20000 in
theorem m_X8_weightOf (w : bk_W) {x1 : Int32} {x2 : Int32} {σ : bk_S} {post : Int64 → Prop} : w_X8_weightOf x1 x2 σ post → bk_Ml lyC w yX8_weightOf cX8_weightOf 6 0 0 [.ref (bk_r w 0), .int x1, .int x2] σ (fun r σ1 => post r ∧ σ1 = σ) := by
  intro h0
  refine bk_ml (by decide) (Nat.le_of_ble_eq_true rfl) (fun X hX hret => ?_)
  revert h0
  unfold w_X8_weightOf
  show _ → bk_At lyC w X 0 [(0, .ref (bk_r w 0)), (1, .int x1), (2, .int x2)] [] σ
  refine bk_lconst hX bk_cl_1 dX8_weightOf_0 ?_
  refine bk_lstore_n hX (fun v1 => [(3, .long v1), (0, .ref (bk_r w 0)), (1, .int x1), (2, .int x2)]) dX8_weightOf_1 (Nat.le_of_ble_eq_true rfl) (fun _ => rfl) (fun v1 => ?_)
  refine bk_iconst hX bk_ci_0 dX8_weightOf_2 ?_
  refine bk_istore hX (fun v2 => [(5, .int v2), (3, .long v1), (0, .ref (bk_r w 0)), (1, .int x1), (2, .int x2)]) dX8_weightOf_3 (Nat.le_of_ble_eq_true rfl) (fun _ => rfl) (fun v2 => ?_)
  refine bk_pick [0, 1, 2, 3, 4] rfl (bk_r_loop (α := Int64 × Int32) (J := fun a => bk_At lyC w X 5 [(5, .int a.2), (3, .long a.1), (0, .ref (bk_r w 0)), (1, .int x1), (2, .int x2)] [] σ) (v1, v2) (fun K3 hK3 a4 => ?_))
  refine bk_iload hX 0 dX8_weightOf_5 rfl ?_
  refine bk_aload_n hX 2 dX8_weightOf_7 rfl ?_
  refine bk_getr hX kc_0 rfl fl_X8_24 dX8_weightOf_8 ?_
  refine bk_geti hX k_tri_5.1 rfl fl_X8_158 dX8_weightOf_11 ?_
  refine bk_icmp_ge hX 46 dX8_weightOf_14 rfl ?_ ?_
  · refine bk_lload_n hX 1 dX8_weightOf_46 rfl ?_
    exact fun z => hret _ _ _ _ dX8_weightOf_47 ⟨z, rfl⟩
  · refine bk_lload_n hX 1 dX8_weightOf_17 rfl ?_
    refine bk_iload_n hX 4 dX8_weightOf_18 rfl ?_
    refine bk_iload hX 0 dX8_weightOf_19 rfl ?_
    refine bk_ishr hX dX8_weightOf_21 ?_
    refine bk_iconst hX bk_ci_1 dX8_weightOf_22 ?_
    refine bk_iand hX dX8_weightOf_23 ?_
    refine bk_iconst hX bk_ci_1 dX8_weightOf_24 ?_
    refine bk_r_if (α := Int64) (F := fun K5 => (¬ ((x2 >>> (a4.2 &&& 31)) &&& (1 : Int32)) = (1 : Int32) → K5 (Int32.toInt64 ((16 : Int32) - x1))) ∧ (((x2 >>> (a4.2 &&& 31)) &&& (1 : Int32)) = (1 : Int32) → K5 (Int32.toInt64 x1))) (fun K5 z => ⟨fun h0 => (bk_neg (K := K5) h0 z), fun h0 => (bk_pos (K := K5) h0 z)⟩) (J := fun a => bk_At lyC w X 38 [(5, .int a4.2), (3, .long a4.1), (0, .ref (bk_r w 0)), (1, .int x1), (2, .int x2)] [.long a, .long a4.1] σ) (fun a6 => ?_) (fun K5 hK5 => ?_)
    · refine bk_lmul hX dX8_weightOf_38 ?_
      refine bk_lstore_n hX (fun v7 => [(3, .long v7), (5, .int a4.2), (0, .ref (bk_r w 0)), (1, .int x1), (2, .int x2)]) dX8_weightOf_39 (Nat.le_of_ble_eq_true rfl) (fun _ => rfl) (fun v7 => ?_)
      refine bk_iinc hX 1 (fun v8 => [(5, .int v8), (3, .long v7), (0, .ref (bk_r w 0)), (1, .int x1), (2, .int x2)]) dX8_weightOf_40 rfl bk_ci_1 (Nat.le_of_ble_eq_true rfl) (fun _ => rfl) (fun v8 => ?_)
      refine bk_goto hX 5 dX8_weightOf_43 rfl ?_
      exact bk_pick [0, 1, 2, 3, 4] rfl (hK3 (v7, v8))
    · refine bk_icmp_ne hX 33 dX8_weightOf_25 rfl ?_ ?_
      · refine bk_bipush hX bk_cb_16 dX8_weightOf_33 ?_
        refine bk_iload_n hX 3 dX8_weightOf_35 rfl ?_
        refine bk_isub hX dX8_weightOf_36 ?_
        refine bk_i2l hX dX8_weightOf_37 ?_
        exact bk_pick [0, 1, 2, 3, 4] rfl (hK5 (Int32.toInt64 ((16 : Int32) - x1)))
      · refine bk_iload_n hX 3 dX8_weightOf_28 rfl ?_
        refine bk_i2l hX dX8_weightOf_29 ?_
        refine bk_goto hX 38 dX8_weightOf_30 rfl ?_
        exact bk_pick [0, 1, 2, 3, 4] rfl (hK5 (Int32.toInt64 x1))

def w_X8_chanceOf (x1 : Int32) (x2 : Int32) (x3 : Int32) (σ : bk_S) (post : Int64 → Prop) : Prop :=
  bk_lt (α := Int64) (0 : Int64) fun v1 =>
  w_X8_allEvents σ (fun r2 =>
    bk_lt (α := Int32) r2 fun v3 =>
    bk_lt (α := Int32) (0 : Int32) fun v4 =>
    bk_jn (α := Int64) (fun a6 =>
      bk_lt (α := Int64) ((1 : Int64) <<< (Int32.toInt64 ((4 : Int32) * (σ 5 3)) &&& 63)) fun v13 =>
      bk_lt (α := Int32) (0 : Int32) fun v14 =>
      bk_jn (α := Int64 × Int64) (fun a16 =>
        (¬ x3 = 0 → post a16.2) ∧ (x3 = 0 → post a16.1)) (fun K15 =>
        bk_loop (α := Int64 × Int64 × Int32) (fun K17 a18 =>
          ((32 : Int32) ≤ a18.2.2 → K15 (a18.1, a18.2.1)) ∧ (¬ (32 : Int32) ≤ a18.2.2 → (((lg_cmp a18.2.1 (1 : Int64)) ≤ 0 → K15 (a18.1, a18.2.1)) ∧ (¬ (lg_cmp a18.2.1 (1 : Int64)) ≤ 0 → ((¬ (lg_cmp (a18.1 &&& (1 : Int64)) (0 : Int64)) = 0 → K15 (a18.1, a18.2.1)) ∧ ((lg_cmp (a18.1 &&& (1 : Int64)) (0 : Int64)) = 0 → (bk_lt (α := Int64) (a18.1 >>> (Int32.toInt64 (1 : Int32) &&& 63)) fun v19 =>
          bk_lt (α := Int64) (a18.2.1 >>> (Int32.toInt64 (1 : Int32) &&& 63)) fun v20 =>
          bk_lt (α := Int32) (a18.2.2 + (1 : Int32)) fun v21 =>
          K17 (v19, v20, v21)))))))) (a6, v13, v14))) (fun K5 =>
      bk_loop (α := Int64 × Int32) (fun K7 a8 =>
        (v3 < a8.2 → K5 a8.1) ∧ (¬ v3 < a8.2 → (vp_in a8.2 256 ∧ (¬ (((σ 64 (Int32.toNatClampNeg a8.2)) >>> (x2 &&& 31)) &&& (1 : Int32)) = (1 : Int32) → (bk_lt (α := Int32) (a8.2 + (1 : Int32)) fun v9 =>
        K7 (a8.1, v9))) ∧ ((((σ 64 (Int32.toNatClampNeg a8.2)) >>> (x2 &&& 31)) &&& (1 : Int32)) = (1 : Int32) → (w_X8_weightOf x1 a8.2 σ (fun r10 =>
          bk_lt (α := Int64) (a8.1 + r10) fun v11 =>
          bk_lt (α := Int32) (a8.2 + (1 : Int32)) fun v12 =>
          K7 (v11, v12))))))) (v1, v4)))
set_option maxRecDepth 20000 in
theorem m_X8_chanceOf (w : bk_W) {x1 : Int32} {x2 : Int32} {x3 : Int32} {σ : bk_S} {post : Int64 → Prop} : w_X8_chanceOf x1 x2 x3 σ post → bk_Ml lyC w yX8_chanceOf cX8_chanceOf 10 1 25 [.ref (bk_r w 0), .int x1, .int x2, .int x3] σ (fun r σ1 => post r ∧ σ1 = σ) := by
  intro h0
  refine bk_ml (by decide) (Nat.le_of_ble_eq_true rfl) (fun X hX hret => ?_)
  revert h0
  unfold w_X8_chanceOf
  show _ → bk_At lyC w X 0 [(0, .ref (bk_r w 0)), (1, .int x1), (2, .int x2), (3, .int x3)] [] σ
  refine bk_lconst hX bk_cl_0 dX8_chanceOf_0 ?_
  refine bk_lstore hX (fun v1 => [(4, .long v1), (0, .ref (bk_r w 0)), (1, .int x1), (2, .int x2), (3, .int x3)]) dX8_chanceOf_1 (Nat.le_of_ble_eq_true rfl) (fun _ => rfl) (fun v1 => ?_)
  refine bk_aload_n hX 1 dX8_chanceOf_3 rfl ?_
  refine bk_callV_i hX [] [] yk_X8_allEvents yv_X8_allEvents lk_X8_345 rfl rfl kc_0 rfl rfl (Nat.le_of_ble_eq_true rfl) ⟨Nat.le_of_ble_eq_true rfl, Nat.le_of_ble_eq_true rfl⟩ dX8_chanceOf_4 (m_X8_allEvents w) (bk_pu (fun r2 => ?_))
  refine bk_istore hX (fun v3 => [(6, .int v3), (4, .long v1), (0, .ref (bk_r w 0)), (1, .int x1), (2, .int x2), (3, .int x3)]) dX8_chanceOf_7 (Nat.le_of_ble_eq_true rfl) (fun _ => rfl) (fun v3 => ?_)
  refine bk_iconst hX bk_ci_0 dX8_chanceOf_9 ?_
  refine bk_istore hX (fun v4 => [(7, .int v4), (6, .int v3), (4, .long v1), (0, .ref (bk_r w 0)), (1, .int x1), (2, .int x2), (3, .int x3)]) dX8_chanceOf_10 (Nat.le_of_ble_eq_true rfl) (fun _ => rfl) (fun v4 => ?_)
  refine bk_r_jn (α := Int64) (J := fun a => bk_At lyC w X 52 [(6, .int v3), (4, .long a), (0, .ref (bk_r w 0)), (1, .int x1), (2, .int x2), (3, .int x3)] [] σ) (fun a6 => ?_) (fun K5 hK5 => ?_)
  · refine bk_lconst hX bk_cl_1 dX8_chanceOf_52 ?_
    refine bk_iconst hX bk_ci_4 dX8_chanceOf_53 ?_
    refine bk_aload_n hX 2 dX8_chanceOf_54 rfl ?_
    refine bk_getr hX kc_0 rfl fl_X8_24 dX8_chanceOf_55 ?_
    refine bk_geti hX k_tri_5.1 rfl fl_X8_158 dX8_chanceOf_58 ?_
    refine bk_imul hX dX8_chanceOf_61 ?_
    refine bk_lshl hX dX8_chanceOf_62 ?_
    refine bk_lstore hX (fun v13 => [(7, .long v13), (6, .int v3), (4, .long a6), (0, .ref (bk_r w 0)), (1, .int x1), (2, .int x2), (3, .int x3)]) dX8_chanceOf_63 (Nat.le_of_ble_eq_true rfl) (fun _ => rfl) (fun v13 => ?_)
    refine bk_iconst hX bk_ci_0 dX8_chanceOf_65 ?_
    refine bk_istore hX (fun v14 => [(9, .int v14), (7, .long v13), (6, .int v3), (4, .long a6), (0, .ref (bk_r w 0)), (1, .int x1), (2, .int x2), (3, .int x3)]) dX8_chanceOf_66 (Nat.le_of_ble_eq_true rfl) (fun _ => rfl) (fun v14 => ?_)
    refine bk_r_jn (α := Int64 × Int64) (J := fun a => bk_At lyC w X 109 [(7, .long a.2), (6, .int v3), (4, .long a.1), (0, .ref (bk_r w 0)), (1, .int x1), (2, .int x2), (3, .int x3)] [] σ) (fun a16 => ?_) (fun K15 hK15 => ?_)
    · refine bk_iload_n hX 6 dX8_chanceOf_109 rfl ?_
      refine bk_if_ne hX 118 dX8_chanceOf_110 rfl ?_ ?_
      · refine bk_lload hX 0 dX8_chanceOf_118 rfl ?_
        exact fun z => hret _ _ _ _ dX8_chanceOf_120 ⟨z, rfl⟩
      · refine bk_lload hX 2 dX8_chanceOf_113 rfl ?_
        refine bk_goto hX 120 dX8_chanceOf_115 rfl ?_
        exact fun z => hret _ _ _ _ dX8_chanceOf_120 ⟨z, rfl⟩
    · refine bk_pick [0, 1, 2, 3, 4, 5, 6, 7] rfl (bk_r_loop (α := Int64 × Int64 × Int32) (J := fun a => bk_At lyC w X 68 [(9, .int a.2.2), (7, .long a.2.1), (6, .int v3), (4, .long a.1), (0, .ref (bk_r w 0)), (1, .int x1), (2, .int x2), (3, .int x3)] [] σ) (a6, v13, v14) (fun K17 hK17 a18 => ?_))
      refine bk_iload hX 0 dX8_chanceOf_68 rfl ?_
      refine bk_bipush hX bk_cb_32 dX8_chanceOf_70 ?_
      refine bk_icmp_ge hX 109 dX8_chanceOf_72 rfl ?_ ?_
      · exact bk_pick [1, 2, 3, 4, 5, 6, 7] rfl (hK15 (a18.1, a18.2.1))
      · refine bk_lload hX 1 dX8_chanceOf_75 rfl ?_
        refine bk_lconst hX bk_cl_1 dX8_chanceOf_77 ?_
        refine bk_lcmp hX dX8_chanceOf_78 ?_
        refine bk_if_le hX 109 dX8_chanceOf_79 rfl ?_ ?_
        · exact bk_pick [1, 2, 3, 4, 5, 6, 7] rfl (hK15 (a18.1, a18.2.1))
        · refine bk_lload hX 3 dX8_chanceOf_82 rfl ?_
          refine bk_lconst hX bk_cl_1 dX8_chanceOf_84 ?_
          refine bk_land hX dX8_chanceOf_85 ?_
          refine bk_lconst hX bk_cl_0 dX8_chanceOf_86 ?_
          refine bk_lcmp hX dX8_chanceOf_87 ?_
          refine bk_if_ne hX 109 dX8_chanceOf_88 rfl ?_ ?_
          · exact bk_pick [1, 2, 3, 4, 5, 6, 7] rfl (hK15 (a18.1, a18.2.1))
          · refine bk_lload hX 3 dX8_chanceOf_91 rfl ?_
            refine bk_iconst hX bk_ci_1 dX8_chanceOf_93 ?_
            refine bk_lshr hX dX8_chanceOf_94 ?_
            refine bk_lstore hX (fun v19 => [(4, .long v19), (9, .int a18.2.2), (7, .long a18.2.1), (6, .int v3), (0, .ref (bk_r w 0)), (1, .int x1), (2, .int x2), (3, .int x3)]) dX8_chanceOf_95 (Nat.le_of_ble_eq_true rfl) (fun _ => rfl) (fun v19 => ?_)
            refine bk_lload hX 2 dX8_chanceOf_97 rfl ?_
            refine bk_iconst hX bk_ci_1 dX8_chanceOf_99 ?_
            refine bk_lshr hX dX8_chanceOf_100 ?_
            refine bk_lstore hX (fun v20 => [(7, .long v20), (4, .long v19), (9, .int a18.2.2), (6, .int v3), (0, .ref (bk_r w 0)), (1, .int x1), (2, .int x2), (3, .int x3)]) dX8_chanceOf_101 (Nat.le_of_ble_eq_true rfl) (fun _ => rfl) (fun v20 => ?_)
            refine bk_iinc hX 2 (fun v21 => [(9, .int v21), (7, .long v20), (4, .long v19), (6, .int v3), (0, .ref (bk_r w 0)), (1, .int x1), (2, .int x2), (3, .int x3)]) dX8_chanceOf_103 rfl bk_ci_1 (Nat.le_of_ble_eq_true rfl) (fun _ => rfl) (fun v21 => ?_)
            refine bk_goto hX 68 dX8_chanceOf_106 rfl ?_
            exact bk_pick [0, 1, 3, 2, 4, 5, 6, 7] rfl (hK17 (v19, v20, v21))
  · refine bk_pick [0, 1, 2, 3, 4, 5, 6] rfl (bk_r_loop (α := Int64 × Int32) (J := fun a => bk_At lyC w X 12 [(7, .int a.2), (6, .int v3), (4, .long a.1), (0, .ref (bk_r w 0)), (1, .int x1), (2, .int x2), (3, .int x3)] [] σ) (v1, v4) (fun K7 hK7 a8 => ?_))
    refine bk_iload hX 0 dX8_chanceOf_12 rfl ?_
    refine bk_iload hX 1 dX8_chanceOf_14 rfl ?_
    refine bk_icmp_gt hX 52 dX8_chanceOf_16 rfl ?_ ?_
    · exact bk_pick [1, 2, 3, 4, 5, 6] rfl (hK5 a8.1)
    · refine bk_aload_n hX 3 dX8_chanceOf_19 rfl ?_
      refine bk_getr hX kc_0 rfl fl_X8_78 dX8_chanceOf_20 ?_
      refine bk_iload hX 0 dX8_chanceOf_23 rfl ?_
      refine bk_iaload hX kc_64 dX8_chanceOf_25 ?_
      refine bk_iload_n hX 5 dX8_chanceOf_26 rfl ?_
      refine bk_ishr hX dX8_chanceOf_27 ?_
      refine bk_iconst hX bk_ci_1 dX8_chanceOf_28 ?_
      refine bk_iand hX dX8_chanceOf_29 ?_
      refine bk_iconst hX bk_ci_1 dX8_chanceOf_30 ?_
      refine bk_icmp_ne hX 46 dX8_chanceOf_31 rfl ?_ ?_
      · refine bk_iinc hX 0 (fun v9 => [(7, .int v9), (6, .int v3), (4, .long a8.1), (0, .ref (bk_r w 0)), (1, .int x1), (2, .int x2), (3, .int x3)]) dX8_chanceOf_46 rfl bk_ci_1 (Nat.le_of_ble_eq_true rfl) (fun _ => rfl) (fun v9 => ?_)
        refine bk_goto hX 12 dX8_chanceOf_49 rfl ?_
        exact bk_pick [0, 1, 2, 3, 4, 5, 6] rfl (hK7 (a8.1, v9))
      · refine bk_lload hX 2 dX8_chanceOf_34 rfl ?_
        refine bk_aload_n hX 3 dX8_chanceOf_36 rfl ?_
        refine bk_iload_n hX 4 dX8_chanceOf_37 rfl ?_
        refine bk_iload hX 0 dX8_chanceOf_38 rfl ?_
        refine bk_callV_l hX [.int x1, .int a8.2] [.long a8.1] yk_X8_weightOf yv_X8_weightOf lk_X8_390 rfl rfl kc_0 rfl rfl (Nat.le_of_ble_eq_true rfl) ⟨Nat.le_of_ble_eq_true rfl, Nat.le_of_ble_eq_true rfl⟩ dX8_chanceOf_40 (m_X8_weightOf w) (bk_pu (fun r10 => ?_))
        refine bk_ladd hX dX8_chanceOf_43 ?_
        refine bk_lstore hX (fun v11 => [(4, .long v11), (7, .int a8.2), (6, .int v3), (0, .ref (bk_r w 0)), (1, .int x1), (2, .int x2), (3, .int x3)]) dX8_chanceOf_44 (Nat.le_of_ble_eq_true rfl) (fun _ => rfl) (fun v11 => ?_)
        refine bk_iinc hX 1 (fun v12 => [(7, .int v12), (4, .long v11), (6, .int v3), (0, .ref (bk_r w 0)), (1, .int x1), (2, .int x2), (3, .int x3)]) dX8_chanceOf_46 rfl bk_ci_1 (Nat.le_of_ble_eq_true rfl) (fun _ => rfl) (fun v12 => ?_)
        refine bk_goto hX 12 dX8_chanceOf_49 rfl ?_
        exact bk_pick [0, 2, 1, 3, 4, 5, 6] rfl (hK7 (v11, v12))

def w_X8_chance (x1 : Int32) (x2 : Int32) (x3 : Int32) (σ : bk_S) (post : Int64 → bk_S → Prop) : Prop :=
  w_X8_refresh σ (fun σ1 =>
    (x1 < 0 → post (-9223372036854775806 : Int64) σ1) ∧ (¬ x1 < 0 → (((16 : Int32) < x1 → post (-9223372036854775806 : Int64) σ1) ∧ (¬ (16 : Int32) < x1 → (w_X8_isThing x2 σ1 (fun r2 =>
      (r2 = 0 → post (-9223372036854775806 : Int64) σ1) ∧ (¬ r2 = 0 → (w_X8_isBelow x3 (2 : Int32) (fun r3 =>
        (¬ r3 = 0 → (w_X8_refreshEnds σ1 (fun σ4 =>
          w_X8_chanceOf x1 x2 x3 σ4 (fun r5 =>
            post r5 σ4)))) ∧ (r3 = 0 → post (-9223372036854775806 : Int64) σ1))))))))))
set_option maxRecDepth 20000 in
theorem m_X8_chance (w : bk_W) {x1 : Int32} {x2 : Int32} {x3 : Int32} {σ : bk_S} {post : Int64 → bk_S → Prop} : w_X8_chance x1 x2 x3 σ post → bk_Ml lyC w yX8_chance cX8_chance 4 5 121 [.ref (bk_r w 0), .int x1, .int x2, .int x3] σ post := by
  intro h0
  refine bk_ml (by decide) (Nat.le_of_ble_eq_true rfl) (fun X hX hret => ?_)
  revert h0
  unfold w_X8_chance
  show _ → bk_At lyC w X 0 [(0, .ref (bk_r w 0)), (1, .int x1), (2, .int x2), (3, .int x3)] [] σ
  refine bk_aload_n hX 0 dX8_chance_0 rfl ?_
  refine bk_callV_v hX [] [] yk_X8_refresh yv_X8_refresh lk_X8_121 rfl rfl kc_0 rfl rfl (Nat.le_of_ble_eq_true rfl) ⟨Nat.le_of_ble_eq_true rfl, Nat.le_of_ble_eq_true rfl⟩ dX8_chance_1 (m_X8_refresh w) (fun σ1 => ?_)
  refine bk_iload_n hX 1 dX8_chance_4 rfl ?_
  refine bk_if_lt hX 30 dX8_chance_5 rfl ?_ ?_
  · refine bk_ldc2 hX kn_X8_255 dX8_chance_30 ?_
    exact fun z => hret _ _ _ _ dX8_chance_33 z
  · refine bk_iload_n hX 1 dX8_chance_8 rfl ?_
    refine bk_bipush hX bk_cb_16 dX8_chance_9 ?_
    refine bk_icmp_gt hX 30 dX8_chance_11 rfl ?_ ?_
    · refine bk_ldc2 hX kn_X8_255 dX8_chance_30 ?_
      exact fun z => hret _ _ _ _ dX8_chance_33 z
    · refine bk_aload_n hX 0 dX8_chance_14 rfl ?_
      refine bk_iload_n hX 2 dX8_chance_15 rfl ?_
      refine bk_callV_i hX [.int x2] [] yk_X8_isThing yv_X8_isThing lk_X8_130 rfl rfl kc_0 rfl rfl (Nat.le_of_ble_eq_true rfl) ⟨Nat.le_of_ble_eq_true rfl, Nat.le_of_ble_eq_true rfl⟩ dX8_chance_16 (m_X8_isThing w) (bk_pu (fun r2 => ?_))
      refine bk_if_eq hX 30 dX8_chance_19 rfl ?_ ?_
      · refine bk_ldc2 hX kn_X8_255 dX8_chance_30 ?_
        exact fun z => hret _ _ _ _ dX8_chance_33 z
      · refine bk_iload_n hX 3 dX8_chance_22 rfl ?_
        refine bk_iconst hX bk_ci_2 dX8_chance_23 ?_
        refine bk_callS_i hX [.int x3, .int (2 : Int32)] [] yk_X8_isBelow ys_X8_isBelow lk_X8_133 rfl rfl (Nat.le_of_ble_eq_true rfl) ⟨Nat.le_of_ble_eq_true rfl, Nat.le_of_ble_eq_true rfl⟩ dX8_chance_24 (m_X8_isBelow w) (bk_pu (fun r3 => ?_))
        refine bk_if_ne hX 34 dX8_chance_27 rfl ?_ ?_
        · refine bk_aload_n hX 0 dX8_chance_34 rfl ?_
          refine bk_callV_v hX [] [] yk_X8_refreshEnds yv_X8_refreshEnds lk_X8_231 rfl rfl kc_0 rfl rfl (Nat.le_of_ble_eq_true rfl) ⟨Nat.le_of_ble_eq_true rfl, Nat.le_of_ble_eq_true rfl⟩ dX8_chance_35 (m_X8_refreshEnds w) (fun σ4 => ?_)
          refine bk_aload_n hX 0 dX8_chance_38 rfl ?_
          refine bk_iload_n hX 1 dX8_chance_39 rfl ?_
          refine bk_iload_n hX 2 dX8_chance_40 rfl ?_
          refine bk_iload_n hX 3 dX8_chance_41 rfl ?_
          refine bk_callV_l hX [.int x1, .int x2, .int x3] [] yk_X8_chanceOf yv_X8_chanceOf lk_X8_257 rfl rfl kc_0 rfl rfl (Nat.le_of_ble_eq_true rfl) ⟨Nat.le_of_ble_eq_true rfl, Nat.le_of_ble_eq_true rfl⟩ dX8_chance_42 (m_X8_chanceOf w) (bk_pu (fun r5 => ?_))
          exact fun z => hret _ _ _ _ dX8_chance_45 z
        · refine bk_ldc2 hX kn_X8_255 dX8_chance_30 ?_
          exact fun z => hret _ _ _ _ dX8_chance_33 z

def w_X8_runSeason (x1 : Int32) (x2 : Int32) (σ : bk_S) (post : bk_S → Prop) : Prop :=
  w_X4_copyFrom 29 22 σ (fun σ1 =>
    bk_lt (α := bk_S) (bk_u σ1 63 0 x1) fun σ2 =>
    bk_lt (α := bk_S) (bk_u σ2 29 1 x2) fun σ3 =>
    bk_lt (α := Int32) (0 : Int32) fun v4 =>
    bk_jn (α := bk_S) (fun a6 =>
      w_X1_run 48 29 a6 (fun σ19 =>
        post σ19)) (fun K5 =>
      bk_loop (α := Int32 × bk_S) (fun K7 a8 =>
        (x2 ≤ a8.1 → K5 a8.2) ∧ (¬ x2 ≤ a8.1 → (w_X3_draw 63 (3 : Int32) a8.2 (fun r9 σ10 =>
          vp_in a8.1 8 ∧ bk_lt (α := bk_S) (bk_u σ10 (29 + 2) (Int32.toNatClampNeg a8.1) r9) fun σ11 =>
          w_X3_draw 63 (9 : Int32) σ11 (fun r12 σ13 =>
            vp_in a8.1 8 ∧ bk_lt (α := bk_S) (bk_u σ13 (29 + 3) (Int32.toNatClampNeg a8.1) (r12 + (1 : Int32))) fun σ14 =>
            w_X3_draw 63 (10 : Int32) σ14 (fun r15 σ16 =>
              vp_in a8.1 8 ∧ bk_lt (α := bk_S) (bk_u σ16 (29 + 4) (Int32.toNatClampNeg a8.1) r15) fun σ17 =>
              bk_lt (α := Int32) (a8.1 + (1 : Int32)) fun v18 =>
              K7 (v18, σ17))))))) (v4, σ3)))
set_option maxRecDepth 20000 in
theorem m_X8_runSeason (w : bk_W) {x1 : Int32} {x2 : Int32} {σ : bk_S} {post : bk_S → Prop} : w_X8_runSeason x1 x2 σ post → bk_Mv lyC w yX8_runSeason cX8_runSeason 4 4 99 [.ref (bk_r w 0), .int x1, .int x2] σ post := by
  intro h0
  refine bk_mv (by decide) (Nat.le_of_ble_eq_true rfl) (fun X hX hret => ?_)
  revert h0
  unfold w_X8_runSeason
  show _ → bk_At lyC w X 0 [(0, .ref (bk_r w 0)), (1, .int x1), (2, .int x2)] [] σ
  refine bk_aload_n hX 0 dX8_runSeason_0 rfl ?_
  refine bk_getr hX kc_0 rfl fl_X8_44 dX8_runSeason_1 ?_
  refine bk_aload_n hX 0 dX8_runSeason_4 rfl ?_
  refine bk_getr hX kc_0 rfl fl_X8_40 dX8_runSeason_5 ?_
  refine bk_callV_v hX [.ref (bk_r w 22)] [] yk_X4_copyFrom yv_X4_copyFrom lk_X8_359 rfl rfl k_set_29.1 rfl rfl (Nat.le_of_ble_eq_true rfl) ⟨Nat.le_of_ble_eq_true rfl, Nat.le_of_ble_eq_true rfl⟩ dX8_runSeason_8 (m_X4_copyFrom w k_set_29 k_set_22) (fun σ1 => ?_)
  refine bk_aload_n hX 0 dX8_runSeason_11 rfl ?_
  refine bk_getr hX kc_0 rfl fl_X8_74 dX8_runSeason_12 ?_
  refine bk_iload_n hX 1 dX8_runSeason_15 rfl ?_
  refine bk_putI hX k_lot_63 rfl fp_X8_394 dX8_runSeason_16 (fun σ2 => ?_)
  refine bk_aload_n hX 0 dX8_runSeason_19 rfl ?_
  refine bk_getr hX kc_0 rfl fl_X8_44 dX8_runSeason_20 ?_
  refine bk_iload_n hX 2 dX8_runSeason_23 rfl ?_
  refine bk_putI hX k_set_29.1 rfl fp_X8_305 dX8_runSeason_24 (fun σ3 => ?_)
  refine bk_iconst hX bk_ci_0 dX8_runSeason_27 ?_
  refine bk_istore_n hX (fun v4 => [(3, .int v4), (0, .ref (bk_r w 0)), (1, .int x1), (2, .int x2)]) dX8_runSeason_28 (Nat.le_of_ble_eq_true rfl) (fun _ => rfl) (fun v4 => ?_)
  refine bk_r_jn (α := bk_S) (J := fun a => bk_At lyC w X 95 [(0, .ref (bk_r w 0)), (1, .int x1), (2, .int x2)] [] a) (fun a6 => ?_) (fun K5 hK5 => ?_)
  · refine bk_aload_n hX 0 dX8_runSeason_95 rfl ?_
    refine bk_getr hX kc_0 rfl fl_X8_54 dX8_runSeason_96 ?_
    refine bk_aload_n hX 0 dX8_runSeason_99 rfl ?_
    refine bk_getr hX kc_0 rfl fl_X8_44 dX8_runSeason_100 ?_
    refine bk_callV_v hX [.ref (bk_r w 29)] [] yk_X1_run yv_X1_run lk_X8_352 rfl rfl k_crs_48.1 rfl rfl (Nat.le_of_ble_eq_true rfl) ⟨Nat.le_of_ble_eq_true rfl, Nat.le_of_ble_eq_true rfl⟩ dX8_runSeason_103 (m_X1_run w k_crs_48 k_set_29) (fun σ19 => ?_)
    exact fun z => hret _ _ _ dX8_runSeason_106 z
  · refine bk_pick [0, 1, 2, 3] rfl (bk_r_loop (α := Int32 × bk_S) (J := fun a => bk_At lyC w X 29 [(3, .int a.1), (0, .ref (bk_r w 0)), (1, .int x1), (2, .int x2)] [] a.2) (v4, σ3) (fun K7 hK7 a8 => ?_))
    refine bk_iload_n hX 0 dX8_runSeason_29 rfl ?_
    refine bk_iload_n hX 3 dX8_runSeason_30 rfl ?_
    refine bk_icmp_ge hX 95 dX8_runSeason_31 rfl ?_ ?_
    · exact bk_pick [1, 2, 3] rfl (hK5 a8.2)
    · refine bk_aload_n hX 1 dX8_runSeason_34 rfl ?_
      refine bk_getr hX kc_0 rfl fl_X8_44 dX8_runSeason_35 ?_
      refine bk_getr hX k_set_29.1 rfl fl_X8_137 dX8_runSeason_38 ?_
      refine bk_iload_n hX 0 dX8_runSeason_41 rfl ?_
      refine bk_aload_n hX 1 dX8_runSeason_42 rfl ?_
      refine bk_getr hX kc_0 rfl fl_X8_74 dX8_runSeason_43 ?_
      refine bk_iconst hX bk_ci_3 dX8_runSeason_46 ?_
      refine bk_callV_i hX [.int (3 : Int32)] [.int a8.1, .ref (bk_r w (29 + 2))] yk_X3_draw yv_X3_draw lk_X8_397 rfl rfl k_lot_63 rfl rfl (Nat.le_of_ble_eq_true rfl) ⟨Nat.le_of_ble_eq_true rfl, Nat.le_of_ble_eq_true rfl⟩ dX8_runSeason_47 (m_X3_draw w k_lot_63) (fun r9 σ10 => ?_)
      refine bk_iastore hX k_set_29.2.2.1 dX8_runSeason_50 (fun σ11 => ?_)
      refine bk_aload_n hX 1 dX8_runSeason_51 rfl ?_
      refine bk_getr hX kc_0 rfl fl_X8_44 dX8_runSeason_52 ?_
      refine bk_getr hX k_set_29.1 rfl fl_X8_140 dX8_runSeason_55 ?_
      refine bk_iload_n hX 0 dX8_runSeason_58 rfl ?_
      refine bk_aload_n hX 1 dX8_runSeason_59 rfl ?_
      refine bk_getr hX kc_0 rfl fl_X8_74 dX8_runSeason_60 ?_
      refine bk_bipush hX bk_cb_9 dX8_runSeason_63 ?_
      refine bk_callV_i hX [.int (9 : Int32)] [.int a8.1, .ref (bk_r w (29 + 3))] yk_X3_draw yv_X3_draw lk_X8_397 rfl rfl k_lot_63 rfl rfl (Nat.le_of_ble_eq_true rfl) ⟨Nat.le_of_ble_eq_true rfl, Nat.le_of_ble_eq_true rfl⟩ dX8_runSeason_65 (m_X3_draw w k_lot_63) (fun r12 σ13 => ?_)
      refine bk_iconst hX bk_ci_1 dX8_runSeason_68 ?_
      refine bk_iadd hX dX8_runSeason_69 ?_
      refine bk_iastore hX k_set_29.2.2.2.1 dX8_runSeason_70 (fun σ14 => ?_)
      refine bk_aload_n hX 1 dX8_runSeason_71 rfl ?_
      refine bk_getr hX kc_0 rfl fl_X8_44 dX8_runSeason_72 ?_
      refine bk_getr hX k_set_29.1 rfl fl_X8_143 dX8_runSeason_75 ?_
      refine bk_iload_n hX 0 dX8_runSeason_78 rfl ?_
      refine bk_aload_n hX 1 dX8_runSeason_79 rfl ?_
      refine bk_getr hX kc_0 rfl fl_X8_74 dX8_runSeason_80 ?_
      refine bk_bipush hX bk_cb_10 dX8_runSeason_83 ?_
      refine bk_callV_i hX [.int (10 : Int32)] [.int a8.1, .ref (bk_r w (29 + 4))] yk_X3_draw yv_X3_draw lk_X8_397 rfl rfl k_lot_63 rfl rfl (Nat.le_of_ble_eq_true rfl) ⟨Nat.le_of_ble_eq_true rfl, Nat.le_of_ble_eq_true rfl⟩ dX8_runSeason_85 (m_X3_draw w k_lot_63) (fun r15 σ16 => ?_)
      refine bk_iastore hX k_set_29.2.2.2.2.1 dX8_runSeason_88 (fun σ17 => ?_)
      refine bk_iinc hX 0 (fun v18 => [(3, .int v18), (0, .ref (bk_r w 0)), (1, .int x1), (2, .int x2)]) dX8_runSeason_89 rfl bk_ci_1 (Nat.le_of_ble_eq_true rfl) (fun _ => rfl) (fun v18 => ?_)
      refine bk_goto hX 29 dX8_runSeason_92 rfl ?_
      exact bk_pick [0, 1, 2, 3] rfl (hK7 (v18, σ17))

def w_X8_seasons (x1 : Int32) (x2 : Int32) (x3 : Int32) (σ : bk_S) (post : Int32 → bk_S → Prop) : Prop :=
  (x2 < 0 → post (-2 : Int32) σ) ∧ (¬ x2 < 0 → (((8 : Int32) < x2 → post (-2 : Int32) σ) ∧ (¬ (8 : Int32) < x2 → (w_X8_isBelow x3 (2 : Int32) (fun r1 =>
    (¬ r1 = 0 → (w_X8_refresh σ (fun σ2 =>
      w_X8_runSeason x1 x2 σ2 (fun σ3 =>
        (¬ x3 = 0 → (w_X8_sumOf (48 + 9) 12 σ3 (fun r4 =>
          post r4 σ3))) ∧ (x3 = 0 → post (σ3 48 11) σ3))))) ∧ (r1 = 0 → post (-2 : Int32) σ))))))
set_option maxRecDepth 20000 in
theorem m_X8_seasons (w : bk_W) {x1 : Int32} {x2 : Int32} {x3 : Int32} {σ : bk_S} {post : Int32 → bk_S → Prop} : w_X8_seasons x1 x2 x3 σ post → bk_Mi lyC w yX8_seasons cX8_seasons 4 .int 5 122 [.ref (bk_r w 0), .int x1, .int x2, .int x3] σ post := by
  intro h0
  refine bk_mi (by decide) (Nat.le_of_ble_eq_true rfl) (fun X hX hret => ?_)
  revert h0
  unfold w_X8_seasons
  show _ → bk_At lyC w X 0 [(0, .ref (bk_r w 0)), (1, .int x1), (2, .int x2), (3, .int x3)] [] σ
  refine bk_iload_n hX 2 dX8_seasons_0 rfl ?_
  refine bk_if_lt hX 18 dX8_seasons_1 rfl ?_ ?_
  · refine bk_bipush hX bk_cb_m2 dX8_seasons_18 ?_
    exact fun z => hret _ _ _ _ dX8_seasons_20 rfl z
  · refine bk_iload_n hX 2 dX8_seasons_4 rfl ?_
    refine bk_bipush hX bk_cb_8 dX8_seasons_5 ?_
    refine bk_icmp_gt hX 18 dX8_seasons_7 rfl ?_ ?_
    · refine bk_bipush hX bk_cb_m2 dX8_seasons_18 ?_
      exact fun z => hret _ _ _ _ dX8_seasons_20 rfl z
    · refine bk_iload_n hX 3 dX8_seasons_10 rfl ?_
      refine bk_iconst hX bk_ci_2 dX8_seasons_11 ?_
      refine bk_callS_i hX [.int x3, .int (2 : Int32)] [] yk_X8_isBelow ys_X8_isBelow lk_X8_133 rfl rfl (Nat.le_of_ble_eq_true rfl) ⟨Nat.le_of_ble_eq_true rfl, Nat.le_of_ble_eq_true rfl⟩ dX8_seasons_12 (m_X8_isBelow w) (bk_pu (fun r1 => ?_))
      refine bk_if_ne hX 21 dX8_seasons_15 rfl ?_ ?_
      · refine bk_aload_n hX 0 dX8_seasons_21 rfl ?_
        refine bk_callV_v hX [] [] yk_X8_refresh yv_X8_refresh lk_X8_121 rfl rfl kc_0 rfl rfl (Nat.le_of_ble_eq_true rfl) ⟨Nat.le_of_ble_eq_true rfl, Nat.le_of_ble_eq_true rfl⟩ dX8_seasons_22 (m_X8_refresh w) (fun σ2 => ?_)
        refine bk_aload_n hX 0 dX8_seasons_25 rfl ?_
        refine bk_iload_n hX 1 dX8_seasons_26 rfl ?_
        refine bk_iload_n hX 2 dX8_seasons_27 rfl ?_
        refine bk_callV_v hX [.int x1, .int x2] [] yk_X8_runSeason yv_X8_runSeason lk_X8_261 rfl rfl kc_0 rfl rfl (Nat.le_of_ble_eq_true rfl) ⟨Nat.le_of_ble_eq_true rfl, Nat.le_of_ble_eq_true rfl⟩ dX8_seasons_28 (m_X8_runSeason w) (fun σ3 => ?_)
        refine bk_iload_n hX 3 dX8_seasons_31 rfl ?_
        refine bk_if_ne hX 45 dX8_seasons_32 rfl ?_ ?_
        · refine bk_aload_n hX 0 dX8_seasons_45 rfl ?_
          refine bk_getr hX kc_0 rfl fl_X8_54 dX8_seasons_46 ?_
          refine bk_getr hX k_crs_48.1 rfl fl_X8_268 dX8_seasons_49 ?_
          refine bk_callS_i hX [.ref (bk_r w (48 + 9))] [] yk_X8_sumOf ys_X8_sumOf lk_X8_271 rfl rfl (Nat.le_of_ble_eq_true rfl) ⟨Nat.le_of_ble_eq_true rfl, Nat.le_of_ble_eq_true rfl⟩ dX8_seasons_52 (m_X8_sumOf w k_crs_48.2.2.2.2.2.2.2.2.2.1) (bk_pu (fun r4 => ?_))
          exact fun z => hret _ _ _ _ dX8_seasons_55 rfl z
        · refine bk_aload_n hX 0 dX8_seasons_35 rfl ?_
          refine bk_getr hX kc_0 rfl fl_X8_54 dX8_seasons_36 ?_
          refine bk_geti hX k_crs_48.1 rfl fl_X8_265 dX8_seasons_39 ?_
          refine bk_goto hX 55 dX8_seasons_42 rfl ?_
          exact fun z => hret _ _ _ _ dX8_seasons_55 rfl z
      · refine bk_bipush hX bk_cb_m2 dX8_seasons_18 ?_
        exact fun z => hret _ _ _ _ dX8_seasons_20 rfl z

def w_X8_sheet (x1 : Int32) (x2 : Int32) (x3 : Int32) (σ : bk_S) (post : Int32 → bk_S → Prop) : Prop :=
  w_X8_isSheet x1 (fun r1 =>
    (r1 = 0 → post (-2 : Int32) σ) ∧ (¬ r1 = 0 → (w_X8_isBelow x2 (3 : Int32) (fun r2 =>
      (r2 = 0 → post (-2 : Int32) σ) ∧ (¬ r2 = 0 → ((x3 ≤ (60 : Int32) → ((0 ≤ x3 → (vp_in x1 4 ∧ w_X5_lay (14 + 2 * Int32.toNatClampNeg x1) x2 x3 σ (fun σ4 =>
        post x3 σ4))) ∧ (¬ 0 ≤ x3 → (w_X8_findingOf (5 : Int32) σ (fun r5 σ6 =>
        post r5 σ6))))) ∧ (¬ x3 ≤ (60 : Int32) → post (-2 : Int32) σ)))))))
set_option maxRecDepth 20000 in
theorem m_X8_sheet (w : bk_W) {x1 : Int32} {x2 : Int32} {x3 : Int32} {σ : bk_S} {post : Int32 → bk_S → Prop} : w_X8_sheet x1 x2 x3 σ post → bk_Mi lyC w yX8_sheet cX8_sheet 4 .int 2 45 [.ref (bk_r w 0), .int x1, .int x2, .int x3] σ post := by
  intro h0
  refine bk_mi (by decide) (Nat.le_of_ble_eq_true rfl) (fun X hX hret => ?_)
  revert h0
  unfold w_X8_sheet
  show _ → bk_At lyC w X 0 [(0, .ref (bk_r w 0)), (1, .int x1), (2, .int x2), (3, .int x3)] [] σ
  refine bk_iload_n hX 1 dX8_sheet_0 rfl ?_
  refine bk_callS_i hX [.int x1] [] yk_X8_isSheet ys_X8_isSheet lk_X8_161 rfl rfl (Nat.le_of_ble_eq_true rfl) ⟨Nat.le_of_ble_eq_true rfl, Nat.le_of_ble_eq_true rfl⟩ dX8_sheet_1 (m_X8_isSheet w) (bk_pu (fun r1 => ?_))
  refine bk_if_eq hX 21 dX8_sheet_4 rfl ?_ ?_
  · refine bk_bipush hX bk_cb_m2 dX8_sheet_21 ?_
    exact fun z => hret _ _ _ _ dX8_sheet_23 rfl z
  · refine bk_iload_n hX 2 dX8_sheet_7 rfl ?_
    refine bk_iconst hX bk_ci_3 dX8_sheet_8 ?_
    refine bk_callS_i hX [.int x2, .int (3 : Int32)] [] yk_X8_isBelow ys_X8_isBelow lk_X8_133 rfl rfl (Nat.le_of_ble_eq_true rfl) ⟨Nat.le_of_ble_eq_true rfl, Nat.le_of_ble_eq_true rfl⟩ dX8_sheet_9 (m_X8_isBelow w) (bk_pu (fun r2 => ?_))
    refine bk_if_eq hX 21 dX8_sheet_12 rfl ?_ ?_
    · refine bk_bipush hX bk_cb_m2 dX8_sheet_21 ?_
      exact fun z => hret _ _ _ _ dX8_sheet_23 rfl z
    · refine bk_iload_n hX 3 dX8_sheet_15 rfl ?_
      refine bk_bipush hX bk_cb_60 dX8_sheet_16 ?_
      refine bk_icmp_le hX 24 dX8_sheet_18 rfl ?_ ?_
      · refine bk_iload_n hX 3 dX8_sheet_24 rfl ?_
        refine bk_if_ge hX 34 dX8_sheet_25 rfl ?_ ?_
        · refine bk_aload_n hX 0 dX8_sheet_34 rfl ?_
          refine bk_getr hX kc_0 rfl fl_X8_33 dX8_sheet_35 ?_
          refine bk_iload_n hX 1 dX8_sheet_38 rfl ?_
          refine bk_aaload hX kc_13 dX8_sheet_39 (fun hi3 => ?_)
          refine bk_iload_n hX 2 dX8_sheet_40 rfl ?_
          refine bk_iload_n hX 3 dX8_sheet_41 rfl ?_
          refine bk_callV_v hX [.int x2, .int x3] [] yk_X5_lay yv_X5_lay lk_X8_275 rfl rfl (k_sht_of hi3).1 rfl rfl (Nat.le_of_ble_eq_true rfl) ⟨Nat.le_of_ble_eq_true rfl, Nat.le_of_ble_eq_true rfl⟩ dX8_sheet_42 (m_X5_lay w (k_sht_of hi3)) (fun σ4 => ?_)
          refine bk_iload_n hX 3 dX8_sheet_45 rfl ?_
          exact fun z => hret _ _ _ _ dX8_sheet_46 rfl z
        · refine bk_aload_n hX 0 dX8_sheet_28 rfl ?_
          refine bk_iconst hX bk_ci_5 dX8_sheet_29 ?_
          refine bk_callV_i hX [.int (5 : Int32)] [] yk_X8_findingOf yv_X8_findingOf lk_X8_167 rfl rfl kc_0 rfl rfl (Nat.le_of_ble_eq_true rfl) ⟨Nat.le_of_ble_eq_true rfl, Nat.le_of_ble_eq_true rfl⟩ dX8_sheet_30 (m_X8_findingOf w) (fun r5 σ6 => ?_)
          exact fun z => hret _ _ _ _ dX8_sheet_33 rfl z
      · refine bk_bipush hX bk_cb_m2 dX8_sheet_21 ?_
        exact fun z => hret _ _ _ _ dX8_sheet_23 rfl z

def w_X8_lose (x1 : Int32) (σ : bk_S) (post : Int32 → bk_S → Prop) : Prop :=
  w_X8_isSheet x1 (fun r1 =>
    (¬ r1 = 0 → (vp_in x1 4 ∧ w_X5_isLost (14 + 2 * Int32.toNatClampNeg x1) σ (fun r3 =>
      (r3 = 0 → (vp_in x1 4 ∧ bk_lt (α := Int32) (σ (14 + 2 * Int32.toNatClampNeg x1) 1) fun v5 =>
      vp_in x1 4 ∧ bk_lt (α := bk_S) (bk_u σ (14 + 2 * Int32.toNatClampNeg x1) 1 (-1 : Int32)) fun σ7 =>
      post v5 σ7)) ∧ (¬ r3 = 0 → (w_X8_findingOf (1 : Int32) σ (fun r8 σ9 =>
        post r8 σ9)))))) ∧ (r1 = 0 → post (-2 : Int32) σ))
set_option maxRecDepth 20000 in
theorem m_X8_lose (w : bk_W) {x1 : Int32} {σ : bk_S} {post : Int32 → bk_S → Prop} : w_X8_lose x1 σ post → bk_Mi lyC w yX8_lose cX8_lose 3 .int 2 41 [.ref (bk_r w 0), .int x1] σ post := by
  intro h0
  refine bk_mi (by decide) (Nat.le_of_ble_eq_true rfl) (fun X hX hret => ?_)
  revert h0
  unfold w_X8_lose
  show _ → bk_At lyC w X 0 [(0, .ref (bk_r w 0)), (1, .int x1)] [] σ
  refine bk_iload_n hX 1 dX8_lose_0 rfl ?_
  refine bk_callS_i hX [.int x1] [] yk_X8_isSheet ys_X8_isSheet lk_X8_161 rfl rfl (Nat.le_of_ble_eq_true rfl) ⟨Nat.le_of_ble_eq_true rfl, Nat.le_of_ble_eq_true rfl⟩ dX8_lose_1 (m_X8_isSheet w) (bk_pu (fun r1 => ?_))
  refine bk_if_ne hX 10 dX8_lose_4 rfl ?_ ?_
  · refine bk_aload_n hX 0 dX8_lose_10 rfl ?_
    refine bk_getr hX kc_0 rfl fl_X8_33 dX8_lose_11 ?_
    refine bk_iload_n hX 1 dX8_lose_14 rfl ?_
    refine bk_aaload hX kc_13 dX8_lose_15 (fun hi2 => ?_)
    refine bk_callV_i hX [] [] yk_X5_isLost yv_X5_isLost lk_X8_164 rfl rfl (k_sht_of hi2).1 rfl rfl (Nat.le_of_ble_eq_true rfl) ⟨Nat.le_of_ble_eq_true rfl, Nat.le_of_ble_eq_true rfl⟩ dX8_lose_16 (m_X5_isLost w (k_sht_of hi2)) (bk_pu (fun r3 => ?_))
    refine bk_if_eq hX 28 dX8_lose_19 rfl ?_ ?_
    · refine bk_aload_n hX 0 dX8_lose_28 rfl ?_
      refine bk_getr hX kc_0 rfl fl_X8_33 dX8_lose_29 ?_
      refine bk_iload_n hX 1 dX8_lose_32 rfl ?_
      refine bk_aaload hX kc_13 dX8_lose_33 (fun hi4 => ?_)
      refine bk_geti hX (k_sht_of hi4).1 rfl fl_X8_171 dX8_lose_34 ?_
      refine bk_istore_n hX (fun v5 => [(2, .int v5), (0, .ref (bk_r w 0)), (1, .int x1)]) dX8_lose_37 (Nat.le_of_ble_eq_true rfl) (fun _ => rfl) (fun v5 => ?_)
      refine bk_aload_n hX 1 dX8_lose_38 rfl ?_
      refine bk_getr hX kc_0 rfl fl_X8_33 dX8_lose_39 ?_
      refine bk_iload_n hX 2 dX8_lose_42 rfl ?_
      refine bk_aaload hX kc_13 dX8_lose_43 (fun hi6 => ?_)
      refine bk_iconst hX bk_ci_m1 dX8_lose_44 ?_
      refine bk_putI hX (k_sht_of hi6).1 rfl fp_X8_171 dX8_lose_45 (fun σ7 => ?_)
      refine bk_iload_n hX 0 dX8_lose_48 rfl ?_
      exact fun z => hret _ _ _ _ dX8_lose_49 rfl z
    · refine bk_aload_n hX 0 dX8_lose_22 rfl ?_
      refine bk_iconst hX bk_ci_1 dX8_lose_23 ?_
      refine bk_callV_i hX [.int (1 : Int32)] [] yk_X8_findingOf yv_X8_findingOf lk_X8_167 rfl rfl kc_0 rfl rfl (Nat.le_of_ble_eq_true rfl) ⟨Nat.le_of_ble_eq_true rfl, Nat.le_of_ble_eq_true rfl⟩ dX8_lose_24 (m_X8_findingOf w) (fun r8 σ9 => ?_)
      exact fun z => hret _ _ _ _ dX8_lose_27 rfl z
  · refine bk_bipush hX bk_cb_m2 dX8_lose_7 ?_
    exact fun z => hret _ _ _ _ dX8_lose_9 rfl z

def w_X8_put (x1 : Int32) (x2 : Int32) (x3 : Int32) (x4 : Int32) (σ : bk_S) (post : Int32 → bk_S → Prop) : Prop :=
  w_X8_isSheet x1 (fun r1 =>
    (r1 = 0 → post (-2 : Int32) σ) ∧ (¬ r1 = 0 → (w_X8_isBelow x2 (3 : Int32) (fun r2 =>
      (¬ r2 = 0 → (vp_in x1 4 ∧ w_X5_findingAt (14 + 2 * Int32.toNatClampNeg x1) x2 x3 σ (fun r4 =>
        bk_lt (α := Int32) r4 fun v5 =>
        (v5 = 0 → (vp_in x1 4 ∧ vp_in x1 4 ∧ w_X5_lowestBits (14 + 2 * Int32.toNatClampNeg x1) x4 σ (fun r8 =>
          vp_in x3 60 ∧ bk_lt (α := bk_S) (bk_u σ ((14 + 2 * Int32.toNatClampNeg x1) + 1) (Int32.toNatClampNeg x3) r8) fun σ9 =>
          post (1 : Int32) σ9))) ∧ (¬ v5 = 0 → (w_X8_findingOf v5 σ (fun r10 σ11 =>
          post r10 σ11)))))) ∧ (r2 = 0 → post (-2 : Int32) σ)))))
set_option maxRecDepth 20000 in
theorem m_X8_put (w : bk_W) {x1 : Int32} {x2 : Int32} {x3 : Int32} {x4 : Int32} {σ : bk_S} {post : Int32 → bk_S → Prop} : w_X8_put x1 x2 x3 x4 σ post → bk_Mi lyC w yX8_put cX8_put 6 .int 2 43 [.ref (bk_r w 0), .int x1, .int x2, .int x3, .int x4] σ post := by
  intro h0
  refine bk_mi (by decide) (Nat.le_of_ble_eq_true rfl) (fun X hX hret => ?_)
  revert h0
  unfold w_X8_put
  show _ → bk_At lyC w X 0 [(0, .ref (bk_r w 0)), (1, .int x1), (2, .int x2), (3, .int x3), (4, .int x4)] [] σ
  refine bk_iload_n hX 1 dX8_put_0 rfl ?_
  refine bk_callS_i hX [.int x1] [] yk_X8_isSheet ys_X8_isSheet lk_X8_161 rfl rfl (Nat.le_of_ble_eq_true rfl) ⟨Nat.le_of_ble_eq_true rfl, Nat.le_of_ble_eq_true rfl⟩ dX8_put_1 (m_X8_isSheet w) (bk_pu (fun r1 => ?_))
  refine bk_if_eq hX 15 dX8_put_4 rfl ?_ ?_
  · refine bk_bipush hX bk_cb_m2 dX8_put_15 ?_
    exact fun z => hret _ _ _ _ dX8_put_17 rfl z
  · refine bk_iload_n hX 2 dX8_put_7 rfl ?_
    refine bk_iconst hX bk_ci_3 dX8_put_8 ?_
    refine bk_callS_i hX [.int x2, .int (3 : Int32)] [] yk_X8_isBelow ys_X8_isBelow lk_X8_133 rfl rfl (Nat.le_of_ble_eq_true rfl) ⟨Nat.le_of_ble_eq_true rfl, Nat.le_of_ble_eq_true rfl⟩ dX8_put_9 (m_X8_isBelow w) (bk_pu (fun r2 => ?_))
    refine bk_if_ne hX 18 dX8_put_12 rfl ?_ ?_
    · refine bk_aload_n hX 0 dX8_put_18 rfl ?_
      refine bk_getr hX kc_0 rfl fl_X8_33 dX8_put_19 ?_
      refine bk_iload_n hX 1 dX8_put_22 rfl ?_
      refine bk_aaload hX kc_13 dX8_put_23 (fun hi3 => ?_)
      refine bk_iload_n hX 2 dX8_put_24 rfl ?_
      refine bk_iload_n hX 3 dX8_put_25 rfl ?_
      refine bk_callV_i hX [.int x2, .int x3] [] yk_X5_findingAt yv_X5_findingAt lk_X8_278 rfl rfl (k_sht_of hi3).1 rfl rfl (Nat.le_of_ble_eq_true rfl) ⟨Nat.le_of_ble_eq_true rfl, Nat.le_of_ble_eq_true rfl⟩ dX8_put_26 (m_X5_findingAt w (k_sht_of hi3)) (bk_pu (fun r4 => ?_))
      refine bk_istore hX (fun v5 => [(5, .int v5), (0, .ref (bk_r w 0)), (1, .int x1), (2, .int x2), (3, .int x3), (4, .int x4)]) dX8_put_29 (Nat.le_of_ble_eq_true rfl) (fun _ => rfl) (fun v5 => ?_)
      refine bk_iload hX 0 dX8_put_31 rfl ?_
      refine bk_if_eq hX 43 dX8_put_33 rfl ?_ ?_
      · refine bk_aload_n hX 1 dX8_put_43 rfl ?_
        refine bk_getr hX kc_0 rfl fl_X8_33 dX8_put_44 ?_
        refine bk_iload_n hX 2 dX8_put_47 rfl ?_
        refine bk_aaload hX kc_13 dX8_put_48 (fun hi6 => ?_)
        refine bk_getr hX (k_sht_of hi6).1 rfl fl_X8_172 dX8_put_49 ?_
        refine bk_iload_n hX 4 dX8_put_52 rfl ?_
        refine bk_aload_n hX 1 dX8_put_53 rfl ?_
        refine bk_getr hX kc_0 rfl fl_X8_33 dX8_put_54 ?_
        refine bk_iload_n hX 2 dX8_put_57 rfl ?_
        refine bk_aaload hX kc_13 dX8_put_58 (fun hi7 => ?_)
        refine bk_iload hX 5 dX8_put_59 rfl ?_
        refine bk_callV_i hX [.int x4] [.int x3, .ref (bk_r w ((14 + 2 * Int32.toNatClampNeg x1) + 1))] yk_X5_lowestBits yv_X5_lowestBits lk_X8_281 rfl rfl (k_sht_of hi7).1 rfl rfl (Nat.le_of_ble_eq_true rfl) ⟨Nat.le_of_ble_eq_true rfl, Nat.le_of_ble_eq_true rfl⟩ dX8_put_61 (m_X5_lowestBits w (k_sht_of hi7)) (bk_pu (fun r8 => ?_))
        refine bk_iastore hX (k_sht_of hi6).2 dX8_put_64 (fun σ9 => ?_)
        refine bk_iconst hX bk_ci_1 dX8_put_65 ?_
        exact fun z => hret _ _ _ _ dX8_put_66 rfl z
      · refine bk_aload_n hX 1 dX8_put_36 rfl ?_
        refine bk_iload hX 0 dX8_put_37 rfl ?_
        refine bk_callV_i hX [.int v5] [] yk_X8_findingOf yv_X8_findingOf lk_X8_167 rfl rfl kc_0 rfl rfl (Nat.le_of_ble_eq_true rfl) ⟨Nat.le_of_ble_eq_true rfl, Nat.le_of_ble_eq_true rfl⟩ dX8_put_39 (m_X8_findingOf w) (fun r10 σ11 => ?_)
        exact fun z => hret _ _ _ _ dX8_put_42 rfl z
    · refine bk_bipush hX bk_cb_m2 dX8_put_15 ?_
      exact fun z => hret _ _ _ _ dX8_put_17 rfl z

def w_X8_get (x1 : Int32) (x2 : Int32) (x3 : Int32) (σ : bk_S) (post : Int32 → bk_S → Prop) : Prop :=
  w_X8_isSheet x1 (fun r1 =>
    (r1 = 0 → post (-2147483648 : Int32) σ) ∧ (¬ r1 = 0 → (w_X8_isBelow x2 (3 : Int32) (fun r2 =>
      (¬ r2 = 0 → (vp_in x1 4 ∧ w_X5_findingAt (14 + 2 * Int32.toNatClampNeg x1) x2 x3 σ (fun r4 =>
        bk_lt (α := Int32) r4 fun v5 =>
        (v5 = 0 → (vp_in x1 4 ∧ vp_in x3 60 ∧ post (σ ((14 + 2 * Int32.toNatClampNeg x1) + 1) (Int32.toNatClampNeg x3)) σ)) ∧ (¬ v5 = 0 → (bk_lt (α := bk_S) (bk_u σ 0 15 v5) fun σ7 =>
        post (-2147483648 : Int32) σ7))))) ∧ (r2 = 0 → post (-2147483648 : Int32) σ)))))
set_option maxRecDepth 20000 in
theorem m_X8_get (w : bk_W) {x1 : Int32} {x2 : Int32} {x3 : Int32} {σ : bk_S} {post : Int32 → bk_S → Prop} : w_X8_get x1 x2 x3 σ post → bk_Mi lyC w yX8_get cX8_get 5 .int 2 43 [.ref (bk_r w 0), .int x1, .int x2, .int x3] σ post := by
  intro h0
  refine bk_mi (by decide) (Nat.le_of_ble_eq_true rfl) (fun X hX hret => ?_)
  revert h0
  unfold w_X8_get
  show _ → bk_At lyC w X 0 [(0, .ref (bk_r w 0)), (1, .int x1), (2, .int x2), (3, .int x3)] [] σ
  refine bk_iload_n hX 1 dX8_get_0 rfl ?_
  refine bk_callS_i hX [.int x1] [] yk_X8_isSheet ys_X8_isSheet lk_X8_161 rfl rfl (Nat.le_of_ble_eq_true rfl) ⟨Nat.le_of_ble_eq_true rfl, Nat.le_of_ble_eq_true rfl⟩ dX8_get_1 (m_X8_isSheet w) (bk_pu (fun r1 => ?_))
  refine bk_if_eq hX 15 dX8_get_4 rfl ?_ ?_
  · refine bk_ldcw hX kn_X8_284 dX8_get_15 ?_
    exact fun z => hret _ _ _ _ dX8_get_18 rfl z
  · refine bk_iload_n hX 2 dX8_get_7 rfl ?_
    refine bk_iconst hX bk_ci_3 dX8_get_8 ?_
    refine bk_callS_i hX [.int x2, .int (3 : Int32)] [] yk_X8_isBelow ys_X8_isBelow lk_X8_133 rfl rfl (Nat.le_of_ble_eq_true rfl) ⟨Nat.le_of_ble_eq_true rfl, Nat.le_of_ble_eq_true rfl⟩ dX8_get_9 (m_X8_isBelow w) (bk_pu (fun r2 => ?_))
    refine bk_if_ne hX 19 dX8_get_12 rfl ?_ ?_
    · refine bk_aload_n hX 0 dX8_get_19 rfl ?_
      refine bk_getr hX kc_0 rfl fl_X8_33 dX8_get_20 ?_
      refine bk_iload_n hX 1 dX8_get_23 rfl ?_
      refine bk_aaload hX kc_13 dX8_get_24 (fun hi3 => ?_)
      refine bk_iload_n hX 2 dX8_get_25 rfl ?_
      refine bk_iload_n hX 3 dX8_get_26 rfl ?_
      refine bk_callV_i hX [.int x2, .int x3] [] yk_X5_findingAt yv_X5_findingAt lk_X8_278 rfl rfl (k_sht_of hi3).1 rfl rfl (Nat.le_of_ble_eq_true rfl) ⟨Nat.le_of_ble_eq_true rfl, Nat.le_of_ble_eq_true rfl⟩ dX8_get_27 (m_X5_findingAt w (k_sht_of hi3)) (bk_pu (fun r4 => ?_))
      refine bk_istore hX (fun v5 => [(4, .int v5), (0, .ref (bk_r w 0)), (1, .int x1), (2, .int x2), (3, .int x3)]) dX8_get_30 (Nat.le_of_ble_eq_true rfl) (fun _ => rfl) (fun v5 => ?_)
      refine bk_iload hX 0 dX8_get_32 rfl ?_
      refine bk_if_eq hX 47 dX8_get_34 rfl ?_ ?_
      · refine bk_aload_n hX 1 dX8_get_47 rfl ?_
        refine bk_getr hX kc_0 rfl fl_X8_33 dX8_get_48 ?_
        refine bk_iload_n hX 2 dX8_get_51 rfl ?_
        refine bk_aaload hX kc_13 dX8_get_52 (fun hi6 => ?_)
        refine bk_getr hX (k_sht_of hi6).1 rfl fl_X8_172 dX8_get_53 ?_
        refine bk_iload_n hX 4 dX8_get_56 rfl ?_
        refine bk_iaload hX (k_sht_of hi6).2 dX8_get_57 ?_
        exact fun z => hret _ _ _ _ dX8_get_58 rfl z
      · refine bk_aload_n hX 1 dX8_get_37 rfl ?_
        refine bk_iload hX 0 dX8_get_38 rfl ?_
        refine bk_putI hX kc_0 rfl fp_X8_89 dX8_get_40 (fun σ7 => ?_)
        refine bk_ldcw hX kn_X8_284 dX8_get_43 ?_
        exact fun z => hret _ _ _ _ dX8_get_46 rfl z
    · refine bk_ldcw hX kn_X8_284 dX8_get_15 ?_
      exact fun z => hret _ _ _ _ dX8_get_18 rfl z

def w_X8_copy (x1 : Int32) (x2 : Int32) (x3 : Int32) (x4 : Int32) (x5 : Int32) (σ : bk_S) (post : Int32 → bk_S → Prop) : Prop :=
  w_X8_isSheet x1 (fun r1 =>
    (r1 = 0 → post (-2 : Int32) σ) ∧ (¬ r1 = 0 → (w_X8_isSheet x3 (fun r2 =>
      (¬ r2 = 0 → (vp_in x1 4 ∧ vp_in x3 4 ∧ w_X5_isLost (14 + 2 * Int32.toNatClampNeg x1) σ (fun r5 =>
        bk_jn (α := Unit) (fun a7 =>
          w_X8_findingOf (1 : Int32) σ (fun r18 σ19 =>
            post r18 σ19)) (fun K6 =>
          (¬ r5 = 0 → K6 ()) ∧ (r5 = 0 → (w_X5_isLost (14 + 2 * Int32.toNatClampNeg x3) σ (fun r8 =>
            (r8 = 0 → (((σ (14 + 2 * Int32.toNatClampNeg x1) 0) = (σ (14 + 2 * Int32.toNatClampNeg x3) 0) → (w_X5_hasStretch (14 + 2 * Int32.toNatClampNeg x1) x2 x5 σ (fun r9 =>
              bk_jn (α := Unit) (fun a11 =>
                w_X8_findingOf (2 : Int32) σ (fun r14 σ15 =>
                  post r14 σ15)) (fun K10 =>
                (r9 = 0 → K10 ()) ∧ (¬ r9 = 0 → (w_X5_hasStretch (14 + 2 * Int32.toNatClampNeg x3) x4 x5 σ (fun r12 =>
                  (¬ r12 = 0 → ((¬ x2 < 0 ∧ ¬ x4 < 0 ∧ ¬ x5 < 0 ∧ Int32.toNatClampNeg x2 + Int32.toNatClampNeg x5 ≤ 60 ∧ Int32.toNatClampNeg x4 + Int32.toNatClampNeg x5 ≤ 60) ∧ bk_lt (α := bk_S) (bk_w σ ((14 + 2 * Int32.toNatClampNeg x3) + 1) (va_cpy (σ ((14 + 2 * Int32.toNatClampNeg x1) + 1)) (σ ((14 + 2 * Int32.toNatClampNeg x3) + 1)) (Int32.toNatClampNeg x2) (Int32.toNatClampNeg x4) (Int32.toNatClampNeg x5))) fun σ13 =>
                  post (1 : Int32) σ13)) ∧ (r12 = 0 → K10 ())))))))) ∧ (¬ (σ (14 + 2 * Int32.toNatClampNeg x1) 0) = (σ (14 + 2 * Int32.toNatClampNeg x3) 0) → (w_X8_findingOf (4 : Int32) σ (fun r16 σ17 =>
              post r16 σ17))))) ∧ (¬ r8 = 0 → K6 ())))))))) ∧ (r2 = 0 → post (-2 : Int32) σ)))))
set_option maxRecDepth 20000 in
theorem m_X8_copy (w : bk_W) {x1 : Int32} {x2 : Int32} {x3 : Int32} {x4 : Int32} {x5 : Int32} {σ : bk_S} {post : Int32 → bk_S → Prop} : w_X8_copy x1 x2 x3 x4 x5 σ post → bk_Mi lyC w yX8_copy cX8_copy 8 .int 2 41 [.ref (bk_r w 0), .int x1, .int x2, .int x3, .int x4, .int x5] σ post := by
  intro h0
  refine bk_mi (by decide) (Nat.le_of_ble_eq_true rfl) (fun X hX hret => ?_)
  revert h0
  unfold w_X8_copy
  show _ → bk_At lyC w X 0 [(0, .ref (bk_r w 0)), (1, .int x1), (2, .int x2), (3, .int x3), (4, .int x4), (5, .int x5)] [] σ
  refine bk_iload_n hX 1 dX8_copy_0 rfl ?_
  refine bk_callS_i hX [.int x1] [] yk_X8_isSheet ys_X8_isSheet lk_X8_161 rfl rfl (Nat.le_of_ble_eq_true rfl) ⟨Nat.le_of_ble_eq_true rfl, Nat.le_of_ble_eq_true rfl⟩ dX8_copy_1 (m_X8_isSheet w) (bk_pu (fun r1 => ?_))
  refine bk_if_eq hX 14 dX8_copy_4 rfl ?_ ?_
  · refine bk_bipush hX bk_cb_m2 dX8_copy_14 ?_
    exact fun z => hret _ _ _ _ dX8_copy_16 rfl z
  · refine bk_iload_n hX 3 dX8_copy_7 rfl ?_
    refine bk_callS_i hX [.int x3] [] yk_X8_isSheet ys_X8_isSheet lk_X8_161 rfl rfl (Nat.le_of_ble_eq_true rfl) ⟨Nat.le_of_ble_eq_true rfl, Nat.le_of_ble_eq_true rfl⟩ dX8_copy_8 (m_X8_isSheet w) (bk_pu (fun r2 => ?_))
    refine bk_if_ne hX 17 dX8_copy_11 rfl ?_ ?_
    · refine bk_aload_n hX 0 dX8_copy_17 rfl ?_
      refine bk_getr hX kc_0 rfl fl_X8_33 dX8_copy_18 ?_
      refine bk_iload_n hX 1 dX8_copy_21 rfl ?_
      refine bk_aaload hX kc_13 dX8_copy_22 (fun hi3 => ?_)
      refine bk_astore hX [(6, .ref (bk_r w (14 + 2 * Int32.toNatClampNeg x1))), (0, .ref (bk_r w 0)), (1, .int x1), (2, .int x2), (3, .int x3), (4, .int x4), (5, .int x5)] dX8_copy_23 (Nat.le_of_ble_eq_true rfl) rfl ?_
      refine bk_aload_n hX 1 dX8_copy_25 rfl ?_
      refine bk_getr hX kc_0 rfl fl_X8_33 dX8_copy_26 ?_
      refine bk_iload_n hX 4 dX8_copy_29 rfl ?_
      refine bk_aaload hX kc_13 dX8_copy_30 (fun hi4 => ?_)
      refine bk_astore hX [(7, .ref (bk_r w (14 + 2 * Int32.toNatClampNeg x3))), (6, .ref (bk_r w (14 + 2 * Int32.toNatClampNeg x1))), (0, .ref (bk_r w 0)), (1, .int x1), (2, .int x2), (3, .int x3), (4, .int x4), (5, .int x5)] dX8_copy_31 (Nat.le_of_ble_eq_true rfl) rfl ?_
      refine bk_aload hX 1 dX8_copy_33 rfl ?_
      refine bk_callV_i hX [] [] yk_X5_isLost yv_X5_isLost lk_X8_164 rfl rfl (k_sht_of hi3).1 rfl rfl (Nat.le_of_ble_eq_true rfl) ⟨Nat.le_of_ble_eq_true rfl, Nat.le_of_ble_eq_true rfl⟩ dX8_copy_35 (m_X5_isLost w (k_sht_of hi3)) (bk_pu (fun r5 => ?_))
      refine bk_r_jn (α := Unit) (J := fun a => bk_At lyC w X 49 [(7, .ref (bk_r w (14 + 2 * Int32.toNatClampNeg x3))), (6, .ref (bk_r w (14 + 2 * Int32.toNatClampNeg x1))), (0, .ref (bk_r w 0)), (1, .int x1), (2, .int x2), (3, .int x3), (4, .int x4), (5, .int x5)] [] σ) (fun a7 => ?_) (fun K6 hK6 => ?_)
      · refine bk_aload_n hX 2 dX8_copy_49 rfl ?_
        refine bk_iconst hX bk_ci_1 dX8_copy_50 ?_
        refine bk_callV_i hX [.int (1 : Int32)] [] yk_X8_findingOf yv_X8_findingOf lk_X8_167 rfl rfl kc_0 rfl rfl (Nat.le_of_ble_eq_true rfl) ⟨Nat.le_of_ble_eq_true rfl, Nat.le_of_ble_eq_true rfl⟩ dX8_copy_51 (m_X8_findingOf w) (fun r18 σ19 => ?_)
        exact fun z => hret _ _ _ _ dX8_copy_54 rfl z
      · refine bk_if_ne hX 49 dX8_copy_38 rfl ?_ ?_
        · exact bk_pick [0, 1, 2, 3, 4, 5, 6, 7] rfl (hK6 ())
        · refine bk_aload hX 0 dX8_copy_41 rfl ?_
          refine bk_callV_i hX [] [] yk_X5_isLost yv_X5_isLost lk_X8_164 rfl rfl (k_sht_of hi4).1 rfl rfl (Nat.le_of_ble_eq_true rfl) ⟨Nat.le_of_ble_eq_true rfl, Nat.le_of_ble_eq_true rfl⟩ dX8_copy_43 (m_X5_isLost w (k_sht_of hi4)) (bk_pu (fun r8 => ?_))
          refine bk_if_eq hX 55 dX8_copy_46 rfl ?_ ?_
          · refine bk_aload hX 1 dX8_copy_55 rfl ?_
            refine bk_geti hX (k_sht_of hi3).1 rfl fl_X8_285 dX8_copy_57 ?_
            refine bk_aload hX 0 dX8_copy_60 rfl ?_
            refine bk_geti hX (k_sht_of hi4).1 rfl fl_X8_285 dX8_copy_62 ?_
            refine bk_icmp_eq hX 74 dX8_copy_65 rfl ?_ ?_
            · refine bk_aload hX 1 dX8_copy_74 rfl ?_
              refine bk_iload_n hX 4 dX8_copy_76 rfl ?_
              refine bk_iload hX 7 dX8_copy_77 rfl ?_
              refine bk_callV_i hX [.int x2, .int x5] [] yk_X5_hasStretch yv_X5_hasStretch lk_X8_288 rfl rfl (k_sht_of hi3).1 rfl rfl (Nat.le_of_ble_eq_true rfl) ⟨Nat.le_of_ble_eq_true rfl, Nat.le_of_ble_eq_true rfl⟩ dX8_copy_79 (m_X5_hasStretch w (k_sht_of hi3)) (bk_pu (fun r9 => ?_))
              refine bk_r_jn (α := Unit) (J := fun a => bk_At lyC w X 97 [(7, .ref (bk_r w (14 + 2 * Int32.toNatClampNeg x3))), (6, .ref (bk_r w (14 + 2 * Int32.toNatClampNeg x1))), (0, .ref (bk_r w 0)), (1, .int x1), (2, .int x2), (3, .int x3), (4, .int x4), (5, .int x5)] [] σ) (fun a11 => ?_) (fun K10 hK10 => ?_)
              · refine bk_aload_n hX 2 dX8_copy_97 rfl ?_
                refine bk_iconst hX bk_ci_2 dX8_copy_98 ?_
                refine bk_callV_i hX [.int (2 : Int32)] [] yk_X8_findingOf yv_X8_findingOf lk_X8_167 rfl rfl kc_0 rfl rfl (Nat.le_of_ble_eq_true rfl) ⟨Nat.le_of_ble_eq_true rfl, Nat.le_of_ble_eq_true rfl⟩ dX8_copy_99 (m_X8_findingOf w) (fun r14 σ15 => ?_)
                exact fun z => hret _ _ _ _ dX8_copy_102 rfl z
              · refine bk_if_eq hX 97 dX8_copy_82 rfl ?_ ?_
                · exact bk_pick [0, 1, 2, 3, 4, 5, 6, 7] rfl (hK10 ())
                · refine bk_aload hX 0 dX8_copy_85 rfl ?_
                  refine bk_iload hX 6 dX8_copy_87 rfl ?_
                  refine bk_iload hX 7 dX8_copy_89 rfl ?_
                  refine bk_callV_i hX [.int x4, .int x5] [] yk_X5_hasStretch yv_X5_hasStretch lk_X8_288 rfl rfl (k_sht_of hi4).1 rfl rfl (Nat.le_of_ble_eq_true rfl) ⟨Nat.le_of_ble_eq_true rfl, Nat.le_of_ble_eq_true rfl⟩ dX8_copy_91 (m_X5_hasStretch w (k_sht_of hi4)) (bk_pu (fun r12 => ?_))
                  refine bk_if_ne hX 103 dX8_copy_94 rfl ?_ ?_
                  · refine bk_aload hX 1 dX8_copy_103 rfl ?_
                    refine bk_getr hX (k_sht_of hi3).1 rfl fl_X8_172 dX8_copy_105 ?_
                    refine bk_iload_n hX 4 dX8_copy_108 rfl ?_
                    refine bk_aload hX 0 dX8_copy_109 rfl ?_
                    refine bk_getr hX (k_sht_of hi4).1 rfl fl_X8_172 dX8_copy_111 ?_
                    refine bk_iload hX 6 dX8_copy_114 rfl ?_
                    refine bk_iload hX 7 dX8_copy_116 rfl ?_
                    refine bk_copy hX (k_sht_of hi3).2 (k_sht_of hi4).2 lk_X8_291 wd_native wd_acstatic wd_system (Nat.le_of_ble_eq_true rfl) (Nat.le_of_ble_eq_true rfl) dX8_copy_118 (fun σ13 => ?_)
                    refine bk_iconst hX bk_ci_1 dX8_copy_121 ?_
                    exact fun z => hret _ _ _ _ dX8_copy_122 rfl z
                  · exact bk_pick [0, 1, 2, 3, 4, 5, 6, 7] rfl (hK10 ())
            · refine bk_aload_n hX 2 dX8_copy_68 rfl ?_
              refine bk_iconst hX bk_ci_4 dX8_copy_69 ?_
              refine bk_callV_i hX [.int (4 : Int32)] [] yk_X8_findingOf yv_X8_findingOf lk_X8_167 rfl rfl kc_0 rfl rfl (Nat.le_of_ble_eq_true rfl) ⟨Nat.le_of_ble_eq_true rfl, Nat.le_of_ble_eq_true rfl⟩ dX8_copy_70 (m_X8_findingOf w) (fun r16 σ17 => ?_)
              exact fun z => hret _ _ _ _ dX8_copy_73 rfl z
          · exact bk_pick [0, 1, 2, 3, 4, 5, 6, 7] rfl (hK6 ())
    · refine bk_bipush hX bk_cb_m2 dX8_copy_14 ?_
      exact fun z => hret _ _ _ _ dX8_copy_16 rfl z

def w_X8_write (x1 : Int32) (x2 : Int32) (σ : bk_S) (post : Int32 → bk_S → Prop) : Prop :=
  w_X8_isEvening x1 (fun r1 =>
    (r1 = 0 → post (-2 : Int32) σ) ∧ (¬ r1 = 0 → (w_X8_isSheet x2 (fun r2 =>
      (¬ r2 = 0 → (vp_in x2 4 ∧ w_X5_isLost (14 + 2 * Int32.toNatClampNeg x2) σ (fun r4 =>
        (r4 = 0 → (w_X8_refresh σ (fun σ5 =>
          bk_lt (α := Int32) (if (σ5 22 0) < (σ5 (14 + 2 * Int32.toNatClampNeg x2) 1) then (σ5 22 0) else (σ5 (14 + 2 * Int32.toNatClampNeg x2) 1)) fun v6 =>
          bk_lt (α := Int32) (0 : Int32) fun v7 =>
          bk_loop (α := Int32 × bk_S) (fun K8 a9 =>
            (v6 ≤ a9.1 → post v6 a9.2) ∧ (¬ v6 ≤ a9.1 → (vp_in ((x1 * (12 : Int32)) + a9.1) 144 ∧ vp_in a9.1 60 ∧ bk_lt (α := bk_S) (bk_u a9.2 ((14 + 2 * Int32.toNatClampNeg x2) + 1) (Int32.toNatClampNeg a9.1) (a9.2 (36 + 7) (Int32.toNatClampNeg ((x1 * (12 : Int32)) + a9.1)))) fun σ10 =>
            bk_lt (α := Int32) (a9.1 + (1 : Int32)) fun v11 =>
            K8 (v11, σ10)))) (v7, σ5)))) ∧ (¬ r4 = 0 → (w_X8_findingOf (1 : Int32) σ (fun r12 σ13 =>
          post r12 σ13)))))) ∧ (r2 = 0 → post (-2 : Int32) σ)))))
set_option maxRecDepth 20000 in
theorem m_X8_write (w : bk_W) {x1 : Int32} {x2 : Int32} {σ : bk_S} {post : Int32 → bk_S → Prop} : w_X8_write x1 x2 σ post → bk_Mi lyC w yX8_write cX8_write 6 .int 5 119 [.ref (bk_r w 0), .int x1, .int x2] σ post := by
  intro h0
  refine bk_mi (by decide) (Nat.le_of_ble_eq_true rfl) (fun X hX hret => ?_)
  revert h0
  unfold w_X8_write
  show _ → bk_At lyC w X 0 [(0, .ref (bk_r w 0)), (1, .int x1), (2, .int x2)] [] σ
  refine bk_iload_n hX 1 dX8_write_0 rfl ?_
  refine bk_callS_i hX [.int x1] [] yk_X8_isEvening ys_X8_isEvening lk_X8_179 rfl rfl (Nat.le_of_ble_eq_true rfl) ⟨Nat.le_of_ble_eq_true rfl, Nat.le_of_ble_eq_true rfl⟩ dX8_write_1 (m_X8_isEvening w) (bk_pu (fun r1 => ?_))
  refine bk_if_eq hX 14 dX8_write_4 rfl ?_ ?_
  · refine bk_bipush hX bk_cb_m2 dX8_write_14 ?_
    exact fun z => hret _ _ _ _ dX8_write_16 rfl z
  · refine bk_iload_n hX 2 dX8_write_7 rfl ?_
    refine bk_callS_i hX [.int x2] [] yk_X8_isSheet ys_X8_isSheet lk_X8_161 rfl rfl (Nat.le_of_ble_eq_true rfl) ⟨Nat.le_of_ble_eq_true rfl, Nat.le_of_ble_eq_true rfl⟩ dX8_write_8 (m_X8_isSheet w) (bk_pu (fun r2 => ?_))
    refine bk_if_ne hX 17 dX8_write_11 rfl ?_ ?_
    · refine bk_aload_n hX 0 dX8_write_17 rfl ?_
      refine bk_getr hX kc_0 rfl fl_X8_33 dX8_write_18 ?_
      refine bk_iload_n hX 2 dX8_write_21 rfl ?_
      refine bk_aaload hX kc_13 dX8_write_22 (fun hi3 => ?_)
      refine bk_astore_n hX [(3, .ref (bk_r w (14 + 2 * Int32.toNatClampNeg x2))), (0, .ref (bk_r w 0)), (1, .int x1), (2, .int x2)] dX8_write_23 (Nat.le_of_ble_eq_true rfl) rfl ?_
      refine bk_aload_n hX 0 dX8_write_24 rfl ?_
      refine bk_callV_i hX [] [] yk_X5_isLost yv_X5_isLost lk_X8_164 rfl rfl (k_sht_of hi3).1 rfl rfl (Nat.le_of_ble_eq_true rfl) ⟨Nat.le_of_ble_eq_true rfl, Nat.le_of_ble_eq_true rfl⟩ dX8_write_25 (m_X5_isLost w (k_sht_of hi3)) (bk_pu (fun r4 => ?_))
      refine bk_if_eq hX 37 dX8_write_28 rfl ?_ ?_
      · refine bk_aload_n hX 1 dX8_write_37 rfl ?_
        refine bk_callV_v hX [] [] yk_X8_refresh yv_X8_refresh lk_X8_121 rfl rfl kc_0 rfl rfl (Nat.le_of_ble_eq_true rfl) ⟨Nat.le_of_ble_eq_true rfl, Nat.le_of_ble_eq_true rfl⟩ dX8_write_38 (m_X8_refresh w) (fun σ5 => ?_)
        refine bk_aload_n hX 0 dX8_write_41 rfl ?_
        refine bk_geti hX (k_sht_of hi3).1 rfl fl_X8_171 dX8_write_42 ?_
        refine bk_aload_n hX 1 dX8_write_45 rfl ?_
        refine bk_getr hX kc_0 rfl fl_X8_40 dX8_write_46 ?_
        refine bk_geti hX k_set_22.1 rfl fl_X8_297 dX8_write_49 ?_
        refine bk_min hX lk_X8_300 wd_min_s wd_math wd_min_c (Nat.le_of_ble_eq_true rfl) (Nat.le_of_ble_eq_true rfl) dX8_write_52 ?_
        refine bk_istore hX (fun v6 => [(4, .int v6), (3, .ref (bk_r w (14 + 2 * Int32.toNatClampNeg x2))), (0, .ref (bk_r w 0)), (1, .int x1), (2, .int x2)]) dX8_write_55 (Nat.le_of_ble_eq_true rfl) (fun _ => rfl) (fun v6 => ?_)
        refine bk_iconst hX bk_ci_0 dX8_write_57 ?_
        refine bk_istore hX (fun v7 => [(5, .int v7), (4, .int v6), (3, .ref (bk_r w (14 + 2 * Int32.toNatClampNeg x2))), (0, .ref (bk_r w 0)), (1, .int x1), (2, .int x2)]) dX8_write_58 (Nat.le_of_ble_eq_true rfl) (fun _ => rfl) (fun v7 => ?_)
        refine bk_pick [0, 1, 2, 3, 4, 5] rfl (bk_r_loop (α := Int32 × bk_S) (J := fun a => bk_At lyC w X 60 [(5, .int a.1), (4, .int v6), (3, .ref (bk_r w (14 + 2 * Int32.toNatClampNeg x2))), (0, .ref (bk_r w 0)), (1, .int x1), (2, .int x2)] [] a.2) (v7, σ5) (fun K8 hK8 a9 => ?_))
        refine bk_iload hX 0 dX8_write_60 rfl ?_
        refine bk_iload hX 1 dX8_write_62 rfl ?_
        refine bk_icmp_ge hX 95 dX8_write_64 rfl ?_ ?_
        · refine bk_iload hX 1 dX8_write_95 rfl ?_
          exact fun z => hret _ _ _ _ dX8_write_97 rfl z
        · refine bk_aload_n hX 2 dX8_write_67 rfl ?_
          refine bk_getr hX (k_sht_of hi3).1 rfl fl_X8_172 dX8_write_68 ?_
          refine bk_iload hX 0 dX8_write_71 rfl ?_
          refine bk_aload_n hX 3 dX8_write_73 rfl ?_
          refine bk_getr hX kc_0 rfl fl_X8_50 dX8_write_74 ?_
          refine bk_getr hX k_crs_36.1 rfl fl_X8_188 dX8_write_77 ?_
          refine bk_iload_n hX 4 dX8_write_80 rfl ?_
          refine bk_bipush hX bk_cb_12 dX8_write_81 ?_
          refine bk_imul hX dX8_write_83 ?_
          refine bk_iload hX 0 dX8_write_84 rfl ?_
          refine bk_iadd hX dX8_write_86 ?_
          refine bk_iaload hX k_crs_36.2.2.2.2.2.2.2.1 dX8_write_87 ?_
          refine bk_iastore hX (k_sht_of hi3).2 dX8_write_88 (fun σ10 => ?_)
          refine bk_iinc hX 0 (fun v11 => [(5, .int v11), (4, .int v6), (3, .ref (bk_r w (14 + 2 * Int32.toNatClampNeg x2))), (0, .ref (bk_r w 0)), (1, .int x1), (2, .int x2)]) dX8_write_89 rfl bk_ci_1 (Nat.le_of_ble_eq_true rfl) (fun _ => rfl) (fun v11 => ?_)
          refine bk_goto hX 60 dX8_write_92 rfl ?_
          exact bk_pick [0, 1, 2, 3, 4, 5] rfl (hK8 (v11, σ10))
      · refine bk_aload_n hX 1 dX8_write_31 rfl ?_
        refine bk_iconst hX bk_ci_1 dX8_write_32 ?_
        refine bk_callV_i hX [.int (1 : Int32)] [] yk_X8_findingOf yv_X8_findingOf lk_X8_167 rfl rfl kc_0 rfl rfl (Nat.le_of_ble_eq_true rfl) ⟨Nat.le_of_ble_eq_true rfl, Nat.le_of_ble_eq_true rfl⟩ dX8_write_33 (m_X8_findingOf w) (fun r12 σ13 => ?_)
        exact fun z => hret _ _ _ _ dX8_write_36 rfl z
    · refine bk_bipush hX bk_cb_m2 dX8_write_14 ?_
      exact fun z => hret _ _ _ _ dX8_write_16 rfl z

def w_X8_count (x1 : Int32) (σ : bk_S) (post : Int32 → bk_S → Prop) : Prop :=
  w_X8_refresh σ (fun σ1 =>
    (x1 = (0 : Int32) → post (σ1 22 0) σ1) ∧ (¬ x1 = (0 : Int32) → ((x1 = (1 : Int32) → post (σ1 22 1) σ1) ∧ (¬ x1 = (1 : Int32) → ((x1 = (2 : Int32) → post (σ1 1 2) σ1) ∧ (¬ x1 = (2 : Int32) → ((x1 = (3 : Int32) → post (σ1 3 2) σ1) ∧ (¬ x1 = (3 : Int32) → ((x1 = (4 : Int32) → post (σ1 5 3) σ1) ∧ (¬ x1 = (4 : Int32) → ((x1 = (5 : Int32) → post (σ1 36 11) σ1) ∧ (¬ x1 = (5 : Int32) → ((x1 = (6 : Int32) → (w_X8_sumOf (36 + 9) 12 σ1 (fun r16 =>
      post r16 σ1))) ∧ (¬ x1 = (6 : Int32) → ((x1 = (7 : Int32) → post (σ1 9 3) σ1) ∧ (¬ x1 = (7 : Int32) → ((x1 = (8 : Int32) → post (σ1 0 15) σ1) ∧ (¬ x1 = (8 : Int32) → post (-2 : Int32) σ1))))))))))))))))))
set_option maxRecDepth 20000 in
theorem m_X8_count (w : bk_W) {x1 : Int32} {σ : bk_S} {post : Int32 → bk_S → Prop} : w_X8_count x1 σ post → bk_Mi lyC w yX8_count cX8_count 2 .int 5 119 [.ref (bk_r w 0), .int x1] σ post := by
  intro h0
  refine bk_mi (by decide) (Nat.le_of_ble_eq_true rfl) (fun X hX hret => ?_)
  revert h0
  unfold w_X8_count
  show _ → bk_At lyC w X 0 [(0, .ref (bk_r w 0)), (1, .int x1)] [] σ
  refine bk_aload_n hX 0 dX8_count_0 rfl ?_
  refine bk_callV_v hX [] [] yk_X8_refresh yv_X8_refresh lk_X8_121 rfl rfl kc_0 rfl rfl (Nat.le_of_ble_eq_true rfl) ⟨Nat.le_of_ble_eq_true rfl, Nat.le_of_ble_eq_true rfl⟩ dX8_count_1 (m_X8_refresh w) (fun σ1 => ?_)
  refine bk_iload_n hX 1 dX8_count_4 rfl ?_
  refine bk_case (fun he3 => ?_) (fun hn2 => ?_)
  · refine bk_swI hX 56 (0 : Int32) he3 dX8_count_5 (by decide +kernel) ?_
    refine bk_aload_n hX 0 dX8_count_56 rfl ?_
    refine bk_getr hX kc_0 rfl fl_X8_40 dX8_count_57 ?_
    refine bk_geti hX k_set_22.1 rfl fl_X8_297 dX8_count_60 ?_
    exact fun z => hret _ _ _ _ dX8_count_63 rfl z
  · refine bk_case (fun he5 => ?_) (fun hn4 => ?_)
    · refine bk_swI hX 64 (1 : Int32) he5 dX8_count_5 (by decide +kernel) ?_
      refine bk_aload_n hX 0 dX8_count_64 rfl ?_
      refine bk_getr hX kc_0 rfl fl_X8_40 dX8_count_65 ?_
      refine bk_geti hX k_set_22.1 rfl fl_X8_305 dX8_count_68 ?_
      exact fun z => hret _ _ _ _ dX8_count_71 rfl z
    · refine bk_case (fun he7 => ?_) (fun hn6 => ?_)
      · refine bk_swI hX 72 (2 : Int32) he7 dX8_count_5 (by decide +kernel) ?_
        refine bk_aload_n hX 0 dX8_count_72 rfl ?_
        refine bk_getr hX kc_0 rfl fl_X8_14 dX8_count_73 ?_
        refine bk_geti hX k_txt_1.1 rfl fl_X8_102 dX8_count_76 ?_
        exact fun z => hret _ _ _ _ dX8_count_79 rfl z
      · refine bk_case (fun he9 => ?_) (fun hn8 => ?_)
        · refine bk_swI hX 80 (3 : Int32) he9 dX8_count_5 (by decide +kernel) ?_
          refine bk_aload_n hX 0 dX8_count_80 rfl ?_
          refine bk_getr hX kc_0 rfl fl_X8_18 dX8_count_81 ?_
          refine bk_geti hX k_txt_3.1 rfl fl_X8_102 dX8_count_84 ?_
          exact fun z => hret _ _ _ _ dX8_count_87 rfl z
        · refine bk_case (fun he11 => ?_) (fun hn10 => ?_)
          · refine bk_swI hX 88 (4 : Int32) he11 dX8_count_5 (by decide +kernel) ?_
            refine bk_aload_n hX 0 dX8_count_88 rfl ?_
            refine bk_getr hX kc_0 rfl fl_X8_24 dX8_count_89 ?_
            refine bk_geti hX k_tri_5.1 rfl fl_X8_158 dX8_count_92 ?_
            exact fun z => hret _ _ _ _ dX8_count_95 rfl z
          · refine bk_case (fun he13 => ?_) (fun hn12 => ?_)
            · refine bk_swI hX 96 (5 : Int32) he13 dX8_count_5 (by decide +kernel) ?_
              refine bk_aload_n hX 0 dX8_count_96 rfl ?_
              refine bk_getr hX kc_0 rfl fl_X8_50 dX8_count_97 ?_
              refine bk_geti hX k_crs_36.1 rfl fl_X8_265 dX8_count_100 ?_
              exact fun z => hret _ _ _ _ dX8_count_103 rfl z
            · refine bk_case (fun he15 => ?_) (fun hn14 => ?_)
              · refine bk_swI hX 104 (6 : Int32) he15 dX8_count_5 (by decide +kernel) ?_
                refine bk_aload_n hX 0 dX8_count_104 rfl ?_
                refine bk_getr hX kc_0 rfl fl_X8_50 dX8_count_105 ?_
                refine bk_getr hX k_crs_36.1 rfl fl_X8_268 dX8_count_108 ?_
                refine bk_callS_i hX [.ref (bk_r w (36 + 9))] [] yk_X8_sumOf ys_X8_sumOf lk_X8_271 rfl rfl (Nat.le_of_ble_eq_true rfl) ⟨Nat.le_of_ble_eq_true rfl, Nat.le_of_ble_eq_true rfl⟩ dX8_count_111 (m_X8_sumOf w k_crs_36.2.2.2.2.2.2.2.2.2.1) (bk_pu (fun r16 => ?_))
                exact fun z => hret _ _ _ _ dX8_count_114 rfl z
              · refine bk_case (fun he18 => ?_) (fun hn17 => ?_)
                · refine bk_swI hX 115 (7 : Int32) he18 dX8_count_5 (by decide +kernel) ?_
                  refine bk_aload_n hX 0 dX8_count_115 rfl ?_
                  refine bk_getr hX kc_0 rfl fl_X8_28 dX8_count_116 ?_
                  refine bk_geti hX k_tri_9.1 rfl fl_X8_158 dX8_count_119 ?_
                  exact fun z => hret _ _ _ _ dX8_count_122 rfl z
                · refine bk_case (fun he20 => ?_) (fun hn19 => ?_)
                  · refine bk_swI hX 123 (8 : Int32) he20 dX8_count_5 (by decide +kernel) ?_
                    refine bk_aload_n hX 0 dX8_count_123 rfl ?_
                    refine bk_geti hX kc_0 rfl fl_X8_89 dX8_count_124 ?_
                    exact fun z => hret _ _ _ _ dX8_count_127 rfl z
                  · refine bk_swD hX 128 dX8_count_5 [0, 1, 2, 3, 4, 5, 6, 7, 8] ⟨hn2, hn4, hn6, hn8, hn10, hn12, hn14, hn17, hn19, trivial⟩ (by decide +kernel) ?_
                    refine bk_bipush hX bk_cb_m2 dX8_count_128 ?_
                    exact fun z => hret _ _ _ _ dX8_count_130 rfl z

def w_X8_foldHook (x1 : Int64) (x3 : Int32) (σ : bk_S) (post : Int64 → Prop) : Prop :=
  vp_in x3 12 ∧ bk_lt (α := Int64) (((31 : Int64) * x1) + (Int32.toInt64 (σ (22 + 1) (Int32.toNatClampNeg x3)))) fun v1 =>
  vp_in x3 144 ∧ bk_lt (α := Int64) (((31 : Int64) * v1) + (Int32.toInt64 (σ (36 + 7) (Int32.toNatClampNeg x3)))) fun v2 =>
  vp_in ((36 : Int32) + x3) 144 ∧ bk_lt (α := Int64) (((31 : Int64) * v2) + (Int32.toInt64 (σ (36 + 7) (Int32.toNatClampNeg ((36 : Int32) + x3))))) fun v3 =>
  vp_in ((132 : Int32) + x3) 144 ∧ post (((31 : Int64) * v3) + (Int32.toInt64 (σ (36 + 7) (Int32.toNatClampNeg ((132 : Int32) + x3)))))
set_option maxRecDepth 20000 in
theorem m_X8_foldHook (w : bk_W) {x1 : Int64} {x3 : Int32} {σ : bk_S} {post : Int64 → Prop} : w_X8_foldHook x1 x3 σ post → bk_Ml lyC w yX8_foldHook cX8_foldHook 6 0 0 [.ref (bk_r w 0), .long x1, .int x3] σ (fun r σ1 => post r ∧ σ1 = σ) := by
  intro h0
  refine bk_ml (by decide) (Nat.le_of_ble_eq_true rfl) (fun X hX hret => ?_)
  revert h0
  unfold w_X8_foldHook
  show _ → bk_At lyC w X 0 [(0, .ref (bk_r w 0)), (1, .long x1), (3, .int x3)] [] σ
  refine bk_ldc2 hX kn_X8_310 dX8_foldHook_0 ?_
  refine bk_lload_n hX 1 dX8_foldHook_3 rfl ?_
  refine bk_lmul hX dX8_foldHook_4 ?_
  refine bk_aload_n hX 0 dX8_foldHook_5 rfl ?_
  refine bk_getr hX kc_0 rfl fl_X8_40 dX8_foldHook_6 ?_
  refine bk_getr hX k_set_22.1 rfl fl_X8_127 dX8_foldHook_9 ?_
  refine bk_iload_n hX 2 dX8_foldHook_12 rfl ?_
  refine bk_iaload hX k_set_22.2.1 dX8_foldHook_13 ?_
  refine bk_i2l hX dX8_foldHook_14 ?_
  refine bk_ladd hX dX8_foldHook_15 ?_
  refine bk_lstore hX (fun v1 => [(4, .long v1), (0, .ref (bk_r w 0)), (1, .long x1), (3, .int x3)]) dX8_foldHook_16 (Nat.le_of_ble_eq_true rfl) (fun _ => rfl) (fun v1 => ?_)
  refine bk_ldc2 hX kn_X8_310 dX8_foldHook_18 ?_
  refine bk_lload hX 0 dX8_foldHook_21 rfl ?_
  refine bk_lmul hX dX8_foldHook_23 ?_
  refine bk_aload_n hX 1 dX8_foldHook_24 rfl ?_
  refine bk_getr hX kc_0 rfl fl_X8_50 dX8_foldHook_25 ?_
  refine bk_getr hX k_crs_36.1 rfl fl_X8_188 dX8_foldHook_28 ?_
  refine bk_iload_n hX 3 dX8_foldHook_31 rfl ?_
  refine bk_iaload hX k_crs_36.2.2.2.2.2.2.2.1 dX8_foldHook_32 ?_
  refine bk_i2l hX dX8_foldHook_33 ?_
  refine bk_ladd hX dX8_foldHook_34 ?_
  refine bk_lstore hX (fun v2 => [(4, .long v2), (0, .ref (bk_r w 0)), (1, .long x1), (3, .int x3)]) dX8_foldHook_35 (Nat.le_of_ble_eq_true rfl) (fun _ => rfl) (fun v2 => ?_)
  refine bk_ldc2 hX kn_X8_310 dX8_foldHook_37 ?_
  refine bk_lload hX 0 dX8_foldHook_40 rfl ?_
  refine bk_lmul hX dX8_foldHook_42 ?_
  refine bk_aload_n hX 1 dX8_foldHook_43 rfl ?_
  refine bk_getr hX kc_0 rfl fl_X8_50 dX8_foldHook_44 ?_
  refine bk_getr hX k_crs_36.1 rfl fl_X8_188 dX8_foldHook_47 ?_
  refine bk_bipush hX bk_cb_36 dX8_foldHook_50 ?_
  refine bk_iload_n hX 3 dX8_foldHook_52 rfl ?_
  refine bk_iadd hX dX8_foldHook_53 ?_
  refine bk_iaload hX k_crs_36.2.2.2.2.2.2.2.1 dX8_foldHook_54 ?_
  refine bk_i2l hX dX8_foldHook_55 ?_
  refine bk_ladd hX dX8_foldHook_56 ?_
  refine bk_lstore hX (fun v3 => [(4, .long v3), (0, .ref (bk_r w 0)), (1, .long x1), (3, .int x3)]) dX8_foldHook_57 (Nat.le_of_ble_eq_true rfl) (fun _ => rfl) (fun v3 => ?_)
  refine bk_ldc2 hX kn_X8_310 dX8_foldHook_59 ?_
  refine bk_lload hX 0 dX8_foldHook_62 rfl ?_
  refine bk_lmul hX dX8_foldHook_64 ?_
  refine bk_aload_n hX 1 dX8_foldHook_65 rfl ?_
  refine bk_getr hX kc_0 rfl fl_X8_50 dX8_foldHook_66 ?_
  refine bk_getr hX k_crs_36.1 rfl fl_X8_188 dX8_foldHook_69 ?_
  refine bk_sipush hX bk_cs_132 dX8_foldHook_72 ?_
  refine bk_iload_n hX 3 dX8_foldHook_75 rfl ?_
  refine bk_iadd hX dX8_foldHook_76 ?_
  refine bk_iaload hX k_crs_36.2.2.2.2.2.2.2.1 dX8_foldHook_77 ?_
  refine bk_i2l hX dX8_foldHook_78 ?_
  refine bk_ladd hX dX8_foldHook_79 ?_
  exact fun z => hret _ _ _ _ dX8_foldHook_80 ⟨z, rfl⟩

def w_X8_foldEvening (x1 : Int64) (x3 : Int32) (σ : bk_S) (post : Int64 → bk_S → Prop) : Prop :=
  bk_lt (α := Int64) x1 fun v1 =>
  bk_lt (α := Int32) (0 : Int32) fun v2 =>
  bk_jn (α := Int64) (fun a4 =>
    w_X8_chooseLeft x3 σ (fun σ10 =>
      bk_lt (α := Int32) (0 : Int32) fun v11 =>
      bk_loop (α := Int64 × Int32) (fun K12 a13 =>
        ((3 : Int32) ≤ a13.2 → post a13.1 σ10) ∧ (¬ (3 : Int32) ≤ a13.2 → (w_X0_leaveAnswer 60 a13.2 σ10 (fun r14 =>
          bk_lt (α := Int64) (((31 : Int64) * a13.1) + (Int32.toInt64 r14)) fun v15 =>
          bk_lt (α := Int32) (a13.2 + (1 : Int32)) fun v16 =>
          K12 (v15, v16))))) (a4, v11))) (fun K3 =>
    bk_loop (α := Int64 × Int32) (fun K5 a6 =>
      ((4 : Int32) ≤ a6.2 → K3 a6.1) ∧ (¬ (4 : Int32) ≤ a6.2 → (w_X1_eveningAnswer 36 x3 a6.2 σ (fun r7 =>
        bk_lt (α := Int64) (((31 : Int64) * a6.1) + (Int32.toInt64 r7)) fun v8 =>
        bk_lt (α := Int32) (a6.2 + (1 : Int32)) fun v9 =>
        K5 (v8, v9))))) (v1, v2))
set_option maxRecDepth 20000 in
theorem m_X8_foldEvening (w : bk_W) {x1 : Int64} {x3 : Int32} {σ : bk_S} {post : Int64 → bk_S → Prop} : w_X8_foldEvening x1 x3 σ post → bk_Ml lyC w yX8_foldEvening cX8_foldEvening 7 5 121 [.ref (bk_r w 0), .long x1, .int x3] σ post := by
  intro h0
  refine bk_ml (by decide) (Nat.le_of_ble_eq_true rfl) (fun X hX hret => ?_)
  revert h0
  unfold w_X8_foldEvening
  show _ → bk_At lyC w X 0 [(0, .ref (bk_r w 0)), (1, .long x1), (3, .int x3)] [] σ
  refine bk_lload_n hX 1 dX8_foldEvening_0 rfl ?_
  refine bk_lstore hX (fun v1 => [(4, .long v1), (0, .ref (bk_r w 0)), (1, .long x1), (3, .int x3)]) dX8_foldEvening_1 (Nat.le_of_ble_eq_true rfl) (fun _ => rfl) (fun v1 => ?_)
  refine bk_iconst hX bk_ci_0 dX8_foldEvening_3 ?_
  refine bk_istore hX (fun v2 => [(6, .int v2), (4, .long v1), (0, .ref (bk_r w 0)), (1, .long x1), (3, .int x3)]) dX8_foldEvening_4 (Nat.le_of_ble_eq_true rfl) (fun _ => rfl) (fun v2 => ?_)
  refine bk_r_jn (α := Int64) (J := fun a => bk_At lyC w X 38 [(4, .long a), (0, .ref (bk_r w 0)), (1, .long x1), (3, .int x3)] [] σ) (fun a4 => ?_) (fun K3 hK3 => ?_)
  · refine bk_aload_n hX 1 dX8_foldEvening_38 rfl ?_
    refine bk_iload_n hX 3 dX8_foldEvening_39 rfl ?_
    refine bk_callV_v hX [.int x3] [] yk_X8_chooseLeft yv_X8_chooseLeft lk_X8_225 rfl rfl kc_0 rfl rfl (Nat.le_of_ble_eq_true rfl) ⟨Nat.le_of_ble_eq_true rfl, Nat.le_of_ble_eq_true rfl⟩ dX8_foldEvening_40 (m_X8_chooseLeft w) (fun σ10 => ?_)
    refine bk_iconst hX bk_ci_0 dX8_foldEvening_43 ?_
    refine bk_istore hX (fun v11 => [(6, .int v11), (4, .long a4), (0, .ref (bk_r w 0)), (1, .long x1), (3, .int x3)]) dX8_foldEvening_44 (Nat.le_of_ble_eq_true rfl) (fun _ => rfl) (fun v11 => ?_)
    refine bk_pick [0, 1, 2, 3, 4] rfl (bk_r_loop (α := Int64 × Int32) (J := fun a => bk_At lyC w X 46 [(6, .int a.2), (4, .long a.1), (0, .ref (bk_r w 0)), (1, .long x1), (3, .int x3)] [] σ10) (a4, v11) (fun K12 hK12 a13 => ?_))
    refine bk_iload hX 0 dX8_foldEvening_46 rfl ?_
    refine bk_iconst hX bk_ci_3 dX8_foldEvening_48 ?_
    refine bk_icmp_ge hX 77 dX8_foldEvening_49 rfl ?_ ?_
    · refine bk_lload hX 1 dX8_foldEvening_77 rfl ?_
      exact fun z => hret _ _ _ _ dX8_foldEvening_79 z
    · refine bk_ldc2 hX kn_X8_310 dX8_foldEvening_52 ?_
      refine bk_lload hX 1 dX8_foldEvening_55 rfl ?_
      refine bk_lmul hX dX8_foldEvening_57 ?_
      refine bk_aload_n hX 2 dX8_foldEvening_58 rfl ?_
      refine bk_getr hX kc_0 rfl fl_X8_60 dX8_foldEvening_59 ?_
      refine bk_iload hX 0 dX8_foldEvening_62 rfl ?_
      refine bk_callV_i hX [.int a13.2] [.long ((31 : Int64) * a13.1)] yk_X0_leaveAnswer yv_X0_leaveAnswer lk_X8_228 rfl rfl k_cho_60 rfl rfl (Nat.le_of_ble_eq_true rfl) ⟨Nat.le_of_ble_eq_true rfl, Nat.le_of_ble_eq_true rfl⟩ dX8_foldEvening_64 (m_X0_leaveAnswer w k_cho_60) (bk_pu (fun r14 => ?_))
      refine bk_i2l hX dX8_foldEvening_67 ?_
      refine bk_ladd hX dX8_foldEvening_68 ?_
      refine bk_lstore hX (fun v15 => [(4, .long v15), (6, .int a13.2), (0, .ref (bk_r w 0)), (1, .long x1), (3, .int x3)]) dX8_foldEvening_69 (Nat.le_of_ble_eq_true rfl) (fun _ => rfl) (fun v15 => ?_)
      refine bk_iinc hX 1 (fun v16 => [(6, .int v16), (4, .long v15), (0, .ref (bk_r w 0)), (1, .long x1), (3, .int x3)]) dX8_foldEvening_71 rfl bk_ci_1 (Nat.le_of_ble_eq_true rfl) (fun _ => rfl) (fun v16 => ?_)
      refine bk_goto hX 46 dX8_foldEvening_74 rfl ?_
      exact bk_pick [0, 1, 2, 3, 4] rfl (hK12 (v15, v16))
  · refine bk_pick [0, 1, 2, 3, 4] rfl (bk_r_loop (α := Int64 × Int32) (J := fun a => bk_At lyC w X 6 [(6, .int a.2), (4, .long a.1), (0, .ref (bk_r w 0)), (1, .long x1), (3, .int x3)] [] σ) (v1, v2) (fun K5 hK5 a6 => ?_))
    refine bk_iload hX 0 dX8_foldEvening_6 rfl ?_
    refine bk_iconst hX bk_ci_4 dX8_foldEvening_8 ?_
    refine bk_icmp_ge hX 38 dX8_foldEvening_9 rfl ?_ ?_
    · exact bk_pick [1, 2, 3, 4] rfl (hK3 a6.1)
    · refine bk_ldc2 hX kn_X8_310 dX8_foldEvening_12 ?_
      refine bk_lload hX 1 dX8_foldEvening_15 rfl ?_
      refine bk_lmul hX dX8_foldEvening_17 ?_
      refine bk_aload_n hX 2 dX8_foldEvening_18 rfl ?_
      refine bk_getr hX kc_0 rfl fl_X8_50 dX8_foldEvening_19 ?_
      refine bk_iload_n hX 4 dX8_foldEvening_22 rfl ?_
      refine bk_iload hX 0 dX8_foldEvening_23 rfl ?_
      refine bk_callV_i hX [.int x3, .int a6.2] [.long ((31 : Int64) * a6.1)] yk_X1_eveningAnswer yv_X1_eveningAnswer lk_X8_191 rfl rfl k_crs_36.1 rfl rfl (Nat.le_of_ble_eq_true rfl) ⟨Nat.le_of_ble_eq_true rfl, Nat.le_of_ble_eq_true rfl⟩ dX8_foldEvening_25 (m_X1_eveningAnswer w k_crs_36) (bk_pu (fun r7 => ?_))
      refine bk_i2l hX dX8_foldEvening_28 ?_
      refine bk_ladd hX dX8_foldEvening_29 ?_
      refine bk_lstore hX (fun v8 => [(4, .long v8), (6, .int a6.2), (0, .ref (bk_r w 0)), (1, .long x1), (3, .int x3)]) dX8_foldEvening_30 (Nat.le_of_ble_eq_true rfl) (fun _ => rfl) (fun v8 => ?_)
      refine bk_iinc hX 1 (fun v9 => [(6, .int v9), (4, .long v8), (0, .ref (bk_r w 0)), (1, .long x1), (3, .int x3)]) dX8_foldEvening_32 rfl bk_ci_1 (Nat.le_of_ble_eq_true rfl) (fun _ => rfl) (fun v9 => ?_)
      refine bk_goto hX 6 dX8_foldEvening_35 rfl ?_
      exact bk_pick [0, 1, 2, 3, 4] rfl (hK5 (v8, v9))

def w_X8_foldHeat (x1 : Int64) (x3 : Int32) (σ : bk_S) (post : Int64 → Prop) : Prop :=
  vp_in x3 96 ∧ bk_lt (α := Int64) (((31 : Int64) * x1) + (Int32.toInt64 (σ (36 + 5) (Int32.toNatClampNeg x3)))) fun v1 =>
  vp_in x3 96 ∧ post (((31 : Int64) * v1) + (Int32.toInt64 (σ (36 + 6) (Int32.toNatClampNeg x3))))
set_option maxRecDepth 20000 in
theorem m_X8_foldHeat (w : bk_W) {x1 : Int64} {x3 : Int32} {σ : bk_S} {post : Int64 → Prop} : w_X8_foldHeat x1 x3 σ post → bk_Ml lyC w yX8_foldHeat cX8_foldHeat 6 0 0 [.ref (bk_r w 0), .long x1, .int x3] σ (fun r σ1 => post r ∧ σ1 = σ) := by
  intro h0
  refine bk_ml (by decide) (Nat.le_of_ble_eq_true rfl) (fun X hX hret => ?_)
  revert h0
  unfold w_X8_foldHeat
  show _ → bk_At lyC w X 0 [(0, .ref (bk_r w 0)), (1, .long x1), (3, .int x3)] [] σ
  refine bk_ldc2 hX kn_X8_310 dX8_foldHeat_0 ?_
  refine bk_lload_n hX 1 dX8_foldHeat_3 rfl ?_
  refine bk_lmul hX dX8_foldHeat_4 ?_
  refine bk_aload_n hX 0 dX8_foldHeat_5 rfl ?_
  refine bk_getr hX kc_0 rfl fl_X8_50 dX8_foldHeat_6 ?_
  refine bk_getr hX k_crs_36.1 rfl fl_X8_182 dX8_foldHeat_9 ?_
  refine bk_iload_n hX 2 dX8_foldHeat_12 rfl ?_
  refine bk_iaload hX k_crs_36.2.2.2.2.2.1 dX8_foldHeat_13 ?_
  refine bk_i2l hX dX8_foldHeat_14 ?_
  refine bk_ladd hX dX8_foldHeat_15 ?_
  refine bk_lstore hX (fun v1 => [(4, .long v1), (0, .ref (bk_r w 0)), (1, .long x1), (3, .int x3)]) dX8_foldHeat_16 (Nat.le_of_ble_eq_true rfl) (fun _ => rfl) (fun v1 => ?_)
  refine bk_ldc2 hX kn_X8_310 dX8_foldHeat_18 ?_
  refine bk_lload hX 0 dX8_foldHeat_21 rfl ?_
  refine bk_lmul hX dX8_foldHeat_23 ?_
  refine bk_aload_n hX 1 dX8_foldHeat_24 rfl ?_
  refine bk_getr hX kc_0 rfl fl_X8_50 dX8_foldHeat_25 ?_
  refine bk_getr hX k_crs_36.1 rfl fl_X8_185 dX8_foldHeat_28 ?_
  refine bk_iload_n hX 3 dX8_foldHeat_31 rfl ?_
  refine bk_iaload hX k_crs_36.2.2.2.2.2.2.1 dX8_foldHeat_32 ?_
  refine bk_i2l hX dX8_foldHeat_33 ?_
  refine bk_ladd hX dX8_foldHeat_34 ?_
  exact fun z => hret _ _ _ _ dX8_foldHeat_35 ⟨z, rfl⟩

def w_X8_foldThing (x1 : Int64) (x3 : Int32) (σ : bk_S) (post : Int64 → bk_S → Prop) : Prop :=
  vp_in x3 8 ∧ bk_lt (α := Int64) (((31 : Int64) * x1) + (Int32.toInt64 (σ (22 + 2) (Int32.toNatClampNeg x3)))) fun v1 =>
  vp_in x3 8 ∧ bk_lt (α := Int64) (((31 : Int64) * v1) + (Int32.toInt64 (σ (22 + 3) (Int32.toNatClampNeg x3)))) fun v2 =>
  vp_in x3 8 ∧ bk_lt (α := Int64) (((31 : Int64) * v2) + (Int32.toInt64 (σ (22 + 4) (Int32.toNatClampNeg x3)))) fun v3 =>
  w_X8_foldHeat v3 x3 σ (fun r4 =>
    bk_lt (α := Int64) r4 fun v5 =>
    w_X8_foldHeat v5 ((32 : Int32) + x3) σ (fun r6 =>
      bk_lt (α := Int64) r6 fun v7 =>
      w_X8_foldHeat v7 ((88 : Int32) + x3) σ (fun r8 =>
        bk_lt (α := Int64) r8 fun v9 =>
        vp_in x3 8 ∧ bk_lt (α := Int64) (((31 : Int64) * v9) + (Int32.toInt64 (σ (36 + 2) (Int32.toNatClampNeg x3)))) fun v10 =>
        vp_in x3 8 ∧ bk_lt (α := Int64) (((31 : Int64) * v10) + (Int32.toInt64 (σ (36 + 3) (Int32.toNatClampNeg x3)))) fun v11 =>
        w_X8_tryHeats x3 σ (fun σ12 =>
          bk_lt (α := Int64) (((31 : Int64) * v11) + (Int32.toInt64 (σ12 61 0))) fun v13 =>
          w_X8_sortsThatFit x3 σ12 (fun r14 σ15 =>
            bk_lt (α := Int64) (((31 : Int64) * v13) + (Int32.toInt64 r14)) fun v16 =>
            w_X2_eveningToAsk 61 σ15 (fun r17 =>
              bk_lt (α := Int64) (((31 : Int64) * v16) + (Int32.toInt64 r17)) fun v18 =>
              w_X8_chanceOf (5 : Int32) x3 (0 : Int32) σ15 (fun r19 =>
                bk_lt (α := Int64) (((31 : Int64) * v18) + r19) fun v20 =>
                w_X8_chanceOf (5 : Int32) x3 (1 : Int32) σ15 (fun r21 =>
                  post (((31 : Int64) * v20) + r21) σ15))))))))
set_option maxRecDepth 20000 in
theorem m_X8_foldThing (w : bk_W) {x1 : Int64} {x3 : Int32} {σ : bk_S} {post : Int64 → bk_S → Prop} : w_X8_foldThing x1 x3 σ post → bk_Ml lyC w yX8_foldThing cX8_foldThing 6 5 122 [.ref (bk_r w 0), .long x1, .int x3] σ post := by
  intro h0
  refine bk_ml (by decide) (Nat.le_of_ble_eq_true rfl) (fun X hX hret => ?_)
  revert h0
  unfold w_X8_foldThing
  show _ → bk_At lyC w X 0 [(0, .ref (bk_r w 0)), (1, .long x1), (3, .int x3)] [] σ
  refine bk_ldc2 hX kn_X8_310 dX8_foldThing_0 ?_
  refine bk_lload_n hX 1 dX8_foldThing_3 rfl ?_
  refine bk_lmul hX dX8_foldThing_4 ?_
  refine bk_aload_n hX 0 dX8_foldThing_5 rfl ?_
  refine bk_getr hX kc_0 rfl fl_X8_40 dX8_foldThing_6 ?_
  refine bk_getr hX k_set_22.1 rfl fl_X8_137 dX8_foldThing_9 ?_
  refine bk_iload_n hX 2 dX8_foldThing_12 rfl ?_
  refine bk_iaload hX k_set_22.2.2.1 dX8_foldThing_13 ?_
  refine bk_i2l hX dX8_foldThing_14 ?_
  refine bk_ladd hX dX8_foldThing_15 ?_
  refine bk_lstore hX (fun v1 => [(4, .long v1), (0, .ref (bk_r w 0)), (1, .long x1), (3, .int x3)]) dX8_foldThing_16 (Nat.le_of_ble_eq_true rfl) (fun _ => rfl) (fun v1 => ?_)
  refine bk_ldc2 hX kn_X8_310 dX8_foldThing_18 ?_
  refine bk_lload hX 0 dX8_foldThing_21 rfl ?_
  refine bk_lmul hX dX8_foldThing_23 ?_
  refine bk_aload_n hX 1 dX8_foldThing_24 rfl ?_
  refine bk_getr hX kc_0 rfl fl_X8_40 dX8_foldThing_25 ?_
  refine bk_getr hX k_set_22.1 rfl fl_X8_140 dX8_foldThing_28 ?_
  refine bk_iload_n hX 3 dX8_foldThing_31 rfl ?_
  refine bk_iaload hX k_set_22.2.2.2.1 dX8_foldThing_32 ?_
  refine bk_i2l hX dX8_foldThing_33 ?_
  refine bk_ladd hX dX8_foldThing_34 ?_
  refine bk_lstore hX (fun v2 => [(4, .long v2), (0, .ref (bk_r w 0)), (1, .long x1), (3, .int x3)]) dX8_foldThing_35 (Nat.le_of_ble_eq_true rfl) (fun _ => rfl) (fun v2 => ?_)
  refine bk_ldc2 hX kn_X8_310 dX8_foldThing_37 ?_
  refine bk_lload hX 0 dX8_foldThing_40 rfl ?_
  refine bk_lmul hX dX8_foldThing_42 ?_
  refine bk_aload_n hX 1 dX8_foldThing_43 rfl ?_
  refine bk_getr hX kc_0 rfl fl_X8_40 dX8_foldThing_44 ?_
  refine bk_getr hX k_set_22.1 rfl fl_X8_143 dX8_foldThing_47 ?_
  refine bk_iload_n hX 3 dX8_foldThing_50 rfl ?_
  refine bk_iaload hX k_set_22.2.2.2.2.1 dX8_foldThing_51 ?_
  refine bk_i2l hX dX8_foldThing_52 ?_
  refine bk_ladd hX dX8_foldThing_53 ?_
  refine bk_lstore hX (fun v3 => [(4, .long v3), (0, .ref (bk_r w 0)), (1, .long x1), (3, .int x3)]) dX8_foldThing_54 (Nat.le_of_ble_eq_true rfl) (fun _ => rfl) (fun v3 => ?_)
  refine bk_aload_n hX 1 dX8_foldThing_56 rfl ?_
  refine bk_lload hX 0 dX8_foldThing_57 rfl ?_
  refine bk_iload_n hX 3 dX8_foldThing_59 rfl ?_
  refine bk_callV_l hX [.long v3, .int x3] [] yk_X8_foldHeat yv_X8_foldHeat lk_X8_335 rfl rfl kc_0 rfl rfl (Nat.le_of_ble_eq_true rfl) ⟨Nat.le_of_ble_eq_true rfl, Nat.le_of_ble_eq_true rfl⟩ dX8_foldThing_60 (m_X8_foldHeat w) (bk_pu (fun r4 => ?_))
  refine bk_lstore hX (fun v5 => [(4, .long v5), (0, .ref (bk_r w 0)), (1, .long x1), (3, .int x3)]) dX8_foldThing_63 (Nat.le_of_ble_eq_true rfl) (fun _ => rfl) (fun v5 => ?_)
  refine bk_aload_n hX 1 dX8_foldThing_65 rfl ?_
  refine bk_lload hX 0 dX8_foldThing_66 rfl ?_
  refine bk_bipush hX bk_cb_32 dX8_foldThing_68 ?_
  refine bk_iload_n hX 3 dX8_foldThing_70 rfl ?_
  refine bk_iadd hX dX8_foldThing_71 ?_
  refine bk_callV_l hX [.long v5, .int ((32 : Int32) + x3)] [] yk_X8_foldHeat yv_X8_foldHeat lk_X8_335 rfl rfl kc_0 rfl rfl (Nat.le_of_ble_eq_true rfl) ⟨Nat.le_of_ble_eq_true rfl, Nat.le_of_ble_eq_true rfl⟩ dX8_foldThing_72 (m_X8_foldHeat w) (bk_pu (fun r6 => ?_))
  refine bk_lstore hX (fun v7 => [(4, .long v7), (0, .ref (bk_r w 0)), (1, .long x1), (3, .int x3)]) dX8_foldThing_75 (Nat.le_of_ble_eq_true rfl) (fun _ => rfl) (fun v7 => ?_)
  refine bk_aload_n hX 1 dX8_foldThing_77 rfl ?_
  refine bk_lload hX 0 dX8_foldThing_78 rfl ?_
  refine bk_bipush hX bk_cb_88 dX8_foldThing_80 ?_
  refine bk_iload_n hX 3 dX8_foldThing_82 rfl ?_
  refine bk_iadd hX dX8_foldThing_83 ?_
  refine bk_callV_l hX [.long v7, .int ((88 : Int32) + x3)] [] yk_X8_foldHeat yv_X8_foldHeat lk_X8_335 rfl rfl kc_0 rfl rfl (Nat.le_of_ble_eq_true rfl) ⟨Nat.le_of_ble_eq_true rfl, Nat.le_of_ble_eq_true rfl⟩ dX8_foldThing_84 (m_X8_foldHeat w) (bk_pu (fun r8 => ?_))
  refine bk_lstore hX (fun v9 => [(4, .long v9), (0, .ref (bk_r w 0)), (1, .long x1), (3, .int x3)]) dX8_foldThing_87 (Nat.le_of_ble_eq_true rfl) (fun _ => rfl) (fun v9 => ?_)
  refine bk_ldc2 hX kn_X8_310 dX8_foldThing_89 ?_
  refine bk_lload hX 0 dX8_foldThing_92 rfl ?_
  refine bk_lmul hX dX8_foldThing_94 ?_
  refine bk_aload_n hX 1 dX8_foldThing_95 rfl ?_
  refine bk_getr hX kc_0 rfl fl_X8_50 dX8_foldThing_96 ?_
  refine bk_getr hX k_crs_36.1 rfl fl_X8_195 dX8_foldThing_99 ?_
  refine bk_iload_n hX 3 dX8_foldThing_102 rfl ?_
  refine bk_iaload hX k_crs_36.2.2.1 dX8_foldThing_103 ?_
  refine bk_i2l hX dX8_foldThing_104 ?_
  refine bk_ladd hX dX8_foldThing_105 ?_
  refine bk_lstore hX (fun v10 => [(4, .long v10), (0, .ref (bk_r w 0)), (1, .long x1), (3, .int x3)]) dX8_foldThing_106 (Nat.le_of_ble_eq_true rfl) (fun _ => rfl) (fun v10 => ?_)
  refine bk_ldc2 hX kn_X8_310 dX8_foldThing_108 ?_
  refine bk_lload hX 0 dX8_foldThing_111 rfl ?_
  refine bk_lmul hX dX8_foldThing_113 ?_
  refine bk_aload_n hX 1 dX8_foldThing_114 rfl ?_
  refine bk_getr hX kc_0 rfl fl_X8_50 dX8_foldThing_115 ?_
  refine bk_getr hX k_crs_36.1 rfl fl_X8_210 dX8_foldThing_118 ?_
  refine bk_iload_n hX 3 dX8_foldThing_121 rfl ?_
  refine bk_iaload hX k_crs_36.2.2.2.1 dX8_foldThing_122 ?_
  refine bk_i2l hX dX8_foldThing_123 ?_
  refine bk_ladd hX dX8_foldThing_124 ?_
  refine bk_lstore hX (fun v11 => [(4, .long v11), (0, .ref (bk_r w 0)), (1, .long x1), (3, .int x3)]) dX8_foldThing_125 (Nat.le_of_ble_eq_true rfl) (fun _ => rfl) (fun v11 => ?_)
  refine bk_aload_n hX 1 dX8_foldThing_127 rfl ?_
  refine bk_iload_n hX 3 dX8_foldThing_128 rfl ?_
  refine bk_callV_v hX [.int x3] [] yk_X8_tryHeats yv_X8_tryHeats lk_X8_246 rfl rfl kc_0 rfl rfl (Nat.le_of_ble_eq_true rfl) ⟨Nat.le_of_ble_eq_true rfl, Nat.le_of_ble_eq_true rfl⟩ dX8_foldThing_129 (m_X8_tryHeats w) (fun σ12 => ?_)
  refine bk_ldc2 hX kn_X8_310 dX8_foldThing_132 ?_
  refine bk_lload hX 0 dX8_foldThing_135 rfl ?_
  refine bk_lmul hX dX8_foldThing_137 ?_
  refine bk_aload_n hX 1 dX8_foldThing_138 rfl ?_
  refine bk_getr hX kc_0 rfl fl_X8_67 dX8_foldThing_139 ?_
  refine bk_geti hX k_hea_61.1 rfl fl_X8_249 dX8_foldThing_142 ?_
  refine bk_i2l hX dX8_foldThing_145 ?_
  refine bk_ladd hX dX8_foldThing_146 ?_
  refine bk_lstore hX (fun v13 => [(4, .long v13), (0, .ref (bk_r w 0)), (1, .long x1), (3, .int x3)]) dX8_foldThing_147 (Nat.le_of_ble_eq_true rfl) (fun _ => rfl) (fun v13 => ?_)
  refine bk_ldc2 hX kn_X8_310 dX8_foldThing_149 ?_
  refine bk_lload hX 0 dX8_foldThing_152 rfl ?_
  refine bk_lmul hX dX8_foldThing_154 ?_
  refine bk_aload_n hX 1 dX8_foldThing_155 rfl ?_
  refine bk_iload_n hX 3 dX8_foldThing_156 rfl ?_
  refine bk_callV_i hX [.int x3] [.long ((31 : Int64) * v13)] yk_X8_sortsThatFit yv_X8_sortsThatFit lk_X8_243 rfl rfl kc_0 rfl rfl (Nat.le_of_ble_eq_true rfl) ⟨Nat.le_of_ble_eq_true rfl, Nat.le_of_ble_eq_true rfl⟩ dX8_foldThing_157 (m_X8_sortsThatFit w) (fun r14 σ15 => ?_)
  refine bk_i2l hX dX8_foldThing_160 ?_
  refine bk_ladd hX dX8_foldThing_161 ?_
  refine bk_lstore hX (fun v16 => [(4, .long v16), (0, .ref (bk_r w 0)), (1, .long x1), (3, .int x3)]) dX8_foldThing_162 (Nat.le_of_ble_eq_true rfl) (fun _ => rfl) (fun v16 => ?_)
  refine bk_ldc2 hX kn_X8_310 dX8_foldThing_164 ?_
  refine bk_lload hX 0 dX8_foldThing_167 rfl ?_
  refine bk_lmul hX dX8_foldThing_169 ?_
  refine bk_aload_n hX 1 dX8_foldThing_170 rfl ?_
  refine bk_getr hX kc_0 rfl fl_X8_67 dX8_foldThing_171 ?_
  refine bk_callV_i hX [] [.long ((31 : Int64) * v16)] yk_X2_eveningToAsk yv_X2_eveningToAsk lk_X8_252 rfl rfl k_hea_61.1 rfl rfl (Nat.le_of_ble_eq_true rfl) ⟨Nat.le_of_ble_eq_true rfl, Nat.le_of_ble_eq_true rfl⟩ dX8_foldThing_174 (m_X2_eveningToAsk w k_hea_61) (bk_pu (fun r17 => ?_))
  refine bk_i2l hX dX8_foldThing_177 ?_
  refine bk_ladd hX dX8_foldThing_178 ?_
  refine bk_lstore hX (fun v18 => [(4, .long v18), (0, .ref (bk_r w 0)), (1, .long x1), (3, .int x3)]) dX8_foldThing_179 (Nat.le_of_ble_eq_true rfl) (fun _ => rfl) (fun v18 => ?_)
  refine bk_ldc2 hX kn_X8_310 dX8_foldThing_181 ?_
  refine bk_lload hX 0 dX8_foldThing_184 rfl ?_
  refine bk_lmul hX dX8_foldThing_186 ?_
  refine bk_aload_n hX 1 dX8_foldThing_187 rfl ?_
  refine bk_iconst hX bk_ci_5 dX8_foldThing_188 ?_
  refine bk_iload_n hX 3 dX8_foldThing_189 rfl ?_
  refine bk_iconst hX bk_ci_0 dX8_foldThing_190 ?_
  refine bk_callV_l hX [.int (5 : Int32), .int x3, .int (0 : Int32)] [.long ((31 : Int64) * v18)] yk_X8_chanceOf yv_X8_chanceOf lk_X8_257 rfl rfl kc_0 rfl rfl (Nat.le_of_ble_eq_true rfl) ⟨Nat.le_of_ble_eq_true rfl, Nat.le_of_ble_eq_true rfl⟩ dX8_foldThing_191 (m_X8_chanceOf w) (bk_pu (fun r19 => ?_))
  refine bk_ladd hX dX8_foldThing_194 ?_
  refine bk_lstore hX (fun v20 => [(4, .long v20), (0, .ref (bk_r w 0)), (1, .long x1), (3, .int x3)]) dX8_foldThing_195 (Nat.le_of_ble_eq_true rfl) (fun _ => rfl) (fun v20 => ?_)
  refine bk_ldc2 hX kn_X8_310 dX8_foldThing_197 ?_
  refine bk_lload hX 0 dX8_foldThing_200 rfl ?_
  refine bk_lmul hX dX8_foldThing_202 ?_
  refine bk_aload_n hX 1 dX8_foldThing_203 rfl ?_
  refine bk_iconst hX bk_ci_5 dX8_foldThing_204 ?_
  refine bk_iload_n hX 3 dX8_foldThing_205 rfl ?_
  refine bk_iconst hX bk_ci_1 dX8_foldThing_206 ?_
  refine bk_callV_l hX [.int (5 : Int32), .int x3, .int (1 : Int32)] [.long ((31 : Int64) * v20)] yk_X8_chanceOf yv_X8_chanceOf lk_X8_257 rfl rfl kc_0 rfl rfl (Nat.le_of_ble_eq_true rfl) ⟨Nat.le_of_ble_eq_true rfl, Nat.le_of_ble_eq_true rfl⟩ dX8_foldThing_207 (m_X8_chanceOf w) (bk_pu (fun r21 => ?_))
  refine bk_ladd hX dX8_foldThing_210 ?_
  exact fun z => hret _ _ _ _ dX8_foldThing_211 z

def w_X8_foldSums (x1 : Int64) (σ : bk_S) (post : Int64 → Prop) : Prop :=
  bk_lt (α := Int64) x1 fun v1 =>
  bk_lt (α := Int32) (0 : Int32) fun v2 =>
  bk_jn (α := Int64) (fun a4 =>
    w_X4_allThings 22 σ (fun r10 =>
      w_X1_firstPeace 36 r10 σ (fun r11 =>
        bk_lt (α := Int64) (((31 : Int64) * a4) + (Int32.toInt64 r11)) fun v12 =>
        w_X1_thingSaidMost 36 σ (fun r13 =>
          bk_lt (α := Int64) (((31 : Int64) * v12) + (Int32.toInt64 r13)) fun v14 =>
          w_X8_unsettledThings σ (fun r15 =>
            post (((31 : Int64) * v14) + (Int32.toInt64 r15))))))) (fun K3 =>
    bk_loop (α := Int64 × Int32) (fun K5 a6 =>
      ((4 : Int32) ≤ a6.2 → K3 a6.1) ∧ (¬ (4 : Int32) ≤ a6.2 → (w_X1_sumAnswer 36 a6.2 σ (fun r7 =>
        bk_lt (α := Int64) (((31 : Int64) * a6.1) + (Int32.toInt64 r7)) fun v8 =>
        bk_lt (α := Int32) (a6.2 + (1 : Int32)) fun v9 =>
        K5 (v8, v9))))) (v1, v2))
set_option maxRecDepth 20000 in
theorem m_X8_foldSums (w : bk_W) {x1 : Int64} {σ : bk_S} {post : Int64 → Prop} : w_X8_foldSums x1 σ post → bk_Ml lyC w yX8_foldSums cX8_foldSums 6 2 46 [.ref (bk_r w 0), .long x1] σ (fun r σ1 => post r ∧ σ1 = σ) := by
  intro h0
  refine bk_ml (by decide) (Nat.le_of_ble_eq_true rfl) (fun X hX hret => ?_)
  revert h0
  unfold w_X8_foldSums
  show _ → bk_At lyC w X 0 [(0, .ref (bk_r w 0)), (1, .long x1)] [] σ
  refine bk_lload_n hX 1 dX8_foldSums_0 rfl ?_
  refine bk_lstore_n hX (fun v1 => [(3, .long v1), (0, .ref (bk_r w 0)), (1, .long x1)]) dX8_foldSums_1 (Nat.le_of_ble_eq_true rfl) (fun _ => rfl) (fun v1 => ?_)
  refine bk_iconst hX bk_ci_0 dX8_foldSums_2 ?_
  refine bk_istore hX (fun v2 => [(5, .int v2), (3, .long v1), (0, .ref (bk_r w 0)), (1, .long x1)]) dX8_foldSums_3 (Nat.le_of_ble_eq_true rfl) (fun _ => rfl) (fun v2 => ?_)
  refine bk_r_jn (α := Int64) (J := fun a => bk_At lyC w X 34 [(3, .long a), (0, .ref (bk_r w 0)), (1, .long x1)] [] σ) (fun a4 => ?_) (fun K3 hK3 => ?_)
  · refine bk_ldc2 hX kn_X8_310 dX8_foldSums_34 ?_
    refine bk_lload_n hX 0 dX8_foldSums_37 rfl ?_
    refine bk_lmul hX dX8_foldSums_38 ?_
    refine bk_aload_n hX 1 dX8_foldSums_39 rfl ?_
    refine bk_getr hX kc_0 rfl fl_X8_50 dX8_foldSums_40 ?_
    refine bk_aload_n hX 1 dX8_foldSums_43 rfl ?_
    refine bk_getr hX kc_0 rfl fl_X8_40 dX8_foldSums_44 ?_
    refine bk_callV_i hX [] [.ref (bk_r w 36), .long ((31 : Int64) * a4)] yk_X4_allThings yv_X4_allThings lk_X8_201 rfl rfl k_set_22.1 rfl rfl (Nat.le_of_ble_eq_true rfl) ⟨Nat.le_of_ble_eq_true rfl, Nat.le_of_ble_eq_true rfl⟩ dX8_foldSums_47 (m_X4_allThings w k_set_22) (bk_pu (fun r10 => ?_))
    refine bk_callV_i hX [.int r10] [.long ((31 : Int64) * a4)] yk_X1_firstPeace yv_X1_firstPeace lk_X8_204 rfl rfl k_crs_36.1 rfl rfl (Nat.le_of_ble_eq_true rfl) ⟨Nat.le_of_ble_eq_true rfl, Nat.le_of_ble_eq_true rfl⟩ dX8_foldSums_50 (m_X1_firstPeace w k_crs_36) (bk_pu (fun r11 => ?_))
    refine bk_i2l hX dX8_foldSums_53 ?_
    refine bk_ladd hX dX8_foldSums_54 ?_
    refine bk_lstore_n hX (fun v12 => [(3, .long v12), (0, .ref (bk_r w 0)), (1, .long x1)]) dX8_foldSums_55 (Nat.le_of_ble_eq_true rfl) (fun _ => rfl) (fun v12 => ?_)
    refine bk_ldc2 hX kn_X8_310 dX8_foldSums_56 ?_
    refine bk_lload_n hX 0 dX8_foldSums_59 rfl ?_
    refine bk_lmul hX dX8_foldSums_60 ?_
    refine bk_aload_n hX 1 dX8_foldSums_61 rfl ?_
    refine bk_getr hX kc_0 rfl fl_X8_50 dX8_foldSums_62 ?_
    refine bk_callV_i hX [] [.long ((31 : Int64) * v12)] yk_X1_thingSaidMost yv_X1_thingSaidMost lk_X8_207 rfl rfl k_crs_36.1 rfl rfl (Nat.le_of_ble_eq_true rfl) ⟨Nat.le_of_ble_eq_true rfl, Nat.le_of_ble_eq_true rfl⟩ dX8_foldSums_65 (m_X1_thingSaidMost w k_crs_36) (bk_pu (fun r13 => ?_))
    refine bk_i2l hX dX8_foldSums_68 ?_
    refine bk_ladd hX dX8_foldSums_69 ?_
    refine bk_lstore_n hX (fun v14 => [(3, .long v14), (0, .ref (bk_r w 0)), (1, .long x1)]) dX8_foldSums_70 (Nat.le_of_ble_eq_true rfl) (fun _ => rfl) (fun v14 => ?_)
    refine bk_ldc2 hX kn_X8_310 dX8_foldSums_71 ?_
    refine bk_lload_n hX 0 dX8_foldSums_74 rfl ?_
    refine bk_lmul hX dX8_foldSums_75 ?_
    refine bk_aload_n hX 1 dX8_foldSums_76 rfl ?_
    refine bk_callV_i hX [] [.long ((31 : Int64) * v14)] yk_X8_unsettledThings yv_X8_unsettledThings lk_X8_213 rfl rfl kc_0 rfl rfl (Nat.le_of_ble_eq_true rfl) ⟨Nat.le_of_ble_eq_true rfl, Nat.le_of_ble_eq_true rfl⟩ dX8_foldSums_77 (m_X8_unsettledThings w) (bk_pu (fun r15 => ?_))
    refine bk_i2l hX dX8_foldSums_80 ?_
    refine bk_ladd hX dX8_foldSums_81 ?_
    exact fun z => hret _ _ _ _ dX8_foldSums_82 ⟨z, rfl⟩
  · refine bk_pick [0, 1, 2, 3] rfl (bk_r_loop (α := Int64 × Int32) (J := fun a => bk_At lyC w X 5 [(5, .int a.2), (3, .long a.1), (0, .ref (bk_r w 0)), (1, .long x1)] [] σ) (v1, v2) (fun K5 hK5 a6 => ?_))
    refine bk_iload hX 0 dX8_foldSums_5 rfl ?_
    refine bk_iconst hX bk_ci_4 dX8_foldSums_7 ?_
    refine bk_icmp_ge hX 34 dX8_foldSums_8 rfl ?_ ?_
    · exact bk_pick [1, 2, 3] rfl (hK3 a6.1)
    · refine bk_ldc2 hX kn_X8_310 dX8_foldSums_11 ?_
      refine bk_lload_n hX 1 dX8_foldSums_14 rfl ?_
      refine bk_lmul hX dX8_foldSums_15 ?_
      refine bk_aload_n hX 2 dX8_foldSums_16 rfl ?_
      refine bk_getr hX kc_0 rfl fl_X8_50 dX8_foldSums_17 ?_
      refine bk_iload hX 0 dX8_foldSums_20 rfl ?_
      refine bk_callV_i hX [.int a6.2] [.long ((31 : Int64) * a6.1)] yk_X1_sumAnswer yv_X1_sumAnswer lk_X8_198 rfl rfl k_crs_36.1 rfl rfl (Nat.le_of_ble_eq_true rfl) ⟨Nat.le_of_ble_eq_true rfl, Nat.le_of_ble_eq_true rfl⟩ dX8_foldSums_22 (m_X1_sumAnswer w k_crs_36) (bk_pu (fun r7 => ?_))
      refine bk_i2l hX dX8_foldSums_25 ?_
      refine bk_ladd hX dX8_foldSums_26 ?_
      refine bk_lstore_n hX (fun v8 => [(3, .long v8), (5, .int a6.2), (0, .ref (bk_r w 0)), (1, .long x1)]) dX8_foldSums_27 (Nat.le_of_ble_eq_true rfl) (fun _ => rfl) (fun v8 => ?_)
      refine bk_iinc hX 1 (fun v9 => [(5, .int v9), (3, .long v8), (0, .ref (bk_r w 0)), (1, .long x1)]) dX8_foldSums_28 rfl bk_ci_1 (Nat.le_of_ble_eq_true rfl) (fun _ => rfl) (fun v9 => ?_)
      refine bk_goto hX 5 dX8_foldSums_31 rfl ?_
      exact bk_pick [0, 1, 2, 3] rfl (hK5 (v8, v9))

def w_X8_foldPlans (x1 : Int64) (σ : bk_S) (post : Int64 → bk_S → Prop) : Prop :=
  bk_lt (α := Int64) x1 fun v1 =>
  w_X8_chooseSwap σ (fun σ2 =>
    bk_lt (α := Int32) (0 : Int32) fun v3 =>
    bk_jn (α := Int64) (fun a5 =>
      w_X8_fewestHooks σ2 (fun r11 σ12 =>
        bk_lt (α := Int64) (((31 : Int64) * a5) + (Int32.toInt64 r11)) fun v13 =>
        w_X8_chooseSpared σ12 (fun σ14 =>
          w_X0_spareAnswer 60 (-1 : Int32) σ14 (fun r15 =>
            bk_lt (α := Int64) (((31 : Int64) * v13) + (Int32.toInt64 r15)) fun v16 =>
            w_X0_spareAnswer 60 (0 : Int32) σ14 (fun r17 =>
              bk_lt (α := Int64) (((31 : Int64) * v16) + (Int32.toInt64 r17)) fun v18 =>
              w_X8_eventsThatNeverWere σ14 (fun r19 σ20 =>
                bk_lt (α := Int64) (((31 : Int64) * v18) + (Int32.toInt64 r19)) fun v21 =>
                w_X8_runSeason (7 : Int32) (6 : Int32) σ20 (fun σ22 =>
                  bk_lt (α := Int64) (((31 : Int64) * v21) + (Int32.toInt64 (σ22 48 11))) fun v23 =>
                  w_X8_sumOf (48 + 9) 12 σ22 (fun r24 =>
                    post (((31 : Int64) * v23) + (Int32.toInt64 r24)) σ22)))))))) (fun K4 =>
      bk_loop (α := Int64 × Int32) (fun K6 a7 =>
        ((4 : Int32) ≤ a7.2 → K4 a7.1) ∧ (¬ (4 : Int32) ≤ a7.2 → (w_X0_swapAnswer 60 a7.2 σ2 (fun r8 =>
          bk_lt (α := Int64) (((31 : Int64) * a7.1) + (Int32.toInt64 r8)) fun v9 =>
          bk_lt (α := Int32) (a7.2 + (1 : Int32)) fun v10 =>
          K6 (v9, v10))))) (v1, v3)))
set_option maxRecDepth 20000 in
theorem m_X8_foldPlans (w : bk_W) {x1 : Int64} {σ : bk_S} {post : Int64 → bk_S → Prop} : w_X8_foldPlans x1 σ post → bk_Ml lyC w yX8_foldPlans cX8_foldPlans 6 5 122 [.ref (bk_r w 0), .long x1] σ post := by
  intro h0
  refine bk_ml (by decide) (Nat.le_of_ble_eq_true rfl) (fun X hX hret => ?_)
  revert h0
  unfold w_X8_foldPlans
  show _ → bk_At lyC w X 0 [(0, .ref (bk_r w 0)), (1, .long x1)] [] σ
  refine bk_lload_n hX 1 dX8_foldPlans_0 rfl ?_
  refine bk_lstore_n hX (fun v1 => [(3, .long v1), (0, .ref (bk_r w 0)), (1, .long x1)]) dX8_foldPlans_1 (Nat.le_of_ble_eq_true rfl) (fun _ => rfl) (fun v1 => ?_)
  refine bk_aload_n hX 1 dX8_foldPlans_2 rfl ?_
  refine bk_callV_v hX [] [] yk_X8_chooseSwap yv_X8_chooseSwap lk_X8_216 rfl rfl kc_0 rfl rfl (Nat.le_of_ble_eq_true rfl) ⟨Nat.le_of_ble_eq_true rfl, Nat.le_of_ble_eq_true rfl⟩ dX8_foldPlans_3 (m_X8_chooseSwap w) (fun σ2 => ?_)
  refine bk_iconst hX bk_ci_0 dX8_foldPlans_6 ?_
  refine bk_istore hX (fun v3 => [(5, .int v3), (3, .long v1), (0, .ref (bk_r w 0)), (1, .long x1)]) dX8_foldPlans_7 (Nat.le_of_ble_eq_true rfl) (fun _ => rfl) (fun v3 => ?_)
  refine bk_r_jn (α := Int64) (J := fun a => bk_At lyC w X 38 [(3, .long a), (0, .ref (bk_r w 0)), (1, .long x1)] [] σ2) (fun a5 => ?_) (fun K4 hK4 => ?_)
  · refine bk_ldc2 hX kn_X8_310 dX8_foldPlans_38 ?_
    refine bk_lload_n hX 0 dX8_foldPlans_41 rfl ?_
    refine bk_lmul hX dX8_foldPlans_42 ?_
    refine bk_aload_n hX 1 dX8_foldPlans_43 rfl ?_
    refine bk_callV_i hX [] [.long ((31 : Int64) * a5)] yk_X8_fewestHooks yv_X8_fewestHooks lk_X8_222 rfl rfl kc_0 rfl rfl (Nat.le_of_ble_eq_true rfl) ⟨Nat.le_of_ble_eq_true rfl, Nat.le_of_ble_eq_true rfl⟩ dX8_foldPlans_44 (m_X8_fewestHooks w) (fun r11 σ12 => ?_)
    refine bk_i2l hX dX8_foldPlans_47 ?_
    refine bk_ladd hX dX8_foldPlans_48 ?_
    refine bk_lstore_n hX (fun v13 => [(3, .long v13), (0, .ref (bk_r w 0)), (1, .long x1)]) dX8_foldPlans_49 (Nat.le_of_ble_eq_true rfl) (fun _ => rfl) (fun v13 => ?_)
    refine bk_aload_n hX 1 dX8_foldPlans_50 rfl ?_
    refine bk_callV_v hX [] [] yk_X8_chooseSpared yv_X8_chooseSpared lk_X8_234 rfl rfl kc_0 rfl rfl (Nat.le_of_ble_eq_true rfl) ⟨Nat.le_of_ble_eq_true rfl, Nat.le_of_ble_eq_true rfl⟩ dX8_foldPlans_51 (m_X8_chooseSpared w) (fun σ14 => ?_)
    refine bk_ldc2 hX kn_X8_310 dX8_foldPlans_54 ?_
    refine bk_lload_n hX 0 dX8_foldPlans_57 rfl ?_
    refine bk_lmul hX dX8_foldPlans_58 ?_
    refine bk_aload_n hX 1 dX8_foldPlans_59 rfl ?_
    refine bk_getr hX kc_0 rfl fl_X8_60 dX8_foldPlans_60 ?_
    refine bk_iconst hX bk_ci_m1 dX8_foldPlans_63 ?_
    refine bk_callV_i hX [.int (-1 : Int32)] [.long ((31 : Int64) * v13)] yk_X0_spareAnswer yv_X0_spareAnswer lk_X8_237 rfl rfl k_cho_60 rfl rfl (Nat.le_of_ble_eq_true rfl) ⟨Nat.le_of_ble_eq_true rfl, Nat.le_of_ble_eq_true rfl⟩ dX8_foldPlans_64 (m_X0_spareAnswer w k_cho_60) (bk_pu (fun r15 => ?_))
    refine bk_i2l hX dX8_foldPlans_67 ?_
    refine bk_ladd hX dX8_foldPlans_68 ?_
    refine bk_lstore_n hX (fun v16 => [(3, .long v16), (0, .ref (bk_r w 0)), (1, .long x1)]) dX8_foldPlans_69 (Nat.le_of_ble_eq_true rfl) (fun _ => rfl) (fun v16 => ?_)
    refine bk_ldc2 hX kn_X8_310 dX8_foldPlans_70 ?_
    refine bk_lload_n hX 0 dX8_foldPlans_73 rfl ?_
    refine bk_lmul hX dX8_foldPlans_74 ?_
    refine bk_aload_n hX 1 dX8_foldPlans_75 rfl ?_
    refine bk_getr hX kc_0 rfl fl_X8_60 dX8_foldPlans_76 ?_
    refine bk_iconst hX bk_ci_0 dX8_foldPlans_79 ?_
    refine bk_callV_i hX [.int (0 : Int32)] [.long ((31 : Int64) * v16)] yk_X0_spareAnswer yv_X0_spareAnswer lk_X8_237 rfl rfl k_cho_60 rfl rfl (Nat.le_of_ble_eq_true rfl) ⟨Nat.le_of_ble_eq_true rfl, Nat.le_of_ble_eq_true rfl⟩ dX8_foldPlans_80 (m_X0_spareAnswer w k_cho_60) (bk_pu (fun r17 => ?_))
    refine bk_i2l hX dX8_foldPlans_83 ?_
    refine bk_ladd hX dX8_foldPlans_84 ?_
    refine bk_lstore_n hX (fun v18 => [(3, .long v18), (0, .ref (bk_r w 0)), (1, .long x1)]) dX8_foldPlans_85 (Nat.le_of_ble_eq_true rfl) (fun _ => rfl) (fun v18 => ?_)
    refine bk_ldc2 hX kn_X8_310 dX8_foldPlans_86 ?_
    refine bk_lload_n hX 0 dX8_foldPlans_89 rfl ?_
    refine bk_lmul hX dX8_foldPlans_90 ?_
    refine bk_aload_n hX 1 dX8_foldPlans_91 rfl ?_
    refine bk_callV_i hX [] [.long ((31 : Int64) * v18)] yk_X8_eventsThatNeverWere yv_X8_eventsThatNeverWere lk_X8_240 rfl rfl kc_0 rfl rfl (Nat.le_of_ble_eq_true rfl) ⟨Nat.le_of_ble_eq_true rfl, Nat.le_of_ble_eq_true rfl⟩ dX8_foldPlans_92 (m_X8_eventsThatNeverWere w) (fun r19 σ20 => ?_)
    refine bk_i2l hX dX8_foldPlans_95 ?_
    refine bk_ladd hX dX8_foldPlans_96 ?_
    refine bk_lstore_n hX (fun v21 => [(3, .long v21), (0, .ref (bk_r w 0)), (1, .long x1)]) dX8_foldPlans_97 (Nat.le_of_ble_eq_true rfl) (fun _ => rfl) (fun v21 => ?_)
    refine bk_aload_n hX 1 dX8_foldPlans_98 rfl ?_
    refine bk_bipush hX bk_cb_7 dX8_foldPlans_99 ?_
    refine bk_bipush hX bk_cb_6 dX8_foldPlans_101 ?_
    refine bk_callV_v hX [.int (7 : Int32), .int (6 : Int32)] [] yk_X8_runSeason yv_X8_runSeason lk_X8_261 rfl rfl kc_0 rfl rfl (Nat.le_of_ble_eq_true rfl) ⟨Nat.le_of_ble_eq_true rfl, Nat.le_of_ble_eq_true rfl⟩ dX8_foldPlans_103 (m_X8_runSeason w) (fun σ22 => ?_)
    refine bk_ldc2 hX kn_X8_310 dX8_foldPlans_106 ?_
    refine bk_lload_n hX 0 dX8_foldPlans_109 rfl ?_
    refine bk_lmul hX dX8_foldPlans_110 ?_
    refine bk_aload_n hX 1 dX8_foldPlans_111 rfl ?_
    refine bk_getr hX kc_0 rfl fl_X8_54 dX8_foldPlans_112 ?_
    refine bk_geti hX k_crs_48.1 rfl fl_X8_265 dX8_foldPlans_115 ?_
    refine bk_i2l hX dX8_foldPlans_118 ?_
    refine bk_ladd hX dX8_foldPlans_119 ?_
    refine bk_lstore_n hX (fun v23 => [(3, .long v23), (0, .ref (bk_r w 0)), (1, .long x1)]) dX8_foldPlans_120 (Nat.le_of_ble_eq_true rfl) (fun _ => rfl) (fun v23 => ?_)
    refine bk_ldc2 hX kn_X8_310 dX8_foldPlans_121 ?_
    refine bk_lload_n hX 0 dX8_foldPlans_124 rfl ?_
    refine bk_lmul hX dX8_foldPlans_125 ?_
    refine bk_aload_n hX 1 dX8_foldPlans_126 rfl ?_
    refine bk_getr hX kc_0 rfl fl_X8_54 dX8_foldPlans_127 ?_
    refine bk_getr hX k_crs_48.1 rfl fl_X8_268 dX8_foldPlans_130 ?_
    refine bk_callS_i hX [.ref (bk_r w (48 + 9))] [.long ((31 : Int64) * v23)] yk_X8_sumOf ys_X8_sumOf lk_X8_271 rfl rfl (Nat.le_of_ble_eq_true rfl) ⟨Nat.le_of_ble_eq_true rfl, Nat.le_of_ble_eq_true rfl⟩ dX8_foldPlans_133 (m_X8_sumOf w k_crs_48.2.2.2.2.2.2.2.2.2.1) (bk_pu (fun r24 => ?_))
    refine bk_i2l hX dX8_foldPlans_136 ?_
    refine bk_ladd hX dX8_foldPlans_137 ?_
    exact fun z => hret _ _ _ _ dX8_foldPlans_138 z
  · refine bk_pick [0, 1, 2, 3] rfl (bk_r_loop (α := Int64 × Int32) (J := fun a => bk_At lyC w X 9 [(5, .int a.2), (3, .long a.1), (0, .ref (bk_r w 0)), (1, .long x1)] [] σ2) (v1, v3) (fun K6 hK6 a7 => ?_))
    refine bk_iload hX 0 dX8_foldPlans_9 rfl ?_
    refine bk_iconst hX bk_ci_4 dX8_foldPlans_11 ?_
    refine bk_icmp_ge hX 38 dX8_foldPlans_12 rfl ?_ ?_
    · exact bk_pick [1, 2, 3] rfl (hK4 a7.1)
    · refine bk_ldc2 hX kn_X8_310 dX8_foldPlans_15 ?_
      refine bk_lload_n hX 1 dX8_foldPlans_18 rfl ?_
      refine bk_lmul hX dX8_foldPlans_19 ?_
      refine bk_aload_n hX 2 dX8_foldPlans_20 rfl ?_
      refine bk_getr hX kc_0 rfl fl_X8_60 dX8_foldPlans_21 ?_
      refine bk_iload hX 0 dX8_foldPlans_24 rfl ?_
      refine bk_callV_i hX [.int a7.2] [.long ((31 : Int64) * a7.1)] yk_X0_swapAnswer yv_X0_swapAnswer lk_X8_219 rfl rfl k_cho_60 rfl rfl (Nat.le_of_ble_eq_true rfl) ⟨Nat.le_of_ble_eq_true rfl, Nat.le_of_ble_eq_true rfl⟩ dX8_foldPlans_26 (m_X0_swapAnswer w k_cho_60) (bk_pu (fun r8 => ?_))
      refine bk_i2l hX dX8_foldPlans_29 ?_
      refine bk_ladd hX dX8_foldPlans_30 ?_
      refine bk_lstore_n hX (fun v9 => [(3, .long v9), (5, .int a7.2), (0, .ref (bk_r w 0)), (1, .long x1)]) dX8_foldPlans_31 (Nat.le_of_ble_eq_true rfl) (fun _ => rfl) (fun v9 => ?_)
      refine bk_iinc hX 1 (fun v10 => [(5, .int v10), (3, .long v9), (0, .ref (bk_r w 0)), (1, .long x1)]) dX8_foldPlans_32 rfl bk_ci_1 (Nat.le_of_ble_eq_true rfl) (fun _ => rfl) (fun v10 => ?_)
      refine bk_goto hX 9 dX8_foldPlans_35 rfl ?_
      exact bk_pick [0, 1, 2, 3] rfl (hK6 (v9, v10))

def w_X8_digest (σ : bk_S) (post : Int64 → bk_S → Prop) : Prop :=
  w_X8_refresh σ (fun σ1 =>
    w_X8_refreshEnds σ1 (fun σ2 =>
      bk_lt (α := Int64) (17 : Int64) fun v3 =>
      bk_lt (α := Int32) (0 : Int32) fun v4 =>
      bk_jn (α := Int64 × bk_S) (fun a6 =>
        w_X8_fault (0 : Int32) a6.2 (fun r13 =>
          bk_lt (α := Int64) (((31 : Int64) * a6.1) + (Int32.toInt64 r13)) fun v14 =>
          w_X8_fault (1 : Int32) a6.2 (fun r15 =>
            bk_lt (α := Int64) (((31 : Int64) * v14) + (Int32.toInt64 r15)) fun v16 =>
            bk_lt (α := Int32) (0 : Int32) fun v17 =>
            bk_jn (α := Int64) (fun a19 =>
              bk_lt (α := Int32) (0 : Int32) fun v25 =>
              bk_jn (α := Int64 × bk_S) (fun a27 =>
                bk_lt (α := Int32) (0 : Int32) fun v34 =>
                bk_jn (α := Int64 × bk_S) (fun a36 =>
                  w_X8_foldSums a36.1 a36.2 (fun r43 =>
                    bk_lt (α := Int64) r43 fun v44 =>
                    w_X8_foldPlans v44 a36.2 (fun r45 σ46 =>
                      post r45 σ46))) (fun K35 =>
                  bk_loop (α := Int64 × Int32 × bk_S) (fun K37 a38 =>
                    ((a38.2.2 22 1) ≤ a38.2.1 → K35 (a38.1, a38.2.2)) ∧ (¬ (a38.2.2 22 1) ≤ a38.2.1 → (w_X8_foldThing a38.1 a38.2.1 a38.2.2 (fun r39 σ40 =>
                      bk_lt (α := Int64) r39 fun v41 =>
                      bk_lt (α := Int32) (a38.2.1 + (1 : Int32)) fun v42 =>
                      K37 (v41, v42, σ40))))) (a27.1, v34, a27.2))) (fun K26 =>
                bk_loop (α := Int64 × Int32 × bk_S) (fun K28 a29 =>
                  ((12 : Int32) ≤ a29.2.1 → K26 (a29.1, a29.2.2)) ∧ (¬ (12 : Int32) ≤ a29.2.1 → (w_X8_foldEvening a29.1 a29.2.1 a29.2.2 (fun r30 σ31 =>
                    bk_lt (α := Int64) r30 fun v32 =>
                    bk_lt (α := Int32) (a29.2.1 + (1 : Int32)) fun v33 =>
                    K28 (v32, v33, σ31))))) (a19, v25, a6.2))) (fun K18 =>
              bk_loop (α := Int64 × Int32) (fun K20 a21 =>
                ((a6.2 22 0) ≤ a21.2 → K18 a21.1) ∧ (¬ (a6.2 22 0) ≤ a21.2 → (w_X8_foldHook a21.1 a21.2 a6.2 (fun r22 =>
                  bk_lt (α := Int64) r22 fun v23 =>
                  bk_lt (α := Int32) (a21.2 + (1 : Int32)) fun v24 =>
                  K20 (v23, v24))))) (v16, v17))))) (fun K5 =>
        bk_loop (α := Int64 × Int32 × bk_S) (fun K7 a8 =>
          ((7 : Int32) < a8.2.1 → K5 (a8.1, a8.2.2)) ∧ (¬ (7 : Int32) < a8.2.1 → (w_X8_count a8.2.1 a8.2.2 (fun r9 σ10 =>
            bk_lt (α := Int64) (((31 : Int64) * a8.1) + (Int32.toInt64 r9)) fun v11 =>
            bk_lt (α := Int32) (a8.2.1 + (1 : Int32)) fun v12 =>
            K7 (v11, v12, σ10))))) (v3, v4, σ2))))
set_option maxRecDepth 20000 in
theorem m_X8_digest (w : bk_W) {σ : bk_S} {post : Int64 → bk_S → Prop} : w_X8_digest σ post → bk_Ml lyC w yX8_digest cX8_digest 4 6 147 [.ref (bk_r w 0)] σ post := by
  intro h0
  refine bk_ml (by decide) (Nat.le_of_ble_eq_true rfl) (fun X hX hret => ?_)
  revert h0
  unfold w_X8_digest
  show _ → bk_At lyC w X 0 [(0, .ref (bk_r w 0))] [] σ
  refine bk_aload_n hX 0 dX8_digest_0 rfl ?_
  refine bk_callV_v hX [] [] yk_X8_refresh yv_X8_refresh lk_X8_121 rfl rfl kc_0 rfl rfl (Nat.le_of_ble_eq_true rfl) ⟨Nat.le_of_ble_eq_true rfl, Nat.le_of_ble_eq_true rfl⟩ dX8_digest_1 (m_X8_refresh w) (fun σ1 => ?_)
  refine bk_aload_n hX 0 dX8_digest_4 rfl ?_
  refine bk_callV_v hX [] [] yk_X8_refreshEnds yv_X8_refreshEnds lk_X8_231 rfl rfl kc_0 rfl rfl (Nat.le_of_ble_eq_true rfl) ⟨Nat.le_of_ble_eq_true rfl, Nat.le_of_ble_eq_true rfl⟩ dX8_digest_5 (m_X8_refreshEnds w) (fun σ2 => ?_)
  refine bk_ldc2 hX kn_X8_308 dX8_digest_8 ?_
  refine bk_lstore_n hX (fun v3 => [(1, .long v3), (0, .ref (bk_r w 0))]) dX8_digest_11 (Nat.le_of_ble_eq_true rfl) (fun _ => rfl) (fun v3 => ?_)
  refine bk_iconst hX bk_ci_0 dX8_digest_12 ?_
  refine bk_istore_n hX (fun v4 => [(3, .int v4), (1, .long v3), (0, .ref (bk_r w 0))]) dX8_digest_13 (Nat.le_of_ble_eq_true rfl) (fun _ => rfl) (fun v4 => ?_)
  refine bk_r_jn (α := Int64 × bk_S) (J := fun a => bk_At lyC w X 39 [(1, .long a.1), (0, .ref (bk_r w 0))] [] a.2) (fun a6 => ?_) (fun K5 hK5 => ?_)
  · refine bk_ldc2 hX kn_X8_310 dX8_digest_39 ?_
    refine bk_lload_n hX 0 dX8_digest_42 rfl ?_
    refine bk_lmul hX dX8_digest_43 ?_
    refine bk_aload_n hX 1 dX8_digest_44 rfl ?_
    refine bk_iconst hX bk_ci_0 dX8_digest_45 ?_
    refine bk_callV_i hX [.int (0 : Int32)] [.long ((31 : Int64) * a6.1)] yk_X8_fault yv_X8_fault lk_X8_315 rfl rfl kc_0 rfl rfl (Nat.le_of_ble_eq_true rfl) ⟨Nat.le_of_ble_eq_true rfl, Nat.le_of_ble_eq_true rfl⟩ dX8_digest_46 (m_X8_fault w) (bk_pu (fun r13 => ?_))
    refine bk_i2l hX dX8_digest_49 ?_
    refine bk_ladd hX dX8_digest_50 ?_
    refine bk_lstore_n hX (fun v14 => [(1, .long v14), (0, .ref (bk_r w 0))]) dX8_digest_51 (Nat.le_of_ble_eq_true rfl) (fun _ => rfl) (fun v14 => ?_)
    refine bk_ldc2 hX kn_X8_310 dX8_digest_52 ?_
    refine bk_lload_n hX 0 dX8_digest_55 rfl ?_
    refine bk_lmul hX dX8_digest_56 ?_
    refine bk_aload_n hX 1 dX8_digest_57 rfl ?_
    refine bk_iconst hX bk_ci_1 dX8_digest_58 ?_
    refine bk_callV_i hX [.int (1 : Int32)] [.long ((31 : Int64) * v14)] yk_X8_fault yv_X8_fault lk_X8_315 rfl rfl kc_0 rfl rfl (Nat.le_of_ble_eq_true rfl) ⟨Nat.le_of_ble_eq_true rfl, Nat.le_of_ble_eq_true rfl⟩ dX8_digest_59 (m_X8_fault w) (bk_pu (fun r15 => ?_))
    refine bk_i2l hX dX8_digest_62 ?_
    refine bk_ladd hX dX8_digest_63 ?_
    refine bk_lstore_n hX (fun v16 => [(1, .long v16), (0, .ref (bk_r w 0))]) dX8_digest_64 (Nat.le_of_ble_eq_true rfl) (fun _ => rfl) (fun v16 => ?_)
    refine bk_iconst hX bk_ci_0 dX8_digest_65 ?_
    refine bk_istore_n hX (fun v17 => [(3, .int v17), (1, .long v16), (0, .ref (bk_r w 0))]) dX8_digest_66 (Nat.le_of_ble_eq_true rfl) (fun _ => rfl) (fun v17 => ?_)
    refine bk_r_jn (α := Int64) (J := fun a => bk_At lyC w X 91 [(1, .long a), (0, .ref (bk_r w 0))] [] a6.2) (fun a19 => ?_) (fun K18 hK18 => ?_)
    · refine bk_iconst hX bk_ci_0 dX8_digest_91 ?_
      refine bk_istore_n hX (fun v25 => [(3, .int v25), (1, .long a19), (0, .ref (bk_r w 0))]) dX8_digest_92 (Nat.le_of_ble_eq_true rfl) (fun _ => rfl) (fun v25 => ?_)
      refine bk_r_jn (α := Int64 × bk_S) (J := fun a => bk_At lyC w X 112 [(1, .long a.1), (0, .ref (bk_r w 0))] [] a.2) (fun a27 => ?_) (fun K26 hK26 => ?_)
      · refine bk_iconst hX bk_ci_0 dX8_digest_112 ?_
        refine bk_istore_n hX (fun v34 => [(3, .int v34), (1, .long a27.1), (0, .ref (bk_r w 0))]) dX8_digest_113 (Nat.le_of_ble_eq_true rfl) (fun _ => rfl) (fun v34 => ?_)
        refine bk_r_jn (α := Int64 × bk_S) (J := fun a => bk_At lyC w X 138 [(1, .long a.1), (0, .ref (bk_r w 0))] [] a.2) (fun a36 => ?_) (fun K35 hK35 => ?_)
        · refine bk_aload_n hX 1 dX8_digest_138 rfl ?_
          refine bk_lload_n hX 0 dX8_digest_139 rfl ?_
          refine bk_callV_l hX [.long a36.1] [] yk_X8_foldSums yv_X8_foldSums lk_X8_328 rfl rfl kc_0 rfl rfl (Nat.le_of_ble_eq_true rfl) ⟨Nat.le_of_ble_eq_true rfl, Nat.le_of_ble_eq_true rfl⟩ dX8_digest_140 (m_X8_foldSums w) (bk_pu (fun r43 => ?_))
          refine bk_lstore_n hX (fun v44 => [(1, .long v44), (0, .ref (bk_r w 0))]) dX8_digest_143 (Nat.le_of_ble_eq_true rfl) (fun _ => rfl) (fun v44 => ?_)
          refine bk_aload_n hX 1 dX8_digest_144 rfl ?_
          refine bk_lload_n hX 0 dX8_digest_145 rfl ?_
          refine bk_callV_l hX [.long v44] [] yk_X8_foldPlans yv_X8_foldPlans lk_X8_332 rfl rfl kc_0 rfl rfl (Nat.le_of_ble_eq_true rfl) ⟨Nat.le_of_ble_eq_true rfl, Nat.le_of_ble_eq_true rfl⟩ dX8_digest_146 (m_X8_foldPlans w) (fun r45 σ46 => ?_)
          exact fun z => hret _ _ _ _ dX8_digest_149 z
        · refine bk_pick [0, 1, 2] rfl (bk_r_loop (α := Int64 × Int32 × bk_S) (J := fun a => bk_At lyC w X 114 [(3, .int a.2.1), (1, .long a.1), (0, .ref (bk_r w 0))] [] a.2.2) (a27.1, v34, a27.2) (fun K37 hK37 a38 => ?_))
          refine bk_iload_n hX 0 dX8_digest_114 rfl ?_
          refine bk_aload_n hX 2 dX8_digest_115 rfl ?_
          refine bk_getr hX kc_0 rfl fl_X8_40 dX8_digest_116 ?_
          refine bk_geti hX k_set_22.1 rfl fl_X8_305 dX8_digest_119 ?_
          refine bk_icmp_ge hX 138 dX8_digest_122 rfl ?_ ?_
          · exact bk_pick [1, 2] rfl (hK35 (a38.1, a38.2.2))
          · refine bk_aload_n hX 2 dX8_digest_125 rfl ?_
            refine bk_lload_n hX 1 dX8_digest_126 rfl ?_
            refine bk_iload_n hX 0 dX8_digest_127 rfl ?_
            refine bk_callV_l hX [.long a38.1, .int a38.2.1] [] yk_X8_foldThing yv_X8_foldThing lk_X8_325 rfl rfl kc_0 rfl rfl (Nat.le_of_ble_eq_true rfl) ⟨Nat.le_of_ble_eq_true rfl, Nat.le_of_ble_eq_true rfl⟩ dX8_digest_128 (m_X8_foldThing w) (fun r39 σ40 => ?_)
            refine bk_lstore_n hX (fun v41 => [(1, .long v41), (3, .int a38.2.1), (0, .ref (bk_r w 0))]) dX8_digest_131 (Nat.le_of_ble_eq_true rfl) (fun _ => rfl) (fun v41 => ?_)
            refine bk_iinc hX 1 (fun v42 => [(3, .int v42), (1, .long v41), (0, .ref (bk_r w 0))]) dX8_digest_132 rfl bk_ci_1 (Nat.le_of_ble_eq_true rfl) (fun _ => rfl) (fun v42 => ?_)
            refine bk_goto hX 114 dX8_digest_135 rfl ?_
            exact bk_pick [0, 1, 2] rfl (hK37 (v41, v42, σ40))
      · refine bk_pick [0, 1, 2] rfl (bk_r_loop (α := Int64 × Int32 × bk_S) (J := fun a => bk_At lyC w X 93 [(3, .int a.2.1), (1, .long a.1), (0, .ref (bk_r w 0))] [] a.2.2) (a19, v25, a6.2) (fun K28 hK28 a29 => ?_))
        refine bk_iload_n hX 0 dX8_digest_93 rfl ?_
        refine bk_bipush hX bk_cb_12 dX8_digest_94 ?_
        refine bk_icmp_ge hX 112 dX8_digest_96 rfl ?_ ?_
        · exact bk_pick [1, 2] rfl (hK26 (a29.1, a29.2.2))
        · refine bk_aload_n hX 2 dX8_digest_99 rfl ?_
          refine bk_lload_n hX 1 dX8_digest_100 rfl ?_
          refine bk_iload_n hX 0 dX8_digest_101 rfl ?_
          refine bk_callV_l hX [.long a29.1, .int a29.2.1] [] yk_X8_foldEvening yv_X8_foldEvening lk_X8_322 rfl rfl kc_0 rfl rfl (Nat.le_of_ble_eq_true rfl) ⟨Nat.le_of_ble_eq_true rfl, Nat.le_of_ble_eq_true rfl⟩ dX8_digest_102 (m_X8_foldEvening w) (fun r30 σ31 => ?_)
          refine bk_lstore_n hX (fun v32 => [(1, .long v32), (3, .int a29.2.1), (0, .ref (bk_r w 0))]) dX8_digest_105 (Nat.le_of_ble_eq_true rfl) (fun _ => rfl) (fun v32 => ?_)
          refine bk_iinc hX 1 (fun v33 => [(3, .int v33), (1, .long v32), (0, .ref (bk_r w 0))]) dX8_digest_106 rfl bk_ci_1 (Nat.le_of_ble_eq_true rfl) (fun _ => rfl) (fun v33 => ?_)
          refine bk_goto hX 93 dX8_digest_109 rfl ?_
          exact bk_pick [0, 1, 2] rfl (hK28 (v32, v33, σ31))
    · refine bk_pick [0, 1, 2] rfl (bk_r_loop (α := Int64 × Int32) (J := fun a => bk_At lyC w X 67 [(3, .int a.2), (1, .long a.1), (0, .ref (bk_r w 0))] [] a6.2) (v16, v17) (fun K20 hK20 a21 => ?_))
      refine bk_iload_n hX 0 dX8_digest_67 rfl ?_
      refine bk_aload_n hX 2 dX8_digest_68 rfl ?_
      refine bk_getr hX kc_0 rfl fl_X8_40 dX8_digest_69 ?_
      refine bk_geti hX k_set_22.1 rfl fl_X8_297 dX8_digest_72 ?_
      refine bk_icmp_ge hX 91 dX8_digest_75 rfl ?_ ?_
      · exact bk_pick [1, 2] rfl (hK18 a21.1)
      · refine bk_aload_n hX 2 dX8_digest_78 rfl ?_
        refine bk_lload_n hX 1 dX8_digest_79 rfl ?_
        refine bk_iload_n hX 0 dX8_digest_80 rfl ?_
        refine bk_callV_l hX [.long a21.1, .int a21.2] [] yk_X8_foldHook yv_X8_foldHook lk_X8_318 rfl rfl kc_0 rfl rfl (Nat.le_of_ble_eq_true rfl) ⟨Nat.le_of_ble_eq_true rfl, Nat.le_of_ble_eq_true rfl⟩ dX8_digest_81 (m_X8_foldHook w) (bk_pu (fun r22 => ?_))
        refine bk_lstore_n hX (fun v23 => [(1, .long v23), (3, .int a21.2), (0, .ref (bk_r w 0))]) dX8_digest_84 (Nat.le_of_ble_eq_true rfl) (fun _ => rfl) (fun v23 => ?_)
        refine bk_iinc hX 1 (fun v24 => [(3, .int v24), (1, .long v23), (0, .ref (bk_r w 0))]) dX8_digest_85 rfl bk_ci_1 (Nat.le_of_ble_eq_true rfl) (fun _ => rfl) (fun v24 => ?_)
        refine bk_goto hX 67 dX8_digest_88 rfl ?_
        exact bk_pick [0, 1, 2] rfl (hK20 (v23, v24))
  · refine bk_pick [0, 1, 2] rfl (bk_r_loop (α := Int64 × Int32 × bk_S) (J := fun a => bk_At lyC w X 14 [(3, .int a.2.1), (1, .long a.1), (0, .ref (bk_r w 0))] [] a.2.2) (v3, v4, σ2) (fun K7 hK7 a8 => ?_))
    refine bk_iload_n hX 0 dX8_digest_14 rfl ?_
    refine bk_bipush hX bk_cb_7 dX8_digest_15 ?_
    refine bk_icmp_gt hX 39 dX8_digest_17 rfl ?_ ?_
    · exact bk_pick [1, 2] rfl (hK5 (a8.1, a8.2.2))
    · refine bk_ldc2 hX kn_X8_310 dX8_digest_20 ?_
      refine bk_lload_n hX 1 dX8_digest_23 rfl ?_
      refine bk_lmul hX dX8_digest_24 ?_
      refine bk_aload_n hX 2 dX8_digest_25 rfl ?_
      refine bk_iload_n hX 0 dX8_digest_26 rfl ?_
      refine bk_callV_i hX [.int a8.2.1] [.long ((31 : Int64) * a8.1)] yk_X8_count yv_X8_count lk_X8_312 rfl rfl kc_0 rfl rfl (Nat.le_of_ble_eq_true rfl) ⟨Nat.le_of_ble_eq_true rfl, Nat.le_of_ble_eq_true rfl⟩ dX8_digest_27 (m_X8_count w) (fun r9 σ10 => ?_)
      refine bk_i2l hX dX8_digest_30 ?_
      refine bk_ladd hX dX8_digest_31 ?_
      refine bk_lstore_n hX (fun v11 => [(1, .long v11), (3, .int a8.2.1), (0, .ref (bk_r w 0))]) dX8_digest_32 (Nat.le_of_ble_eq_true rfl) (fun _ => rfl) (fun v11 => ?_)
      refine bk_iinc hX 1 (fun v12 => [(3, .int v12), (1, .long v11), (0, .ref (bk_r w 0))]) dX8_digest_33 rfl bk_ci_1 (Nat.le_of_ble_eq_true rfl) (fun _ => rfl) (fun v12 => ?_)
      refine bk_goto hX 14 dX8_digest_36 rfl ?_
      exact bk_pick [0, 1, 2] rfl (hK7 (v11, v12, σ10))
