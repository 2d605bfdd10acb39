def w_X0_clear (b : Nat) (σ : bk_S) (post : bk_S → Prop) : Prop :=
  bk_lt (α := bk_S) (bk_u σ b 0 (0 : Int32)) fun σ1 =>
  bk_lt (α := bk_S) (bk_u σ1 b 1 (-1 : Int32)) fun σ2 =>
  bk_lt (α := bk_S) (bk_u σ2 b 2 (-1 : Int32)) fun σ3 =>
  bk_lt (α := bk_S) (bk_u σ3 b 3 (-1 : Int32)) fun σ4 =>
  bk_lt (α := bk_S) (bk_u σ4 b 4 (-1 : Int32)) fun σ5 =>
  post σ5
set_option maxRecDepth 20000 in
theorem m_X0_clear (w : bk_W) {b : Nat} (hb : bk_cho b) {σ : bk_S} {post : bk_S → Prop} : w_X0_clear b σ post → bk_Mv lyC w yX0_clear cX0_clear 1 0 0 [.ref (bk_r w b)] σ post := by
  intro h0
  refine bk_mv (by decide) (Nat.le_of_ble_eq_true rfl) (fun X hX hret => ?_)
  revert h0
  unfold w_X0_clear
  show _ → bk_At lyC w X 0 [(0, .ref (bk_r w b))] [] σ
  refine bk_aload_n hX 0 dX0_clear_0 rfl ?_
  refine bk_iconst hX bk_ci_0 dX0_clear_1 ?_
  refine bk_putZ hX hb rfl fp_X0_9 rfl rfl dX0_clear_2 (fun σ1 => ?_)
  refine bk_aload_n hX 0 dX0_clear_5 rfl ?_
  refine bk_iconst hX bk_ci_m1 dX0_clear_6 ?_
  refine bk_putI hX hb rfl fp_X0_15 dX0_clear_7 (fun σ2 => ?_)
  refine bk_aload_n hX 0 dX0_clear_10 rfl ?_
  refine bk_iconst hX bk_ci_m1 dX0_clear_11 ?_
  refine bk_putI hX hb rfl fp_X0_19 dX0_clear_12 (fun σ3 => ?_)
  refine bk_aload_n hX 0 dX0_clear_15 rfl ?_
  refine bk_iconst hX bk_ci_m1 dX0_clear_16 ?_
  refine bk_putI hX hb rfl fp_X0_22 dX0_clear_17 (fun σ4 => ?_)
  refine bk_aload_n hX 0 dX0_clear_20 rfl ?_
  refine bk_iconst hX bk_ci_m1 dX0_clear_21 ?_
  refine bk_putI hX hb rfl fp_X0_25 dX0_clear_22 (fun σ5 => ?_)
  exact fun z => hret _ _ _ dX0_clear_25 z

def w_X0_offer (b : Nat) (x1 : Int32) (x2 : Int32) (x3 : Int32) (x4 : Int32) (σ : bk_S) (post : bk_S → Prop) : Prop :=
  bk_jn (α := Int32) (fun a2 =>
    bk_lt (α := Int32) a2 fun v7 =>
    bk_jn (α := Unit) (fun a9 =>
      bk_lt (α := bk_S) (bk_u σ b 0 (1 : Int32)) fun σ10 =>
      bk_lt (α := bk_S) (bk_u σ10 b 1 x1) fun σ11 =>
      bk_lt (α := bk_S) (bk_u σ11 b 2 x2) fun σ12 =>
      bk_lt (α := bk_S) (bk_u σ12 b 3 x3) fun σ13 =>
      bk_lt (α := bk_S) (bk_u σ13 b 4 x4) fun σ14 =>
      post σ14) (fun K8 =>
      ((σ b 0) = 0 → K8 ()) ∧ (¬ (σ b 0) = 0 → ((¬ v7 = 0 → K8 ()) ∧ (v7 = 0 → post σ))))) (fun K1 =>
    bk_jn (α := Unit) (fun a4 =>
      K1 (1 : Int32)) (fun K3 =>
      ((σ b 3) < x3 → K3 ()) ∧ (¬ (σ b 3) < x3 → (bk_jn (α := Unit) (fun a6 =>
        K1 (0 : Int32)) (fun K5 =>
        (¬ x3 = (σ b 3) → K5 ()) ∧ (x3 = (σ b 3) → ((x4 ≤ (σ b 4) → K5 ()) ∧ (¬ x4 ≤ (σ b 4) → K3 ()))))))))
set_option maxRecDepth 20000 in
theorem m_X0_offer (w : bk_W) {b : Nat} {x1 : Int32} {x2 : Int32} {x3 : Int32} {x4 : Int32} (hb : bk_cho b) {σ : bk_S} {post : bk_S → Prop} : w_X0_offer b x1 x2 x3 x4 σ post → bk_Mv lyC w yX0_offer cX0_offer 6 0 0 [.ref (bk_r w b), .int x1, .int x2, .int x3, .int x4] σ post := by
  intro h0
  refine bk_mv (by decide) (Nat.le_of_ble_eq_true rfl) (fun X hX hret => ?_)
  revert h0
  unfold w_X0_offer
  show _ → bk_At lyC w X 0 [(0, .ref (bk_r w b)), (1, .int x1), (2, .int x2), (3, .int x3), (4, .int x4)] [] σ
  refine bk_iload_n hX 3 dX0_offer_0 rfl ?_
  refine bk_aload_n hX 0 dX0_offer_1 rfl ?_
  refine bk_geti hX hb rfl fl_X0_22 dX0_offer_2 ?_
  refine bk_r_jn (α := Int32) (J := fun a => bk_At lyC w X 30 [(0, .ref (bk_r w b)), (1, .int x1), (2, .int x2), (3, .int x3), (4, .int x4)] [.int a] σ) (fun a2 => ?_) (fun K1 hK1 => ?_)
  · refine bk_istore hX (fun v7 => [(5, .int v7), (0, .ref (bk_r w b)), (1, .int x1), (2, .int x2), (3, .int x3), (4, .int x4)]) dX0_offer_30 (Nat.le_of_ble_eq_true rfl) (fun _ => rfl) (fun v7 => ?_)
    refine bk_aload_n hX 1 dX0_offer_32 rfl ?_
    refine bk_geti hX hb rfl fl_X0_9 dX0_offer_33 ?_
    refine bk_r_jn (α := Unit) (J := fun a => bk_At lyC w X 45 [(5, .int v7), (0, .ref (bk_r w b)), (1, .int x1), (2, .int x2), (3, .int x3), (4, .int x4)] [] σ) (fun a9 => ?_) (fun K8 hK8 => ?_)
    · refine bk_aload_n hX 1 dX0_offer_45 rfl ?_
      refine bk_iconst hX bk_ci_1 dX0_offer_46 ?_
      refine bk_putZ hX hb rfl fp_X0_9 rfl rfl dX0_offer_47 (fun σ10 => ?_)
      refine bk_aload_n hX 1 dX0_offer_50 rfl ?_
      refine bk_iload_n hX 2 dX0_offer_51 rfl ?_
      refine bk_putI hX hb rfl fp_X0_15 dX0_offer_52 (fun σ11 => ?_)
      refine bk_aload_n hX 1 dX0_offer_55 rfl ?_
      refine bk_iload_n hX 3 dX0_offer_56 rfl ?_
      refine bk_putI hX hb rfl fp_X0_19 dX0_offer_57 (fun σ12 => ?_)
      refine bk_aload_n hX 1 dX0_offer_60 rfl ?_
      refine bk_iload_n hX 4 dX0_offer_61 rfl ?_
      refine bk_putI hX hb rfl fp_X0_22 dX0_offer_62 (fun σ13 => ?_)
      refine bk_aload_n hX 1 dX0_offer_65 rfl ?_
      refine bk_iload hX 5 dX0_offer_66 rfl ?_
      refine bk_putI hX hb rfl fp_X0_25 dX0_offer_68 (fun σ14 => ?_)
      exact fun z => hret _ _ _ dX0_offer_71 z
    · refine bk_if_eq hX 45 dX0_offer_36 rfl ?_ ?_
      · exact bk_pick [0, 1, 2, 3, 4, 5] rfl (hK8 ())
      · refine bk_iload hX 0 dX0_offer_39 rfl ?_
        refine bk_if_ne hX 45 dX0_offer_41 rfl ?_ ?_
        · exact bk_pick [0, 1, 2, 3, 4, 5] rfl (hK8 ())
        · exact fun z => hret _ _ _ dX0_offer_44 z
  · refine bk_r_jn (α := Unit) (J := fun a => bk_At lyC w X 25 [(0, .ref (bk_r w b)), (1, .int x1), (2, .int x2), (3, .int x3), (4, .int x4)] [] σ) (fun a4 => ?_) (fun K3 hK3 => ?_)
    · refine bk_iconst hX bk_ci_1 dX0_offer_25 ?_
      refine bk_goto hX 30 dX0_offer_26 rfl ?_
      exact bk_pick [0, 1, 2, 3, 4] rfl (hK1 (1 : Int32))
    · refine bk_icmp_gt hX 25 dX0_offer_5 rfl ?_ ?_
      · exact bk_pick [0, 1, 2, 3, 4] rfl (hK3 ())
      · refine bk_iload_n hX 3 dX0_offer_8 rfl ?_
        refine bk_aload_n hX 0 dX0_offer_9 rfl ?_
        refine bk_geti hX hb rfl fl_X0_22 dX0_offer_10 ?_
        refine bk_r_jn (α := Unit) (J := fun a => bk_At lyC w X 29 [(0, .ref (bk_r w b)), (1, .int x1), (2, .int x2), (3, .int x3), (4, .int x4)] [] σ) (fun a6 => ?_) (fun K5 hK5 => ?_)
        · refine bk_iconst hX bk_ci_0 dX0_offer_29 ?_
          exact bk_pick [0, 1, 2, 3, 4] rfl (hK1 (0 : Int32))
        · refine bk_icmp_ne hX 29 dX0_offer_13 rfl ?_ ?_
          · exact bk_pick [0, 1, 2, 3, 4] rfl (hK5 ())
          · refine bk_iload hX 4 dX0_offer_16 rfl ?_
            refine bk_aload_n hX 0 dX0_offer_18 rfl ?_
            refine bk_geti hX hb rfl fl_X0_25 dX0_offer_19 ?_
            refine bk_icmp_le hX 29 dX0_offer_22 rfl ?_ ?_
            · exact bk_pick [0, 1, 2, 3, 4] rfl (hK5 ())
            · exact bk_pick [0, 1, 2, 3, 4] rfl (hK3 ())

def w_X0_leaveAnswer (b : Nat) (x1 : Int32) (σ : bk_S) (post : Int32 → Prop) : Prop :=
  (¬ x1 = 0 → ((¬ x1 = (1 : Int32) → post (σ b 4)) ∧ (x1 = (1 : Int32) → post (σ b 3)))) ∧ (x1 = 0 → post (σ b 1))
set_option maxRecDepth 20000 in
theorem m_X0_leaveAnswer (w : bk_W) {b : Nat} {x1 : Int32} (hb : bk_cho b) {σ : bk_S} {post : Int32 → Prop} : w_X0_leaveAnswer b x1 σ post → bk_Mi lyC w yX0_leaveAnswer cX0_leaveAnswer 2 .int 0 0 [.ref (bk_r w b), .int x1] σ (fun r σ1 => post r ∧ σ1 = σ) := by
  intro h0
  refine bk_mi (by decide) (Nat.le_of_ble_eq_true rfl) (fun X hX hret => ?_)
  revert h0
  unfold w_X0_leaveAnswer
  show _ → bk_At lyC w X 0 [(0, .ref (bk_r w b)), (1, .int x1)] [] σ
  refine bk_iload_n hX 1 dX0_leaveAnswer_0 rfl ?_
  refine bk_if_ne hX 9 dX0_leaveAnswer_1 rfl ?_ ?_
  · refine bk_iload_n hX 1 dX0_leaveAnswer_9 rfl ?_
    refine bk_iconst hX bk_ci_1 dX0_leaveAnswer_10 ?_
    refine bk_icmp_ne hX 21 dX0_leaveAnswer_11 rfl ?_ ?_
    · refine bk_aload_n hX 0 dX0_leaveAnswer_21 rfl ?_
      refine bk_geti hX hb rfl fl_X0_25 dX0_leaveAnswer_22 ?_
      exact fun z => hret _ _ _ _ dX0_leaveAnswer_25 rfl ⟨z, rfl⟩
    · refine bk_aload_n hX 0 dX0_leaveAnswer_14 rfl ?_
      refine bk_geti hX hb rfl fl_X0_22 dX0_leaveAnswer_15 ?_
      refine bk_goto hX 25 dX0_leaveAnswer_18 rfl ?_
      exact fun z => hret _ _ _ _ dX0_leaveAnswer_25 rfl ⟨z, rfl⟩
  · refine bk_aload_n hX 0 dX0_leaveAnswer_4 rfl ?_
    refine bk_geti hX hb rfl fl_X0_15 dX0_leaveAnswer_5 ?_
    exact fun z => hret _ _ _ _ dX0_leaveAnswer_8 rfl ⟨z, rfl⟩

def w_X0_swapAnswer (b : Nat) (x1 : Int32) (σ : bk_S) (post : Int32 → Prop) : Prop :=
  (¬ x1 = 0 → ((¬ x1 = (1 : Int32) → (w_X0_leaveAnswer b (x1 - (1 : Int32)) σ (fun r1 =>
    post r1))) ∧ (x1 = (1 : Int32) → post (σ b 2)))) ∧ (x1 = 0 → post (σ b 1))
set_option maxRecDepth 20000 in
theorem m_X0_swapAnswer (w : bk_W) {b : Nat} {x1 : Int32} (hb : bk_cho b) {σ : bk_S} {post : Int32 → Prop} : w_X0_swapAnswer b x1 σ post → bk_Mi lyC w yX0_swapAnswer cX0_swapAnswer 2 .int 1 21 [.ref (bk_r w b), .int x1] σ (fun r σ1 => post r ∧ σ1 = σ) := by
  intro h0
  refine bk_mi (by decide) (Nat.le_of_ble_eq_true rfl) (fun X hX hret => ?_)
  revert h0
  unfold w_X0_swapAnswer
  show _ → bk_At lyC w X 0 [(0, .ref (bk_r w b)), (1, .int x1)] [] σ
  refine bk_iload_n hX 1 dX0_swapAnswer_0 rfl ?_
  refine bk_if_ne hX 9 dX0_swapAnswer_1 rfl ?_ ?_
  · refine bk_iload_n hX 1 dX0_swapAnswer_9 rfl ?_
    refine bk_iconst hX bk_ci_1 dX0_swapAnswer_10 ?_
    refine bk_icmp_ne hX 21 dX0_swapAnswer_11 rfl ?_ ?_
    · refine bk_aload_n hX 0 dX0_swapAnswer_21 rfl ?_
      refine bk_iload_n hX 1 dX0_swapAnswer_22 rfl ?_
      refine bk_iconst hX bk_ci_1 dX0_swapAnswer_23 ?_
      refine bk_isub hX dX0_swapAnswer_24 ?_
      refine bk_callV_i hX [.int (x1 - (1 : Int32))] [] yk_X0_leaveAnswer yv_X0_leaveAnswer lk_X0_28 rfl rfl hb rfl rfl (Nat.le_of_ble_eq_true rfl) ⟨Nat.le_of_ble_eq_true rfl, Nat.le_of_ble_eq_true rfl⟩ dX0_swapAnswer_25 (m_X0_leaveAnswer w hb) (bk_pu (fun r1 => ?_))
      exact fun z => hret _ _ _ _ dX0_swapAnswer_28 rfl ⟨z, rfl⟩
    · refine bk_aload_n hX 0 dX0_swapAnswer_14 rfl ?_
      refine bk_geti hX hb rfl fl_X0_19 dX0_swapAnswer_15 ?_
      refine bk_goto hX 28 dX0_swapAnswer_18 rfl ?_
      exact fun z => hret _ _ _ _ dX0_swapAnswer_28 rfl ⟨z, rfl⟩
  · refine bk_aload_n hX 0 dX0_swapAnswer_4 rfl ?_
    refine bk_geti hX hb rfl fl_X0_15 dX0_swapAnswer_5 ?_
    exact fun z => hret _ _ _ _ dX0_swapAnswer_8 rfl ⟨z, rfl⟩

def w_X0_spareAnswer (b : Nat) (x1 : Int32) (σ : bk_S) (post : Int32 → Prop) : Prop :=
  (¬ x1 = 0 → ((¬ x1 = (1 : Int32) → ((¬ (σ b 0) = 0 → (bk_lt (α := Int32) (if (σ b 1) = (-1 : Int32) then (0 : Int32) else (1 : Int32)) fun a2 =>
  (¬ (σ b 2) = (-1 : Int32) → post (a2 + (1 : Int32))) ∧ ((σ b 2) = (-1 : Int32) → post (a2 + (0 : Int32))))) ∧ ((σ b 0) = 0 → post (-1 : Int32)))) ∧ (x1 = (1 : Int32) → post (σ b 2)))) ∧ (x1 = 0 → post (σ b 1))
set_option maxRecDepth 20000 in
theorem m_X0_spareAnswer (w : bk_W) {b : Nat} {x1 : Int32} (hb : bk_cho b) {σ : bk_S} {post : Int32 → Prop} : w_X0_spareAnswer b x1 σ post → bk_Mi lyC w yX0_spareAnswer cX0_spareAnswer 2 .int 0 0 [.ref (bk_r w b), .int x1] σ (fun r σ1 => post r ∧ σ1 = σ) := by
  intro h0
  refine bk_mi (by decide) (Nat.le_of_ble_eq_true rfl) (fun X hX hret => ?_)
  revert h0
  unfold w_X0_spareAnswer
  show _ → bk_At lyC w X 0 [(0, .ref (bk_r w b)), (1, .int x1)] [] σ
  refine bk_iload_n hX 1 dX0_spareAnswer_0 rfl ?_
  refine bk_if_ne hX 9 dX0_spareAnswer_1 rfl ?_ ?_
  · refine bk_iload_n hX 1 dX0_spareAnswer_9 rfl ?_
    refine bk_iconst hX bk_ci_1 dX0_spareAnswer_10 ?_
    refine bk_icmp_ne hX 19 dX0_spareAnswer_11 rfl ?_ ?_
    · refine bk_aload_n hX 0 dX0_spareAnswer_19 rfl ?_
      refine bk_geti hX hb rfl fl_X0_9 dX0_spareAnswer_20 ?_
      refine bk_if_ne hX 28 dX0_spareAnswer_23 rfl ?_ ?_
      · refine bk_aload_n hX 0 dX0_spareAnswer_28 rfl ?_
        refine bk_geti hX hb rfl fl_X0_15 dX0_spareAnswer_29 ?_
        refine bk_iconst hX bk_ci_m1 dX0_spareAnswer_32 ?_
        refine bk_r_if (α := Int32) (F := fun K1 => (¬ (σ b 1) = (-1 : Int32) → K1 (1 : Int32)) ∧ ((σ b 1) = (-1 : Int32) → K1 (0 : Int32))) (fun K1 z => ⟨fun h0 => (bk_neg (K := K1) h0 z), fun h0 => (bk_pos (K := K1) h0 z)⟩) (J := fun a => bk_At lyC w X 41 [(0, .ref (bk_r w b)), (1, .int x1)] [.int a] σ) (fun a2 => ?_) (fun K1 hK1 => ?_)
        · refine bk_aload_n hX 0 dX0_spareAnswer_41 rfl ?_
          refine bk_geti hX hb rfl fl_X0_19 dX0_spareAnswer_42 ?_
          refine bk_iconst hX bk_ci_m1 dX0_spareAnswer_45 ?_
          refine bk_icmp_ne hX 53 dX0_spareAnswer_46 rfl ?_ ?_
          · refine bk_iconst hX bk_ci_1 dX0_spareAnswer_53 ?_
            refine bk_iadd hX dX0_spareAnswer_54 ?_
            exact fun z => hret _ _ _ _ dX0_spareAnswer_55 rfl ⟨z, rfl⟩
          · refine bk_iconst hX bk_ci_0 dX0_spareAnswer_49 ?_
            refine bk_goto hX 54 dX0_spareAnswer_50 rfl ?_
            refine bk_iadd hX dX0_spareAnswer_54 ?_
            exact fun z => hret _ _ _ _ dX0_spareAnswer_55 rfl ⟨z, rfl⟩
        · refine bk_icmp_ne hX 40 dX0_spareAnswer_33 rfl ?_ ?_
          · refine bk_iconst hX bk_ci_1 dX0_spareAnswer_40 ?_
            exact bk_pick [0, 1] rfl (hK1 (1 : Int32))
          · refine bk_iconst hX bk_ci_0 dX0_spareAnswer_36 ?_
            refine bk_goto hX 41 dX0_spareAnswer_37 rfl ?_
            exact bk_pick [0, 1] rfl (hK1 (0 : Int32))
      · refine bk_iconst hX bk_ci_m1 dX0_spareAnswer_26 ?_
        exact fun z => hret _ _ _ _ dX0_spareAnswer_27 rfl ⟨z, rfl⟩
    · refine bk_aload_n hX 0 dX0_spareAnswer_14 rfl ?_
      refine bk_geti hX hb rfl fl_X0_19 dX0_spareAnswer_15 ?_
      exact fun z => hret _ _ _ _ dX0_spareAnswer_18 rfl ⟨z, rfl⟩
  · refine bk_aload_n hX 0 dX0_spareAnswer_4 rfl ?_
    refine bk_geti hX hb rfl fl_X0_15 dX0_spareAnswer_5 ?_
    exact fun z => hret _ _ _ _ dX0_spareAnswer_8 rfl ⟨z, rfl⟩

def w_J_fill (q0 : Nat) (n0 : Nat) (x1 : Int32) (σ : bk_S) (post : bk_S → Prop) : Prop :=
  bk_lt (α := Int32) (0 : Int32) fun v1 =>
  bk_lt (α := Int32) (Int32.ofNat n0) fun v2 =>
  bk_loop (α := Int32 × bk_S) (fun K3 a4 =>
    (v2 ≤ a4.1 → post a4.2) ∧ (¬ v2 ≤ a4.1 → (vp_in a4.1 n0 ∧ bk_lt (α := bk_S) (bk_u a4.2 q0 (Int32.toNatClampNeg a4.1) x1) fun σ5 =>
    bk_lt (α := Int32) (a4.1 + (1 : Int32)) fun v6 =>
    K3 (v6, σ5)))) (v1, σ)
set_option maxRecDepth 20000 in
theorem m_J_fill (w : bk_W) {q0 : Nat} {n0 : Nat} {x1 : Int32} (hq0 : bk_is lyC q0 (.inl (0, n0))) {σ : bk_S} {post : bk_S → Prop} : w_J_fill q0 n0 x1 σ post → bk_Mv lyC w yJ_fill cJ_fill 4 0 0 [.ref (bk_r w q0), .int x1] σ post := by
  intro h0
  refine bk_mv (by decide) (Nat.le_of_ble_eq_true rfl) (fun X hX hret => ?_)
  revert h0
  unfold w_J_fill
  show _ → bk_At lyC w X 0 [(0, .ref (bk_r w q0)), (1, .int x1)] [] σ
  refine bk_iconst hX bk_ci_0 dJ_fill_0 ?_
  refine bk_istore_n hX (fun v1 => [(2, .int v1), (0, .ref (bk_r w q0)), (1, .int x1)]) dJ_fill_1 (Nat.le_of_ble_eq_true rfl) (fun _ => rfl) (fun v1 => ?_)
  refine bk_aload_n hX 1 dJ_fill_2 rfl ?_
  refine bk_alen hX hq0 (Nat.le_of_ble_eq_true rfl) rfl dJ_fill_3 ?_
  refine bk_istore_n hX (fun v2 => [(3, .int v2), (2, .int v1), (0, .ref (bk_r w q0)), (1, .int x1)]) dJ_fill_4 (Nat.le_of_ble_eq_true rfl) (fun _ => rfl) (fun v2 => ?_)
  refine bk_pick [0, 1, 2, 3] rfl (bk_r_loop (α := Int32 × bk_S) (J := fun a => bk_At lyC w X 5 [(3, .int v2), (2, .int a.1), (0, .ref (bk_r w q0)), (1, .int x1)] [] a.2) (v1, σ) (fun K3 hK3 a4 => ?_))
  refine bk_iload_n hX 1 dJ_fill_5 rfl ?_
  refine bk_iload_n hX 0 dJ_fill_6 rfl ?_
  refine bk_icmp_ge hX 20 dJ_fill_7 rfl ?_ ?_
  · exact fun z => hret _ _ _ dJ_fill_20 z
  · refine bk_aload_n hX 2 dJ_fill_10 rfl ?_
    refine bk_iload_n hX 1 dJ_fill_11 rfl ?_
    refine bk_iload_n hX 3 dJ_fill_12 rfl ?_
    refine bk_iastore hX hq0 dJ_fill_13 (fun σ5 => ?_)
    refine bk_iinc hX 1 (fun v6 => [(2, .int v6), (3, .int v2), (0, .ref (bk_r w q0)), (1, .int x1)]) dJ_fill_14 rfl bk_ci_1 (Nat.le_of_ble_eq_true rfl) (fun _ => rfl) (fun v6 => ?_)
    refine bk_goto hX 5 dJ_fill_17 rfl ?_
    exact bk_pick [1, 0, 2, 3] rfl (hK3 (v6, σ5))

def w_X8_sumOf (q0 : Nat) (n0 : Nat) (σ : bk_S) (post : Int32 → Prop) : Prop :=
  bk_lt (α := Int32) (0 : Int32) fun v1 =>
  bk_lt (α := Int32) (Int32.ofNat n0) fun v2 =>
  bk_lt (α := Int32) (0 : Int32) fun v3 =>
  bk_loop (α := Int32 × Int32) (fun K4 a5 =>
    (v2 ≤ a5.2 → post a5.1) ∧ (¬ v2 ≤ a5.2 → (vp_in a5.2 n0 ∧ bk_lt (α := Int32) (σ q0 (Int32.toNatClampNeg a5.2)) fun v6 =>
    bk_lt (α := Int32) (a5.1 + v6) fun v7 =>
    bk_lt (α := Int32) (a5.2 + (1 : Int32)) fun v8 =>
    K4 (v7, v8)))) (v1, v3)
set_option maxRecDepth 20000 in
theorem m_X8_sumOf (w : bk_W) {q0 : Nat} {n0 : Nat} (hq0 : bk_is lyC q0 (.inl (0, n0))) {σ : bk_S} {post : Int32 → Prop} : w_X8_sumOf q0 n0 σ post → bk_Mi lyC w yX8_sumOf cX8_sumOf 6 .int 0 0 [.ref (bk_r w q0)] σ (fun r σ1 => post r ∧ σ1 = σ) := by
  intro h0
  refine bk_mi (by decide) (Nat.le_of_ble_eq_true rfl) (fun X hX hret => ?_)
  revert h0
  unfold w_X8_sumOf
  show _ → bk_At lyC w X 0 [(0, .ref (bk_r w q0))] [] σ
  refine bk_iconst hX bk_ci_0 dX8_sumOf_0 ?_
  refine bk_istore_n hX (fun v1 => [(1, .int v1), (0, .ref (bk_r w q0))]) dX8_sumOf_1 (Nat.le_of_ble_eq_true rfl) (fun _ => rfl) (fun v1 => ?_)
  refine bk_aload_n hX 1 dX8_sumOf_2 rfl ?_
  refine bk_astore_n hX [(2, .ref (bk_r w q0)), (1, .int v1), (0, .ref (bk_r w q0))] dX8_sumOf_3 (Nat.le_of_ble_eq_true rfl) rfl ?_
  refine bk_aload_n hX 0 dX8_sumOf_4 rfl ?_
  refine bk_alen hX hq0 (Nat.le_of_ble_eq_true rfl) rfl dX8_sumOf_5 ?_
  refine bk_istore_n hX (fun v2 => [(3, .int v2), (2, .ref (bk_r w q0)), (1, .int v1), (0, .ref (bk_r w q0))]) dX8_sumOf_6 (Nat.le_of_ble_eq_true rfl) (fun _ => rfl) (fun v2 => ?_)
  refine bk_iconst hX bk_ci_0 dX8_sumOf_7 ?_
  refine bk_istore hX (fun v3 => [(4, .int v3), (3, .int v2), (2, .ref (bk_r w q0)), (1, .int v1), (0, .ref (bk_r w q0))]) dX8_sumOf_8 (Nat.le_of_ble_eq_true rfl) (fun _ => rfl) (fun v3 => ?_)
  refine bk_pick [0, 1, 2, 3, 4] rfl (bk_r_loop (α := Int32 × Int32) (J := fun a => bk_At lyC w X 10 [(4, .int a.2), (3, .int v2), (2, .ref (bk_r w q0)), (1, .int a.1), (0, .ref (bk_r w q0))] [] σ) (v1, v3) (fun K4 hK4 a5 => ?_))
  refine bk_iload hX 0 dX8_sumOf_10 rfl ?_
  refine bk_iload_n hX 1 dX8_sumOf_12 rfl ?_
  refine bk_icmp_ge hX 33 dX8_sumOf_13 rfl ?_ ?_
  · refine bk_iload_n hX 3 dX8_sumOf_33 rfl ?_
    exact fun z => hret _ _ _ _ dX8_sumOf_34 rfl ⟨z, rfl⟩
  · refine bk_aload_n hX 2 dX8_sumOf_16 rfl ?_
    refine bk_iload hX 0 dX8_sumOf_17 rfl ?_
    refine bk_iaload hX hq0 dX8_sumOf_19 ?_
    refine bk_istore hX (fun v6 => [(5, .int v6), (4, .int a5.2), (3, .int v2), (2, .ref (bk_r w q0)), (1, .int a5.1), (0, .ref (bk_r w q0))]) dX8_sumOf_20 (Nat.le_of_ble_eq_true rfl) (fun _ => rfl) (fun v6 => ?_)
    refine bk_iload_n hX 4 dX8_sumOf_22 rfl ?_
    refine bk_iload hX 0 dX8_sumOf_23 rfl ?_
    refine bk_iadd hX dX8_sumOf_25 ?_
    refine bk_istore_n hX (fun v7 => [(1, .int v7), (5, .int v6), (4, .int a5.2), (3, .int v2), (2, .ref (bk_r w q0)), (0, .ref (bk_r w q0))]) dX8_sumOf_26 (Nat.le_of_ble_eq_true rfl) (fun _ => rfl) (fun v7 => ?_)
    refine bk_iinc hX 2 (fun v8 => [(4, .int v8), (1, .int v7), (5, .int v6), (3, .int v2), (2, .ref (bk_r w q0)), (0, .ref (bk_r w q0))]) dX8_sumOf_27 rfl bk_ci_1 (Nat.le_of_ble_eq_true rfl) (fun _ => rfl) (fun v8 => ?_)
    refine bk_goto hX 10 dX8_sumOf_30 rfl ?_
    exact bk_pick [0, 3, 4, 1, 5] rfl (hK4 (v7, v8))

def w_X2_likenessOf (b : Nat) (x1 : Int32) (x2 : Int32) (σ : bk_S) (post : Int32 → Prop) : Prop :=
  bk_lt (α := Int32) (0 : Int32) fun v1 =>
  vp_in ((x1 * (12 : Int32)) + x2) 120 ∧ bk_lt (α := Int32) (σ (b + 1) (Int32.toNatClampNeg ((x1 * (12 : Int32)) + x2))) fun v2 =>
  bk_lt (α := Int32) (1 : Int32) fun v3 =>
  bk_loop (α := Int32 × Int32) (fun K4 a5 =>
    ((9 : Int32) < a5.2 → post a5.1) ∧ (¬ (9 : Int32) < a5.2 → ((¬ (((σ b 0) >>> (a5.2 &&& 31)) &&& (1 : Int32)) = (1 : Int32) → (bk_lt (α := Int32) (a5.2 + (1 : Int32)) fun v6 =>
    K4 (a5.1, v6))) ∧ ((((σ b 0) >>> (a5.2 &&& 31)) &&& (1 : Int32)) = (1 : Int32) → (vp_in ((a5.2 * (12 : Int32)) + x2) 120 ∧ (¬ (σ (b + 1) (Int32.toNatClampNeg ((a5.2 * (12 : Int32)) + x2))) = v2 → (bk_lt (α := Int32) (a5.2 + (1 : Int32)) fun v7 =>
    K4 (a5.1, v7))) ∧ ((σ (b + 1) (Int32.toNatClampNeg ((a5.2 * (12 : Int32)) + x2))) = v2 → (bk_lt (α := Int32) (a5.1 + (1 : Int32)) fun v8 =>
    bk_lt (α := Int32) (a5.2 + (1 : Int32)) fun v9 =>
    K4 (v8, v9)))))))) (v1, v3)
set_option maxRecDepth 20000 in
theorem m_X2_likenessOf (w : bk_W) {b : Nat} {x1 : Int32} {x2 : Int32} (hb : bk_hea b) {σ : bk_S} {post : Int32 → Prop} : w_X2_likenessOf b x1 x2 σ post → bk_Mi lyC w yX2_likenessOf cX2_likenessOf 6 .int 0 0 [.ref (bk_r w b), .int x1, .int x2] σ (fun r σ1 => post r ∧ σ1 = σ) := by
  intro h0
  refine bk_mi (by decide) (Nat.le_of_ble_eq_true rfl) (fun X hX hret => ?_)
  revert h0
  unfold w_X2_likenessOf
  show _ → bk_At lyC w X 0 [(0, .ref (bk_r w b)), (1, .int x1), (2, .int x2)] [] σ
  refine bk_iconst hX bk_ci_0 dX2_likenessOf_0 ?_
  refine bk_istore_n hX (fun v1 => [(3, .int v1), (0, .ref (bk_r w b)), (1, .int x1), (2, .int x2)]) dX2_likenessOf_1 (Nat.le_of_ble_eq_true rfl) (fun _ => rfl) (fun v1 => ?_)
  refine bk_aload_n hX 1 dX2_likenessOf_2 rfl ?_
  refine bk_getr hX hb.1 rfl fl_X2_15 dX2_likenessOf_3 ?_
  refine bk_iload_n hX 2 dX2_likenessOf_6 rfl ?_
  refine bk_bipush hX bk_cb_12 dX2_likenessOf_7 ?_
  refine bk_imul hX dX2_likenessOf_9 ?_
  refine bk_iload_n hX 3 dX2_likenessOf_10 rfl ?_
  refine bk_iadd hX dX2_likenessOf_11 ?_
  refine bk_iaload hX hb.2 dX2_likenessOf_12 ?_
  refine bk_istore hX (fun v2 => [(4, .int v2), (3, .int v1), (0, .ref (bk_r w b)), (1, .int x1), (2, .int x2)]) dX2_likenessOf_13 (Nat.le_of_ble_eq_true rfl) (fun _ => rfl) (fun v2 => ?_)
  refine bk_iconst hX bk_ci_1 dX2_likenessOf_15 ?_
  refine bk_istore hX (fun v3 => [(5, .int v3), (4, .int v2), (3, .int v1), (0, .ref (bk_r w b)), (1, .int x1), (2, .int x2)]) dX2_likenessOf_16 (Nat.le_of_ble_eq_true rfl) (fun _ => rfl) (fun v3 => ?_)
  refine bk_pick [0, 1, 2, 3, 4, 5] rfl (bk_r_loop (α := Int32 × Int32) (J := fun a => bk_At lyC w X 18 [(5, .int a.2), (4, .int v2), (3, .int a.1), (0, .ref (bk_r w b)), (1, .int x1), (2, .int x2)] [] σ) (v1, v3) (fun K4 hK4 a5 => ?_))
  refine bk_iload hX 0 dX2_likenessOf_18 rfl ?_
  refine bk_bipush hX bk_cb_9 dX2_likenessOf_20 ?_
  refine bk_icmp_gt hX 64 dX2_likenessOf_22 rfl ?_ ?_
  · refine bk_iload_n hX 2 dX2_likenessOf_64 rfl ?_
    exact fun z => hret _ _ _ _ dX2_likenessOf_65 rfl ⟨z, rfl⟩
  · refine bk_aload_n hX 3 dX2_likenessOf_25 rfl ?_
    refine bk_geti hX hb.1 rfl fl_X2_9 dX2_likenessOf_26 ?_
    refine bk_iload hX 0 dX2_likenessOf_29 rfl ?_
    refine bk_ishr hX dX2_likenessOf_31 ?_
    refine bk_iconst hX bk_ci_1 dX2_likenessOf_32 ?_
    refine bk_iand hX dX2_likenessOf_33 ?_
    refine bk_iconst hX bk_ci_1 dX2_likenessOf_34 ?_
    refine bk_icmp_ne hX 58 dX2_likenessOf_35 rfl ?_ ?_
    · refine bk_iinc hX 0 (fun v6 => [(5, .int v6), (4, .int v2), (3, .int a5.1), (0, .ref (bk_r w b)), (1, .int x1), (2, .int x2)]) dX2_likenessOf_58 rfl bk_ci_1 (Nat.le_of_ble_eq_true rfl) (fun _ => rfl) (fun v6 => ?_)
      refine bk_goto hX 18 dX2_likenessOf_61 rfl ?_
      exact bk_pick [0, 1, 2, 3, 4, 5] rfl (hK4 (a5.1, v6))
    · refine bk_aload_n hX 3 dX2_likenessOf_38 rfl ?_
      refine bk_getr hX hb.1 rfl fl_X2_15 dX2_likenessOf_39 ?_
      refine bk_iload hX 0 dX2_likenessOf_42 rfl ?_
      refine bk_bipush hX bk_cb_12 dX2_likenessOf_44 ?_
      refine bk_imul hX dX2_likenessOf_46 ?_
      refine bk_iload_n hX 5 dX2_likenessOf_47 rfl ?_
      refine bk_iadd hX dX2_likenessOf_48 ?_
      refine bk_iaload hX hb.2 dX2_likenessOf_49 ?_
      refine bk_iload hX 1 dX2_likenessOf_50 rfl ?_
      refine bk_icmp_ne hX 58 dX2_likenessOf_52 rfl ?_ ?_
      · refine bk_iinc hX 0 (fun v7 => [(5, .int v7), (4, .int v2), (3, .int a5.1), (0, .ref (bk_r w b)), (1, .int x1), (2, .int x2)]) dX2_likenessOf_58 rfl bk_ci_1 (Nat.le_of_ble_eq_true rfl) (fun _ => rfl) (fun v7 => ?_)
        refine bk_goto hX 18 dX2_likenessOf_61 rfl ?_
        exact bk_pick [0, 1, 2, 3, 4, 5] rfl (hK4 (a5.1, v7))
      · refine bk_iinc hX 2 (fun v8 => [(3, .int v8), (5, .int a5.2), (4, .int v2), (0, .ref (bk_r w b)), (1, .int x1), (2, .int x2)]) dX2_likenessOf_55 rfl bk_ci_1 (Nat.le_of_ble_eq_true rfl) (fun _ => rfl) (fun v8 => ?_)
        refine bk_iinc hX 1 (fun v9 => [(5, .int v9), (3, .int v8), (4, .int v2), (0, .ref (bk_r w b)), (1, .int x1), (2, .int x2)]) dX2_likenessOf_58 rfl bk_ci_1 (Nat.le_of_ble_eq_true rfl) (fun _ => rfl) (fun v9 => ?_)
        refine bk_goto hX 18 dX2_likenessOf_61 rfl ?_
        exact bk_pick [0, 2, 1, 3, 4, 5] rfl (hK4 (v8, v9))

def w_X2_greatestLikeness (b : Nat) (x1 : Int32) (σ : bk_S) (post : Int32 → Prop) : Prop :=
  bk_lt (α := Int32) (0 : Int32) fun v1 =>
  bk_lt (α := Int32) (1 : Int32) fun v2 =>
  bk_loop (α := Int32 × Int32) (fun K3 a4 =>
    ((9 : Int32) < a4.2 → post a4.1) ∧ (¬ (9 : Int32) < a4.2 → ((¬ (((σ b 0) >>> (a4.2 &&& 31)) &&& (1 : Int32)) = (1 : Int32) → (bk_lt (α := Int32) (a4.2 + (1 : Int32)) fun v5 =>
    K3 (a4.1, v5))) ∧ ((((σ b 0) >>> (a4.2 &&& 31)) &&& (1 : Int32)) = (1 : Int32) → (w_X2_likenessOf b a4.2 x1 σ (fun r6 =>
      bk_lt (α := Int32) (if a4.1 < r6 then r6 else a4.1) fun v7 =>
      bk_lt (α := Int32) (a4.2 + (1 : Int32)) fun v8 =>
      K3 (v7, v8))))))) (v1, v2)
set_option maxRecDepth 20000 in
theorem m_X2_greatestLikeness (w : bk_W) {b : Nat} {x1 : Int32} (hb : bk_hea b) {σ : bk_S} {post : Int32 → Prop} : w_X2_greatestLikeness b x1 σ post → bk_Mi lyC w yX2_greatestLikeness cX2_greatestLikeness 4 .int 1 40 [.ref (bk_r w b), .int x1] σ (fun r σ1 => post r ∧ σ1 = σ) := by
  intro h0
  refine bk_mi (by decide) (Nat.le_of_ble_eq_true rfl) (fun X hX hret => ?_)
  revert h0
  unfold w_X2_greatestLikeness
  show _ → bk_At lyC w X 0 [(0, .ref (bk_r w b)), (1, .int x1)] [] σ
  refine bk_iconst hX bk_ci_0 dX2_greatestLikeness_0 ?_
  refine bk_istore_n hX (fun v1 => [(2, .int v1), (0, .ref (bk_r w b)), (1, .int x1)]) dX2_greatestLikeness_1 (Nat.le_of_ble_eq_true rfl) (fun _ => rfl) (fun v1 => ?_)
  refine bk_iconst hX bk_ci_1 dX2_greatestLikeness_2 ?_
  refine bk_istore_n hX (fun v2 => [(3, .int v2), (2, .int v1), (0, .ref (bk_r w b)), (1, .int x1)]) dX2_greatestLikeness_3 (Nat.le_of_ble_eq_true rfl) (fun _ => rfl) (fun v2 => ?_)
  refine bk_pick [0, 1, 2, 3] rfl (bk_r_loop (α := Int32 × Int32) (J := fun a => bk_At lyC w X 4 [(3, .int a.2), (2, .int a.1), (0, .ref (bk_r w b)), (1, .int x1)] [] σ) (v1, v2) (fun K3 hK3 a4 => ?_))
  refine bk_iload_n hX 0 dX2_greatestLikeness_4 rfl ?_
  refine bk_bipush hX bk_cb_9 dX2_greatestLikeness_5 ?_
  refine bk_icmp_gt hX 39 dX2_greatestLikeness_7 rfl ?_ ?_
  · refine bk_iload_n hX 1 dX2_greatestLikeness_39 rfl ?_
    exact fun z => hret _ _ _ _ dX2_greatestLikeness_40 rfl ⟨z, rfl⟩
  · refine bk_aload_n hX 2 dX2_greatestLikeness_10 rfl ?_
    refine bk_geti hX hb.1 rfl fl_X2_9 dX2_greatestLikeness_11 ?_
    refine bk_iload_n hX 0 dX2_greatestLikeness_14 rfl ?_
    refine bk_ishr hX dX2_greatestLikeness_15 ?_
    refine bk_iconst hX bk_ci_1 dX2_greatestLikeness_16 ?_
    refine bk_iand hX dX2_greatestLikeness_17 ?_
    refine bk_iconst hX bk_ci_1 dX2_greatestLikeness_18 ?_
    refine bk_icmp_ne hX 33 dX2_greatestLikeness_19 rfl ?_ ?_
    · refine bk_iinc hX 0 (fun v5 => [(3, .int v5), (2, .int a4.1), (0, .ref (bk_r w b)), (1, .int x1)]) dX2_greatestLikeness_33 rfl bk_ci_1 (Nat.le_of_ble_eq_true rfl) (fun _ => rfl) (fun v5 => ?_)
      refine bk_goto hX 4 dX2_greatestLikeness_36 rfl ?_
      exact bk_pick [0, 1, 2, 3] rfl (hK3 (a4.1, v5))
    · refine bk_iload_n hX 1 dX2_greatestLikeness_22 rfl ?_
      refine bk_aload_n hX 2 dX2_greatestLikeness_23 rfl ?_
      refine bk_iload_n hX 0 dX2_greatestLikeness_24 rfl ?_
      refine bk_iload_n hX 3 dX2_greatestLikeness_25 rfl ?_
      refine bk_callV_i hX [.int a4.2, .int x1] [.int a4.1] yk_X2_likenessOf yv_X2_likenessOf lk_X2_23 rfl rfl hb.1 rfl rfl (Nat.le_of_ble_eq_true rfl) ⟨Nat.le_of_ble_eq_true rfl, Nat.le_of_ble_eq_true rfl⟩ dX2_greatestLikeness_26 (m_X2_likenessOf w hb) (bk_pu (fun r6 => ?_))
      refine bk_max hX lk_X2_27 wd_max_s wd_math wd_max_c (Nat.le_of_ble_eq_true rfl) (Nat.le_of_ble_eq_true rfl) dX2_greatestLikeness_29 ?_
      refine bk_istore_n hX (fun v7 => [(2, .int v7), (3, .int a4.2), (0, .ref (bk_r w b)), (1, .int x1)]) dX2_greatestLikeness_32 (Nat.le_of_ble_eq_true rfl) (fun _ => rfl) (fun v7 => ?_)
      refine bk_iinc hX 1 (fun v8 => [(3, .int v8), (2, .int v7), (0, .ref (bk_r w b)), (1, .int x1)]) dX2_greatestLikeness_33 rfl bk_ci_1 (Nat.le_of_ble_eq_true rfl) (fun _ => rfl) (fun v8 => ?_)
      refine bk_goto hX 4 dX2_greatestLikeness_36 rfl ?_
      exact bk_pick [0, 1, 2, 3] rfl (hK3 (v7, v8))

def w_X2_eveningToAsk (b : Nat) (σ : bk_S) (post : Int32 → Prop) : Prop :=
  bk_lt (α := Int32) (0 : Int32) fun v1 =>
  w_X2_greatestLikeness b (0 : Int32) σ (fun r2 =>
    bk_lt (α := Int32) r2 fun v3 =>
    bk_lt (α := Int32) (1 : Int32) fun v4 =>
    bk_loop (α := Int32 × Int32 × Int32) (fun K5 a6 =>
      ((12 : Int32) ≤ a6.2.2 → post a6.1) ∧ (¬ (12 : Int32) ≤ a6.2.2 → (w_X2_greatestLikeness b a6.2.2 σ (fun r7 =>
        bk_lt (α := Int32) r7 fun v8 =>
        (a6.2.1 ≤ v8 → (bk_lt (α := Int32) (a6.2.2 + (1 : Int32)) fun v9 =>
        K5 (a6.1, a6.2.1, v9))) ∧ (¬ a6.2.1 ≤ v8 → (bk_lt (α := Int32) v8 fun v10 =>
        bk_lt (α := Int32) a6.2.2 fun v11 =>
        bk_lt (α := Int32) (a6.2.2 + (1 : Int32)) fun v12 =>
        K5 (v11, v10, v12))))))) (v1, v3, v4))
set_option maxRecDepth 20000 in
theorem m_X2_eveningToAsk (w : bk_W) {b : Nat} (hb : bk_hea b) {σ : bk_S} {post : Int32 → Prop} : w_X2_eveningToAsk b σ post → bk_Mi lyC w yX2_eveningToAsk cX2_eveningToAsk 5 .int 2 63 [.ref (bk_r w b)] σ (fun r σ1 => post r ∧ σ1 = σ) := by
  intro h0
  refine bk_mi (by decide) (Nat.le_of_ble_eq_true rfl) (fun X hX hret => ?_)
  revert h0
  unfold w_X2_eveningToAsk
  show _ → bk_At lyC w X 0 [(0, .ref (bk_r w b))] [] σ
  refine bk_iconst hX bk_ci_0 dX2_eveningToAsk_0 ?_
  refine bk_istore_n hX (fun v1 => [(1, .int v1), (0, .ref (bk_r w b))]) dX2_eveningToAsk_1 (Nat.le_of_ble_eq_true rfl) (fun _ => rfl) (fun v1 => ?_)
  refine bk_aload_n hX 1 dX2_eveningToAsk_2 rfl ?_
  refine bk_iconst hX bk_ci_0 dX2_eveningToAsk_3 ?_
  refine bk_callV_i hX [.int (0 : Int32)] [] yk_X2_greatestLikeness yv_X2_greatestLikeness lk_X2_19 rfl rfl hb.1 rfl rfl (Nat.le_of_ble_eq_true rfl) ⟨Nat.le_of_ble_eq_true rfl, Nat.le_of_ble_eq_true rfl⟩ dX2_eveningToAsk_4 (m_X2_greatestLikeness w hb) (bk_pu (fun r2 => ?_))
  refine bk_istore_n hX (fun v3 => [(2, .int v3), (1, .int v1), (0, .ref (bk_r w b))]) dX2_eveningToAsk_7 (Nat.le_of_ble_eq_true rfl) (fun _ => rfl) (fun v3 => ?_)
  refine bk_iconst hX bk_ci_1 dX2_eveningToAsk_8 ?_
  refine bk_istore_n hX (fun v4 => [(3, .int v4), (2, .int v3), (1, .int v1), (0, .ref (bk_r w b))]) dX2_eveningToAsk_9 (Nat.le_of_ble_eq_true rfl) (fun _ => rfl) (fun v4 => ?_)
  refine bk_pick [0, 1, 2, 3] rfl (bk_r_loop (α := Int32 × Int32 × Int32) (J := fun a => bk_At lyC w X 10 [(3, .int a.2.2), (2, .int a.2.1), (1, .int a.1), (0, .ref (bk_r w b))] [] σ) (v1, v3, v4) (fun K5 hK5 a6 => ?_))
  refine bk_iload_n hX 0 dX2_eveningToAsk_10 rfl ?_
  refine bk_bipush hX bk_cb_12 dX2_eveningToAsk_11 ?_
  refine bk_icmp_ge hX 40 dX2_eveningToAsk_13 rfl ?_ ?_
  · refine bk_iload_n hX 2 dX2_eveningToAsk_40 rfl ?_
    exact fun z => hret _ _ _ _ dX2_eveningToAsk_41 rfl ⟨z, rfl⟩
  · refine bk_aload_n hX 3 dX2_eveningToAsk_16 rfl ?_
    refine bk_iload_n hX 0 dX2_eveningToAsk_17 rfl ?_
    refine bk_callV_i hX [.int a6.2.2] [] yk_X2_greatestLikeness yv_X2_greatestLikeness lk_X2_19 rfl rfl hb.1 rfl rfl (Nat.le_of_ble_eq_true rfl) ⟨Nat.le_of_ble_eq_true rfl, Nat.le_of_ble_eq_true rfl⟩ dX2_eveningToAsk_18 (m_X2_greatestLikeness w hb) (bk_pu (fun r7 => ?_))
    refine bk_istore hX (fun v8 => [(4, .int v8), (3, .int a6.2.2), (2, .int a6.2.1), (1, .int a6.1), (0, .ref (bk_r w b))]) dX2_eveningToAsk_21 (Nat.le_of_ble_eq_true rfl) (fun _ => rfl) (fun v8 => ?_)
    refine bk_iload hX 0 dX2_eveningToAsk_23 rfl ?_
    refine bk_iload_n hX 2 dX2_eveningToAsk_25 rfl ?_
    refine bk_icmp_ge hX 34 dX2_eveningToAsk_26 rfl ?_ ?_
    · refine bk_iinc hX 1 (fun v9 => [(3, .int v9), (4, .int v8), (2, .int a6.2.1), (1, .int a6.1), (0, .ref (bk_r w b))]) dX2_eveningToAsk_34 rfl bk_ci_1 (Nat.le_of_ble_eq_true rfl) (fun _ => rfl) (fun v9 => ?_)
      refine bk_goto hX 10 dX2_eveningToAsk_37 rfl ?_
      exact bk_pick [0, 2, 3, 4] rfl (hK5 (a6.1, a6.2.1, v9))
    · refine bk_iload hX 0 dX2_eveningToAsk_29 rfl ?_
      refine bk_istore_n hX (fun v10 => [(2, .int v10), (4, .int v8), (3, .int a6.2.2), (1, .int a6.1), (0, .ref (bk_r w b))]) dX2_eveningToAsk_31 (Nat.le_of_ble_eq_true rfl) (fun _ => rfl) (fun v10 => ?_)
      refine bk_iload_n hX 2 dX2_eveningToAsk_32 rfl ?_
      refine bk_istore_n hX (fun v11 => [(1, .int v11), (2, .int v10), (4, .int v8), (3, .int a6.2.2), (0, .ref (bk_r w b))]) dX2_eveningToAsk_33 (Nat.le_of_ble_eq_true rfl) (fun _ => rfl) (fun v11 => ?_)
      refine bk_iinc hX 3 (fun v12 => [(3, .int v12), (1, .int v11), (2, .int v10), (4, .int v8), (0, .ref (bk_r w b))]) dX2_eveningToAsk_34 rfl bk_ci_1 (Nat.le_of_ble_eq_true rfl) (fun _ => rfl) (fun v12 => ?_)
      refine bk_goto hX 10 dX2_eveningToAsk_37 rfl ?_
      exact bk_pick [0, 2, 1, 4] rfl (hK5 (v11, v10, v12))

def w_X3_draw (b : Nat) (x1 : Int32) (σ : bk_S) (post : Int32 → bk_S → Prop) : Prop :=
  bk_lt (α := bk_S) (bk_u σ b 0 (((1103515245 : Int32) * (σ b 0)) + (12345 : Int32))) fun σ1 =>
  (x1 ≤ 0 → post (0 : Int32) σ1) ∧ (¬ x1 ≤ 0 → (¬ x1 = 0 ∧ post (((Int32.toUInt32 (σ1 b 0) >>> (Int32.toUInt32 (16 : Int32) &&& Int32.toUInt32 31)).toInt32) - ((Int32.toUInt32 (σ1 b 0) >>> (Int32.toUInt32 (16 : Int32) &&& Int32.toUInt32 31)).toInt32) / x1 * x1) σ1))
set_option maxRecDepth 20000 in
theorem m_X3_draw (w : bk_W) {b : Nat} {x1 : Int32} (hb : bk_lot b) {σ : bk_S} {post : Int32 → bk_S → Prop} : w_X3_draw b x1 σ post → bk_Mi lyC w yX3_draw cX3_draw 2 .int 0 0 [.ref (bk_r w b), .int x1] σ post := by
  intro h0
  refine bk_mi (by decide) (Nat.le_of_ble_eq_true rfl) (fun X hX hret => ?_)
  revert h0
  unfold w_X3_draw
  show _ → bk_At lyC w X 0 [(0, .ref (bk_r w b)), (1, .int x1)] [] σ
  refine bk_aload_n hX 0 dX3_draw_0 rfl ?_
  refine bk_ldc hX kn_X3_13 dX3_draw_1 ?_
  refine bk_aload_n hX 0 dX3_draw_3 rfl ?_
  refine bk_geti hX hb rfl fl_X3_7 dX3_draw_4 ?_
  refine bk_imul hX dX3_draw_7 ?_
  refine bk_sipush hX bk_cs_12345 dX3_draw_8 ?_
  refine bk_iadd hX dX3_draw_11 ?_
  refine bk_putI hX hb rfl fp_X3_7 dX3_draw_12 (fun σ1 => ?_)
  refine bk_iload_n hX 1 dX3_draw_15 rfl ?_
  refine bk_if_le hX 31 dX3_draw_16 rfl ?_ ?_
  · refine bk_iconst hX bk_ci_0 dX3_draw_31 ?_
    exact fun z => hret _ _ _ _ dX3_draw_32 rfl z
  · refine bk_aload_n hX 0 dX3_draw_19 rfl ?_
    refine bk_geti hX hb rfl fl_X3_7 dX3_draw_20 ?_
    refine bk_bipush hX bk_cb_16 dX3_draw_23 ?_
    refine bk_iushr hX dX3_draw_25 ?_
    refine bk_iload_n hX 1 dX3_draw_26 rfl ?_
    refine bk_irem hX dX3_draw_27 ?_
    refine bk_goto hX 32 dX3_draw_28 rfl ?_
    exact fun z => hret _ _ _ _ dX3_draw_32 rfl z

def w_X6_minutesOf (x0 : Int32) (post : Int32 → Prop) : Prop :=
  (x0 = (103 : Int32) → post (0 : Int32)) ∧ (¬ x0 = (103 : Int32) → ((x0 = (104 : Int32) → post (1 : Int32)) ∧ (¬ x0 = (104 : Int32) → ((x0 = (115 : Int32) → post (2 : Int32)) ∧ (¬ x0 = (115 : Int32) → post (-1 : Int32))))))
set_option maxRecDepth 20000 in
theorem m_X6_minutesOf (w : bk_W) {x0 : Int32} {σ : bk_S} {post : Int32 → Prop} : w_X6_minutesOf x0 post → bk_Mi lyC w yX6_minutesOf cX6_minutesOf 1 .int 0 0 [.int x0] σ (fun r σ1 => post r ∧ σ1 = σ) := by
  intro h0
  refine bk_mi (by decide) (Nat.le_of_ble_eq_true rfl) (fun X hX hret => ?_)
  revert h0
  unfold w_X6_minutesOf
  show _ → bk_At lyC w X 0 [(0, .int x0)] [] σ
  refine bk_iload_n hX 0 dX6_minutesOf_0 rfl ?_
  refine bk_case (fun he2 => ?_) (fun hn1 => ?_)
  · refine bk_lkI hX 36 (103 : Int32) he2 dX6_minutesOf_1 (by decide +kernel) ?_
    refine bk_iconst hX bk_ci_0 dX6_minutesOf_36 ?_
    exact fun z => hret _ _ _ _ dX6_minutesOf_37 rfl ⟨z, rfl⟩
  · refine bk_case (fun he4 => ?_) (fun hn3 => ?_)
    · refine bk_lkI hX 38 (104 : Int32) he4 dX6_minutesOf_1 (by decide +kernel) ?_
      refine bk_iconst hX bk_ci_1 dX6_minutesOf_38 ?_
      exact fun z => hret _ _ _ _ dX6_minutesOf_39 rfl ⟨z, rfl⟩
    · refine bk_case (fun he6 => ?_) (fun hn5 => ?_)
      · refine bk_lkI hX 40 (115 : Int32) he6 dX6_minutesOf_1 (by decide +kernel) ?_
        refine bk_iconst hX bk_ci_2 dX6_minutesOf_40 ?_
        exact fun z => hret _ _ _ _ dX6_minutesOf_41 rfl ⟨z, rfl⟩
      · refine bk_lkD hX 42 dX6_minutesOf_1 [103, 104, 115] ⟨hn1, hn3, hn5, trivial⟩ (by decide +kernel) (by decide +kernel) ?_
        refine bk_iconst hX bk_ci_m1 dX6_minutesOf_42 ?_
        exact fun z => hret _ _ _ _ dX6_minutesOf_43 rfl ⟨z, rfl⟩

def w_X6_faultOfHooks (b : Nat) (σ : bk_S) (post : Int32 → Prop) : Prop :=
  bk_lt (α := Int32) (0 : Int32) fun v1 =>
  bk_loop (α := Int32) (fun K2 a3 =>
    ((σ b 2) ≤ a3 → post (-1 : Int32)) ∧ (¬ (σ b 2) ≤ a3 → (vp_in a3 31 ∧ w_X6_minutesOf (σ (b + 1) (Int32.toNatClampNeg a3)) (fun r4 =>
      (¬ r4 = (-1 : Int32) → (bk_lt (α := Int32) (a3 + (1 : Int32)) fun v5 =>
      K2 v5)) ∧ (r4 = (-1 : Int32) → post a3))))) v1
set_option maxRecDepth 20000 in
theorem m_X6_faultOfHooks (w : bk_W) {b : Nat} (hb : bk_txt b) {σ : bk_S} {post : Int32 → Prop} : w_X6_faultOfHooks b σ post → bk_Mi lyC w yX6_faultOfHooks cX6_faultOfHooks 2 .int 1 20 [.ref (bk_r w b)] σ (fun r σ1 => post r ∧ σ1 = σ) := by
  intro h0
  refine bk_mi (by decide) (Nat.le_of_ble_eq_true rfl) (fun X hX hret => ?_)
  revert h0
  unfold w_X6_faultOfHooks
  show _ → bk_At lyC w X 0 [(0, .ref (bk_r w b))] [] σ
  refine bk_iconst hX bk_ci_0 dX6_faultOfHooks_0 ?_
  refine bk_istore_n hX (fun v1 => [(1, .int v1), (0, .ref (bk_r w b))]) dX6_faultOfHooks_1 (Nat.le_of_ble_eq_true rfl) (fun _ => rfl) (fun v1 => ?_)
  refine bk_pick [0, 1] rfl (bk_r_loop (α := Int32) (J := fun a => bk_At lyC w X 2 [(1, .int a), (0, .ref (bk_r w b))] [] σ) v1 (fun K2 hK2 a3 => ?_))
  refine bk_iload_n hX 0 dX6_faultOfHooks_2 rfl ?_
  refine bk_aload_n hX 1 dX6_faultOfHooks_3 rfl ?_
  refine bk_geti hX hb.1 rfl fl_X6_15 dX6_faultOfHooks_4 ?_
  refine bk_icmp_ge hX 31 dX6_faultOfHooks_7 rfl ?_ ?_
  · refine bk_iconst hX bk_ci_m1 dX6_faultOfHooks_31 ?_
    exact fun z => hret _ _ _ _ dX6_faultOfHooks_32 rfl ⟨z, rfl⟩
  · refine bk_aload_n hX 1 dX6_faultOfHooks_10 rfl ?_
    refine bk_getr hX hb.1 rfl fl_X6_9 dX6_faultOfHooks_11 ?_
    refine bk_iload_n hX 0 dX6_faultOfHooks_14 rfl ?_
    refine bk_iaload hX hb.2 dX6_faultOfHooks_15 ?_
    refine bk_callS_i hX [.int (σ (b + 1) (Int32.toNatClampNeg a3))] [] yk_X6_minutesOf ys_X6_minutesOf lk_X6_28 rfl rfl (Nat.le_of_ble_eq_true rfl) ⟨Nat.le_of_ble_eq_true rfl, Nat.le_of_ble_eq_true rfl⟩ dX6_faultOfHooks_16 (m_X6_minutesOf w) (bk_pu (fun r4 => ?_))
    refine bk_iconst hX bk_ci_m1 dX6_faultOfHooks_19 ?_
    refine bk_icmp_ne hX 25 dX6_faultOfHooks_20 rfl ?_ ?_
    · refine bk_iinc hX 0 (fun v5 => [(1, .int v5), (0, .ref (bk_r w b))]) dX6_faultOfHooks_25 rfl bk_ci_1 (Nat.le_of_ble_eq_true rfl) (fun _ => rfl) (fun v5 => ?_)
      refine bk_goto hX 2 dX6_faultOfHooks_28 rfl ?_
      exact bk_pick [0, 1] rfl (hK2 v5)
    · refine bk_iload_n hX 0 dX6_faultOfHooks_23 rfl ?_
      exact fun z => hret _ _ _ _ dX6_faultOfHooks_24 rfl ⟨z, rfl⟩

def w_X4_takeHooks (b : Nat) (s1 : Nat) (σ : bk_S) (post : bk_S → Prop) : Prop :=
  w_X6_faultOfHooks s1 σ (fun r1 =>
    bk_lt (α := Int32) (if r1 = (-1 : Int32) then (σ s1 2) else (0 : Int32)) fun a3 =>
    bk_lt (α := bk_S) (bk_u σ b 0 a3) fun σ4 =>
    bk_lt (α := Int32) (0 : Int32) fun v5 =>
    bk_loop (α := Int32 × bk_S) (fun K6 a7 =>
      ((a7.2 b 0) ≤ a7.1 → post a7.2) ∧ (¬ (a7.2 b 0) ≤ a7.1 → (vp_in a7.1 31 ∧ w_X6_minutesOf (a7.2 (s1 + 1) (Int32.toNatClampNeg a7.1)) (fun r8 =>
        vp_in a7.1 12 ∧ bk_lt (α := bk_S) (bk_u a7.2 (b + 1) (Int32.toNatClampNeg a7.1) r8) fun σ9 =>
        bk_lt (α := Int32) (a7.1 + (1 : Int32)) fun v10 =>
        K6 (v10, σ9))))) (v5, σ4))
set_option maxRecDepth 20000 in
theorem m_X4_takeHooks (w : bk_W) {b : Nat} {s1 : Nat} (hb : bk_set b) (hs1 : bk_txt s1) {σ : bk_S} {post : bk_S → Prop} : w_X4_takeHooks b s1 σ post → bk_Mv lyC w yX4_takeHooks cX4_takeHooks 3 2 41 [.ref (bk_r w b), .ref (bk_r w s1)] σ post := by
  intro h0
  refine bk_mv (by decide) (Nat.le_of_ble_eq_true rfl) (fun X hX hret => ?_)
  revert h0
  unfold w_X4_takeHooks
  show _ → bk_At lyC w X 0 [(0, .ref (bk_r w b)), (1, .ref (bk_r w s1))] [] σ
  refine bk_aload_n hX 0 dX4_takeHooks_0 rfl ?_
  refine bk_aload_n hX 1 dX4_takeHooks_1 rfl ?_
  refine bk_callV_i hX [] [.ref (bk_r w b)] yk_X6_faultOfHooks yv_X6_faultOfHooks lk_X4_37 rfl rfl hs1.1 rfl rfl (Nat.le_of_ble_eq_true rfl) ⟨Nat.le_of_ble_eq_true rfl, Nat.le_of_ble_eq_true rfl⟩ dX4_takeHooks_2 (m_X6_faultOfHooks w hs1) (bk_pu (fun r1 => ?_))
  refine bk_iconst hX bk_ci_m1 dX4_takeHooks_5 ?_
  refine bk_r_if (α := Int32) (F := fun K2 => (¬ r1 = (-1 : Int32) → K2 (0 : Int32)) ∧ (r1 = (-1 : Int32) → K2 (σ s1 2))) (fun K2 z => ⟨fun h0 => (bk_neg (K := K2) h0 z), fun h0 => (bk_pos (K := K2) h0 z)⟩) (J := fun a => bk_At lyC w X 17 [(0, .ref (bk_r w b)), (1, .ref (bk_r w s1))] [.int a, .ref (bk_r w b)] σ) (fun a3 => ?_) (fun K2 hK2 => ?_)
  · refine bk_putI hX hb.1 rfl fp_X4_9 dX4_takeHooks_17 (fun σ4 => ?_)
    refine bk_iconst hX bk_ci_0 dX4_takeHooks_20 ?_
    refine bk_istore_n hX (fun v5 => [(2, .int v5), (0, .ref (bk_r w b)), (1, .ref (bk_r w s1))]) dX4_takeHooks_21 (Nat.le_of_ble_eq_true rfl) (fun _ => rfl) (fun v5 => ?_)
    refine bk_pick [0, 1, 2] rfl (bk_r_loop (α := Int32 × bk_S) (J := fun a => bk_At lyC w X 22 [(2, .int a.1), (0, .ref (bk_r w b)), (1, .ref (bk_r w s1))] [] a.2) (v5, σ4) (fun K6 hK6 a7 => ?_))
    refine bk_iload_n hX 0 dX4_takeHooks_22 rfl ?_
    refine bk_aload_n hX 1 dX4_takeHooks_23 rfl ?_
    refine bk_geti hX hb.1 rfl fl_X4_9 dX4_takeHooks_24 ?_
    refine bk_icmp_ge hX 51 dX4_takeHooks_27 rfl ?_ ?_
    · exact fun z => hret _ _ _ dX4_takeHooks_51 z
    · refine bk_aload_n hX 1 dX4_takeHooks_30 rfl ?_
      refine bk_getr hX hb.1 rfl fl_X4_18 dX4_takeHooks_31 ?_
      refine bk_iload_n hX 0 dX4_takeHooks_34 rfl ?_
      refine bk_aload_n hX 2 dX4_takeHooks_35 rfl ?_
      refine bk_getr hX hs1.1 rfl fl_X4_46 dX4_takeHooks_36 ?_
      refine bk_iload_n hX 0 dX4_takeHooks_39 rfl ?_
      refine bk_iaload hX hs1.2 dX4_takeHooks_40 ?_
      refine bk_callS_i hX [.int (a7.2 (s1 + 1) (Int32.toNatClampNeg a7.1))] [.int a7.1, .ref (bk_r w (b + 1))] yk_X6_minutesOf ys_X6_minutesOf lk_X4_49 rfl rfl (Nat.le_of_ble_eq_true rfl) ⟨Nat.le_of_ble_eq_true rfl, Nat.le_of_ble_eq_true rfl⟩ dX4_takeHooks_41 (m_X6_minutesOf w) (bk_pu (fun r8 => ?_))
      refine bk_iastore hX hb.2.1 dX4_takeHooks_44 (fun σ9 => ?_)
      refine bk_iinc hX 0 (fun v10 => [(2, .int v10), (0, .ref (bk_r w b)), (1, .ref (bk_r w s1))]) dX4_takeHooks_45 rfl bk_ci_1 (Nat.le_of_ble_eq_true rfl) (fun _ => rfl) (fun v10 => ?_)
      refine bk_goto hX 22 dX4_takeHooks_48 rfl ?_
      exact bk_pick [0, 1, 2] rfl (hK6 (v10, σ9))
  · refine bk_icmp_ne hX 16 dX4_takeHooks_6 rfl ?_ ?_
    · refine bk_iconst hX bk_ci_0 dX4_takeHooks_16 ?_
      exact bk_pick [0, 1] rfl (hK2 (0 : Int32))
    · refine bk_aload_n hX 1 dX4_takeHooks_9 rfl ?_
      refine bk_geti hX hs1.1 rfl fl_X4_43 dX4_takeHooks_10 ?_
      refine bk_goto hX 17 dX4_takeHooks_13 rfl ?_
      exact bk_pick [0, 1] rfl (hK2 (σ s1 2))

def w_X6_sortOf (x0 : Int32) (post : Int32 → Prop) : Prop :=
  (x0 = (109 : Int32) → post (0 : Int32)) ∧ (¬ x0 = (109 : Int32) → ((x0 = (113 : Int32) → post (2 : Int32)) ∧ (¬ x0 = (113 : Int32) → ((x0 = (119 : Int32) → post (1 : Int32)) ∧ (¬ x0 = (119 : Int32) → post (-1 : Int32))))))
set_option maxRecDepth 20000 in
theorem m_X6_sortOf (w : bk_W) {x0 : Int32} {σ : bk_S} {post : Int32 → Prop} : w_X6_sortOf x0 post → bk_Mi lyC w yX6_sortOf cX6_sortOf 1 .int 0 0 [.int x0] σ (fun r σ1 => post r ∧ σ1 = σ) := by
  intro h0
  refine bk_mi (by decide) (Nat.le_of_ble_eq_true rfl) (fun X hX hret => ?_)
  revert h0
  unfold w_X6_sortOf
  show _ → bk_At lyC w X 0 [(0, .int x0)] [] σ
  refine bk_iload_n hX 0 dX6_sortOf_0 rfl ?_
  refine bk_case (fun he2 => ?_) (fun hn1 => ?_)
  · refine bk_lkI hX 36 (109 : Int32) he2 dX6_sortOf_1 (by decide +kernel) ?_
    refine bk_iconst hX bk_ci_0 dX6_sortOf_36 ?_
    exact fun z => hret _ _ _ _ dX6_sortOf_37 rfl ⟨z, rfl⟩
  · refine bk_case (fun he4 => ?_) (fun hn3 => ?_)
    · refine bk_lkI hX 40 (113 : Int32) he4 dX6_sortOf_1 (by decide +kernel) ?_
      refine bk_iconst hX bk_ci_2 dX6_sortOf_40 ?_
      exact fun z => hret _ _ _ _ dX6_sortOf_41 rfl ⟨z, rfl⟩
    · refine bk_case (fun he6 => ?_) (fun hn5 => ?_)
      · refine bk_lkI hX 38 (119 : Int32) he6 dX6_sortOf_1 (by decide +kernel) ?_
        refine bk_iconst hX bk_ci_1 dX6_sortOf_38 ?_
        exact fun z => hret _ _ _ _ dX6_sortOf_39 rfl ⟨z, rfl⟩
      · refine bk_lkD hX 42 dX6_sortOf_1 [109, 113, 119] ⟨hn1, hn3, hn5, trivial⟩ (by decide +kernel) (by decide +kernel) ?_
        refine bk_iconst hX bk_ci_m1 dX6_sortOf_42 ?_
        exact fun z => hret _ _ _ _ dX6_sortOf_43 rfl ⟨z, rfl⟩

def w_X6_mayStand (x0 : Int32) (x1 : Int32) (post : Int32 → Prop) : Prop :=
  ¬ (4 : Int32) = 0 ∧ ((x0 - x0 / (4 : Int32) * (4 : Int32)) = (0 : Int32) → (w_X6_sortOf x1 (fun r3 =>
    (r3 = (-1 : Int32) → post (0 : Int32)) ∧ (¬ r3 = (-1 : Int32) → post (1 : Int32))))) ∧ (¬ (x0 - x0 / (4 : Int32) * (4 : Int32)) = (0 : Int32) → (((x0 - x0 / (4 : Int32) * (4 : Int32)) = (1 : Int32) → (bk_jn (α := Unit) (fun a7 =>
    post (0 : Int32)) (fun K6 =>
    (x1 < (49 : Int32) → K6 ()) ∧ (¬ x1 < (49 : Int32) → (((57 : Int32) < x1 → K6 ()) ∧ (¬ (57 : Int32) < x1 → post (1 : Int32))))))) ∧ (¬ (x0 - x0 / (4 : Int32) * (4 : Int32)) = (1 : Int32) → (((x0 - x0 / (4 : Int32) * (4 : Int32)) = (2 : Int32) → (bk_jn (α := Unit) (fun a11 =>
    post (0 : Int32)) (fun K10 =>
    (x1 < (48 : Int32) → K10 ()) ∧ (¬ x1 < (48 : Int32) → (((57 : Int32) < x1 → K10 ()) ∧ (¬ (57 : Int32) < x1 → post (1 : Int32))))))) ∧ (¬ (x0 - x0 / (4 : Int32) * (4 : Int32)) = (2 : Int32) → ((¬ x1 = (59 : Int32) → post (0 : Int32)) ∧ (x1 = (59 : Int32) → post (1 : Int32))))))))
set_option maxRecDepth 20000 in
theorem m_X6_mayStand (w : bk_W) {x0 : Int32} {x1 : Int32} {σ : bk_S} {post : Int32 → Prop} : w_X6_mayStand x0 x1 post → bk_Mi lyC w yX6_mayStand cX6_mayStand 2 .boolean 1 20 [.int x0, .int x1] σ (fun r σ1 => post r ∧ σ1 = σ) := by
  intro h0
  refine bk_mi (by decide) (Nat.le_of_ble_eq_true rfl) (fun X hX hret => ?_)
  revert h0
  unfold w_X6_mayStand
  show _ → bk_At lyC w X 0 [(0, .int x0), (1, .int x1)] [] σ
  refine bk_iload_n hX 0 dX6_mayStand_0 rfl ?_
  refine bk_iconst hX bk_ci_4 dX6_mayStand_1 ?_
  refine bk_irem hX dX6_mayStand_2 ?_
  refine bk_case (fun he2 => ?_) (fun hn1 => ?_)
  · refine bk_swI hX 28 (0 : Int32) he2 dX6_mayStand_3 (by decide +kernel) ?_
    refine bk_iload_n hX 1 dX6_mayStand_28 rfl ?_
    refine bk_callS_i hX [.int x1] [] yk_X6_sortOf ys_X6_sortOf lk_X6_36 rfl rfl (Nat.le_of_ble_eq_true rfl) ⟨Nat.le_of_ble_eq_true rfl, Nat.le_of_ble_eq_true rfl⟩ dX6_mayStand_29 (m_X6_sortOf w) (bk_pu (fun r3 => ?_))
    refine bk_iconst hX bk_ci_m1 dX6_mayStand_32 ?_
    refine bk_icmp_eq hX 40 dX6_mayStand_33 rfl ?_ ?_
    · refine bk_iconst hX bk_ci_0 dX6_mayStand_40 ?_
      exact fun z => hret _ _ _ _ dX6_mayStand_41 rfl ⟨z, rfl⟩
    · refine bk_iconst hX bk_ci_1 dX6_mayStand_36 ?_
      refine bk_goto hX 41 dX6_mayStand_37 rfl ?_
      exact fun z => hret _ _ _ _ dX6_mayStand_41 rfl ⟨z, rfl⟩
  · refine bk_case (fun he5 => ?_) (fun hn4 => ?_)
    · refine bk_swI hX 42 (1 : Int32) he5 dX6_mayStand_3 (by decide +kernel) ?_
      refine bk_iload_n hX 1 dX6_mayStand_42 rfl ?_
      refine bk_bipush hX bk_cb_49 dX6_mayStand_43 ?_
      refine bk_r_jn (α := Unit) (J := fun a => bk_At lyC w X 58 [(0, .int x0), (1, .int x1)] [] σ) (fun a7 => ?_) (fun K6 hK6 => ?_)
      · refine bk_iconst hX bk_ci_0 dX6_mayStand_58 ?_
        exact fun z => hret _ _ _ _ dX6_mayStand_59 rfl ⟨z, rfl⟩
      · refine bk_icmp_lt hX 58 dX6_mayStand_45 rfl ?_ ?_
        · exact bk_pick [0, 1] rfl (hK6 ())
        · refine bk_iload_n hX 1 dX6_mayStand_48 rfl ?_
          refine bk_bipush hX bk_cb_57 dX6_mayStand_49 ?_
          refine bk_icmp_gt hX 58 dX6_mayStand_51 rfl ?_ ?_
          · exact bk_pick [0, 1] rfl (hK6 ())
          · refine bk_iconst hX bk_ci_1 dX6_mayStand_54 ?_
            refine bk_goto hX 59 dX6_mayStand_55 rfl ?_
            exact fun z => hret _ _ _ _ dX6_mayStand_59 rfl ⟨z, rfl⟩
    · refine bk_case (fun he9 => ?_) (fun hn8 => ?_)
      · refine bk_swI hX 60 (2 : Int32) he9 dX6_mayStand_3 (by decide +kernel) ?_
        refine bk_iload_n hX 1 dX6_mayStand_60 rfl ?_
        refine bk_bipush hX bk_cb_48 dX6_mayStand_61 ?_
        refine bk_r_jn (α := Unit) (J := fun a => bk_At lyC w X 76 [(0, .int x0), (1, .int x1)] [] σ) (fun a11 => ?_) (fun K10 hK10 => ?_)
        · refine bk_iconst hX bk_ci_0 dX6_mayStand_76 ?_
          exact fun z => hret _ _ _ _ dX6_mayStand_77 rfl ⟨z, rfl⟩
        · refine bk_icmp_lt hX 76 dX6_mayStand_63 rfl ?_ ?_
          · exact bk_pick [0, 1] rfl (hK10 ())
          · refine bk_iload_n hX 1 dX6_mayStand_66 rfl ?_
            refine bk_bipush hX bk_cb_57 dX6_mayStand_67 ?_
            refine bk_icmp_gt hX 76 dX6_mayStand_69 rfl ?_ ?_
            · exact bk_pick [0, 1] rfl (hK10 ())
            · refine bk_iconst hX bk_ci_1 dX6_mayStand_72 ?_
              refine bk_goto hX 77 dX6_mayStand_73 rfl ?_
              exact fun z => hret _ _ _ _ dX6_mayStand_77 rfl ⟨z, rfl⟩
      · refine bk_swD hX 78 dX6_mayStand_3 [0, 1, 2] ⟨hn1, hn4, hn8, trivial⟩ (by decide +kernel) ?_
        refine bk_iload_n hX 1 dX6_mayStand_78 rfl ?_
        refine bk_bipush hX bk_cb_59 dX6_mayStand_79 ?_
        refine bk_icmp_ne hX 88 dX6_mayStand_81 rfl ?_ ?_
        · refine bk_iconst hX bk_ci_0 dX6_mayStand_88 ?_
          exact fun z => hret _ _ _ _ dX6_mayStand_89 rfl ⟨z, rfl⟩
        · refine bk_iconst hX bk_ci_1 dX6_mayStand_84 ?_
          refine bk_goto hX 89 dX6_mayStand_85 rfl ?_
          exact fun z => hret _ _ _ _ dX6_mayStand_89 rfl ⟨z, rfl⟩

def w_X6_faultOfThings (b : Nat) (σ : bk_S) (post : Int32 → Prop) : Prop :=
  bk_lt (α := Int32) (0 : Int32) fun v1 =>
  bk_jn (α := Unit) (fun a3 =>
    bk_jn (α := Unit) (fun a9 =>
      post (-1 : Int32)) (fun K8 =>
      ((σ b 2) = 0 → K8 ()) ∧ (¬ (σ b 2) = 0 → (¬ (4 : Int32) = 0 ∧ (¬ ((σ b 2) - (σ b 2) / (4 : Int32) * (4 : Int32)) = (3 : Int32) → post (σ b 2)) ∧ (((σ b 2) - (σ b 2) / (4 : Int32) * (4 : Int32)) = (3 : Int32) → K8 ()))))) (fun K2 =>
    bk_loop (α := Int32) (fun K4 a5 =>
      ((σ b 2) ≤ a5 → K2 ()) ∧ (¬ (σ b 2) ≤ a5 → (vp_in a5 31 ∧ w_X6_mayStand a5 (σ (b + 1) (Int32.toNatClampNeg a5)) (fun r6 =>
        (¬ r6 = 0 → (bk_lt (α := Int32) (a5 + (1 : Int32)) fun v7 =>
        K4 v7)) ∧ (r6 = 0 → post a5))))) v1)
set_option maxRecDepth 20000 in
theorem m_X6_faultOfThings (w : bk_W) {b : Nat} (hb : bk_txt b) {σ : bk_S} {post : Int32 → Prop} : w_X6_faultOfThings b σ post → bk_Mi lyC w yX6_faultOfThings cX6_faultOfThings 2 .int 2 41 [.ref (bk_r w b)] σ (fun r σ1 => post r ∧ σ1 = σ) := by
  intro h0
  refine bk_mi (by decide) (Nat.le_of_ble_eq_true rfl) (fun X hX hret => ?_)
  revert h0
  unfold w_X6_faultOfThings
  show _ → bk_At lyC w X 0 [(0, .ref (bk_r w b))] [] σ
  refine bk_iconst hX bk_ci_0 dX6_faultOfThings_0 ?_
  refine bk_istore_n hX (fun v1 => [(1, .int v1), (0, .ref (bk_r w b))]) dX6_faultOfThings_1 (Nat.le_of_ble_eq_true rfl) (fun _ => rfl) (fun v1 => ?_)
  refine bk_r_jn (α := Unit) (J := fun a => bk_At lyC w X 31 [(0, .ref (bk_r w b))] [] σ) (fun a3 => ?_) (fun K2 hK2 => ?_)
  · refine bk_aload_n hX 0 dX6_faultOfThings_31 rfl ?_
    refine bk_geti hX hb.1 rfl fl_X6_15 dX6_faultOfThings_32 ?_
    refine bk_r_jn (α := Unit) (J := fun a => bk_At lyC w X 48 [(0, .ref (bk_r w b))] [] σ) (fun a9 => ?_) (fun K8 hK8 => ?_)
    · refine bk_iconst hX bk_ci_m1 dX6_faultOfThings_48 ?_
      refine bk_goto hX 56 dX6_faultOfThings_49 rfl ?_
      exact fun z => hret _ _ _ _ dX6_faultOfThings_56 rfl ⟨z, rfl⟩
    · refine bk_if_eq hX 48 dX6_faultOfThings_35 rfl ?_ ?_
      · exact bk_pick [0] rfl (hK8 ())
      · refine bk_aload_n hX 0 dX6_faultOfThings_38 rfl ?_
        refine bk_geti hX hb.1 rfl fl_X6_15 dX6_faultOfThings_39 ?_
        refine bk_iconst hX bk_ci_4 dX6_faultOfThings_42 ?_
        refine bk_irem hX dX6_faultOfThings_43 ?_
        refine bk_iconst hX bk_ci_3 dX6_faultOfThings_44 ?_
        refine bk_icmp_ne hX 52 dX6_faultOfThings_45 rfl ?_ ?_
        · refine bk_aload_n hX 0 dX6_faultOfThings_52 rfl ?_
          refine bk_geti hX hb.1 rfl fl_X6_15 dX6_faultOfThings_53 ?_
          exact fun z => hret _ _ _ _ dX6_faultOfThings_56 rfl ⟨z, rfl⟩
        · exact bk_pick [0] rfl (hK8 ())
  · refine bk_pick [0, 1] rfl (bk_r_loop (α := Int32) (J := fun a => bk_At lyC w X 2 [(1, .int a), (0, .ref (bk_r w b))] [] σ) v1 (fun K4 hK4 a5 => ?_))
    refine bk_iload_n hX 0 dX6_faultOfThings_2 rfl ?_
    refine bk_aload_n hX 1 dX6_faultOfThings_3 rfl ?_
    refine bk_geti hX hb.1 rfl fl_X6_15 dX6_faultOfThings_4 ?_
    refine bk_icmp_ge hX 31 dX6_faultOfThings_7 rfl ?_ ?_
    · exact bk_pick [1] rfl (hK2 ())
    · refine bk_iload_n hX 0 dX6_faultOfThings_10 rfl ?_
      refine bk_aload_n hX 1 dX6_faultOfThings_11 rfl ?_
      refine bk_getr hX hb.1 rfl fl_X6_9 dX6_faultOfThings_12 ?_
      refine bk_iload_n hX 0 dX6_faultOfThings_15 rfl ?_
      refine bk_iaload hX hb.2 dX6_faultOfThings_16 ?_
      refine bk_callS_i hX [.int a5, .int (σ (b + 1) (Int32.toNatClampNeg a5))] [] yk_X6_mayStand ys_X6_mayStand lk_X6_32 rfl rfl (Nat.le_of_ble_eq_true rfl) ⟨Nat.le_of_ble_eq_true rfl, Nat.le_of_ble_eq_true rfl⟩ dX6_faultOfThings_17 (m_X6_mayStand w) (bk_pu (fun r6 => ?_))
      refine bk_if_ne hX 25 dX6_faultOfThings_20 rfl ?_ ?_
      · refine bk_iinc hX 0 (fun v7 => [(1, .int v7), (0, .ref (bk_r w b))]) dX6_faultOfThings_25 rfl bk_ci_1 (Nat.le_of_ble_eq_true rfl) (fun _ => rfl) (fun v7 => ?_)
        refine bk_goto hX 2 dX6_faultOfThings_28 rfl ?_
        exact bk_pick [0, 1] rfl (hK4 v7)
      · refine bk_iload_n hX 0 dX6_faultOfThings_23 rfl ?_
        exact fun z => hret _ _ _ _ dX6_faultOfThings_24 rfl ⟨z, rfl⟩

def w_X4_takeThings (b : Nat) (s1 : Nat) (σ : bk_S) (post : bk_S → Prop) : Prop :=
  w_X6_faultOfThings s1 σ (fun r1 =>
    bk_jn (α := Int32) (fun a3 =>
      bk_lt (α := bk_S) (bk_u σ b 1 a3) fun σ4 =>
      bk_lt (α := Int32) (0 : Int32) fun v5 =>
      bk_loop (α := Int32 × bk_S) (fun K6 a7 =>
        ((a7.2 b 1) ≤ a7.1 → post a7.2) ∧ (¬ (a7.2 b 1) ≤ a7.1 → (vp_in ((4 : Int32) * a7.1) 31 ∧ w_X6_sortOf (a7.2 (s1 + 1) (Int32.toNatClampNeg ((4 : Int32) * a7.1))) (fun r8 =>
          vp_in a7.1 8 ∧ bk_lt (α := bk_S) (bk_u a7.2 (b + 2) (Int32.toNatClampNeg a7.1) r8) fun σ9 =>
          vp_in (((4 : Int32) * a7.1) + (1 : Int32)) 31 ∧ vp_in a7.1 8 ∧ bk_lt (α := bk_S) (bk_u σ9 (b + 3) (Int32.toNatClampNeg a7.1) ((σ9 (s1 + 1) (Int32.toNatClampNeg (((4 : Int32) * a7.1) + (1 : Int32)))) - (48 : Int32))) fun σ10 =>
          vp_in (((4 : Int32) * a7.1) + (2 : Int32)) 31 ∧ vp_in a7.1 8 ∧ bk_lt (α := bk_S) (bk_u σ10 (b + 4) (Int32.toNatClampNeg a7.1) ((σ10 (s1 + 1) (Int32.toNatClampNeg (((4 : Int32) * a7.1) + (2 : Int32)))) - (48 : Int32))) fun σ11 =>
          bk_lt (α := Int32) (a7.1 + (1 : Int32)) fun v12 =>
          K6 (v12, σ11))))) (v5, σ4)) (fun K2 =>
      (¬ r1 = (-1 : Int32) → K2 (0 : Int32)) ∧ (r1 = (-1 : Int32) → (¬ (4 : Int32) = 0 ∧ K2 (((σ s1 2) + (1 : Int32)) / (4 : Int32))))))
set_option maxRecDepth 20000 in
theorem m_X4_takeThings (w : bk_W) {b : Nat} {s1 : Nat} (hb : bk_set b) (hs1 : bk_txt s1) {σ : bk_S} {post : bk_S → Prop} : w_X4_takeThings b s1 σ post → bk_Mv lyC w yX4_takeThings cX4_takeThings 3 3 62 [.ref (bk_r w b), .ref (bk_r w s1)] σ post := by
  intro h0
  refine bk_mv (by decide) (Nat.le_of_ble_eq_true rfl) (fun X hX hret => ?_)
  revert h0
  unfold w_X4_takeThings
  show _ → bk_At lyC w X 0 [(0, .ref (bk_r w b)), (1, .ref (bk_r w s1))] [] σ
  refine bk_aload_n hX 0 dX4_takeThings_0 rfl ?_
  refine bk_aload_n hX 1 dX4_takeThings_1 rfl ?_
  refine bk_callV_i hX [] [.ref (bk_r w b)] yk_X6_faultOfThings yv_X6_faultOfThings lk_X4_53 rfl rfl hs1.1 rfl rfl (Nat.le_of_ble_eq_true rfl) ⟨Nat.le_of_ble_eq_true rfl, Nat.le_of_ble_eq_true rfl⟩ dX4_takeThings_2 (m_X6_faultOfThings w hs1) (bk_pu (fun r1 => ?_))
  refine bk_iconst hX bk_ci_m1 dX4_takeThings_5 ?_
  refine bk_r_jn (α := Int32) (J := fun a => bk_At lyC w X 21 [(0, .ref (bk_r w b)), (1, .ref (bk_r w s1))] [.int a, .ref (bk_r w b)] σ) (fun a3 => ?_) (fun K2 hK2 => ?_)
  · refine bk_putI hX hb.1 rfl fp_X4_15 dX4_takeThings_21 (fun σ4 => ?_)
    refine bk_iconst hX bk_ci_0 dX4_takeThings_24 ?_
    refine bk_istore_n hX (fun v5 => [(2, .int v5), (0, .ref (bk_r w b)), (1, .ref (bk_r w s1))]) dX4_takeThings_25 (Nat.le_of_ble_eq_true rfl) (fun _ => rfl) (fun v5 => ?_)
    refine bk_pick [0, 1, 2] rfl (bk_r_loop (α := Int32 × bk_S) (J := fun a => bk_At lyC w X 26 [(2, .int a.1), (0, .ref (bk_r w b)), (1, .ref (bk_r w s1))] [] a.2) (v5, σ4) (fun K6 hK6 a7 => ?_))
    refine bk_iload_n hX 0 dX4_takeThings_26 rfl ?_
    refine bk_aload_n hX 1 dX4_takeThings_27 rfl ?_
    refine bk_geti hX hb.1 rfl fl_X4_15 dX4_takeThings_28 ?_
    refine bk_icmp_ge hX 95 dX4_takeThings_31 rfl ?_ ?_
    · exact fun z => hret _ _ _ dX4_takeThings_95 z
    · refine bk_aload_n hX 1 dX4_takeThings_34 rfl ?_
      refine bk_getr hX hb.1 rfl fl_X4_22 dX4_takeThings_35 ?_
      refine bk_iload_n hX 0 dX4_takeThings_38 rfl ?_
      refine bk_aload_n hX 2 dX4_takeThings_39 rfl ?_
      refine bk_getr hX hs1.1 rfl fl_X4_46 dX4_takeThings_40 ?_
      refine bk_iconst hX bk_ci_4 dX4_takeThings_43 ?_
      refine bk_iload_n hX 0 dX4_takeThings_44 rfl ?_
      refine bk_imul hX dX4_takeThings_45 ?_
      refine bk_iaload hX hs1.2 dX4_takeThings_46 ?_
      refine bk_callS_i hX [.int (a7.2 (s1 + 1) (Int32.toNatClampNeg ((4 : Int32) * a7.1)))] [.int a7.1, .ref (bk_r w (b + 2))] yk_X6_sortOf ys_X6_sortOf lk_X4_56 rfl rfl (Nat.le_of_ble_eq_true rfl) ⟨Nat.le_of_ble_eq_true rfl, Nat.le_of_ble_eq_true rfl⟩ dX4_takeThings_47 (m_X6_sortOf w) (bk_pu (fun r8 => ?_))
      refine bk_iastore hX hb.2.2.1 dX4_takeThings_50 (fun σ9 => ?_)
      refine bk_aload_n hX 1 dX4_takeThings_51 rfl ?_
      refine bk_getr hX hb.1 rfl fl_X4_25 dX4_takeThings_52 ?_
      refine bk_iload_n hX 0 dX4_takeThings_55 rfl ?_
      refine bk_aload_n hX 2 dX4_takeThings_56 rfl ?_
      refine bk_getr hX hs1.1 rfl fl_X4_46 dX4_takeThings_57 ?_
      refine bk_iconst hX bk_ci_4 dX4_takeThings_60 ?_
      refine bk_iload_n hX 0 dX4_takeThings_61 rfl ?_
      refine bk_imul hX dX4_takeThings_62 ?_
      refine bk_iconst hX bk_ci_1 dX4_takeThings_63 ?_
      refine bk_iadd hX dX4_takeThings_64 ?_
      refine bk_iaload hX hs1.2 dX4_takeThings_65 ?_
      refine bk_bipush hX bk_cb_48 dX4_takeThings_66 ?_
      refine bk_isub hX dX4_takeThings_68 ?_
      refine bk_iastore hX hb.2.2.2.1 dX4_takeThings_69 (fun σ10 => ?_)
      refine bk_aload_n hX 1 dX4_takeThings_70 rfl ?_
      refine bk_getr hX hb.1 rfl fl_X4_28 dX4_takeThings_71 ?_
      refine bk_iload_n hX 0 dX4_takeThings_74 rfl ?_
      refine bk_aload_n hX 2 dX4_takeThings_75 rfl ?_
      refine bk_getr hX hs1.1 rfl fl_X4_46 dX4_takeThings_76 ?_
      refine bk_iconst hX bk_ci_4 dX4_takeThings_79 ?_
      refine bk_iload_n hX 0 dX4_takeThings_80 rfl ?_
      refine bk_imul hX dX4_takeThings_81 ?_
      refine bk_iconst hX bk_ci_2 dX4_takeThings_82 ?_
      refine bk_iadd hX dX4_takeThings_83 ?_
      refine bk_iaload hX hs1.2 dX4_takeThings_84 ?_
      refine bk_bipush hX bk_cb_48 dX4_takeThings_85 ?_
      refine bk_isub hX dX4_takeThings_87 ?_
      refine bk_iastore hX hb.2.2.2.2.1 dX4_takeThings_88 (fun σ11 => ?_)
      refine bk_iinc hX 0 (fun v12 => [(2, .int v12), (0, .ref (bk_r w b)), (1, .ref (bk_r w s1))]) dX4_takeThings_89 rfl bk_ci_1 (Nat.le_of_ble_eq_true rfl) (fun _ => rfl) (fun v12 => ?_)
      refine bk_goto hX 26 dX4_takeThings_92 rfl ?_
      exact bk_pick [0, 1, 2] rfl (hK6 (v12, σ11))
  · refine bk_icmp_ne hX 20 dX4_takeThings_6 rfl ?_ ?_
    · refine bk_iconst hX bk_ci_0 dX4_takeThings_20 ?_
      exact bk_pick [0, 1] rfl (hK2 (0 : Int32))
    · refine bk_aload_n hX 1 dX4_takeThings_9 rfl ?_
      refine bk_geti hX hs1.1 rfl fl_X4_43 dX4_takeThings_10 ?_
      refine bk_iconst hX bk_ci_1 dX4_takeThings_13 ?_
      refine bk_iadd hX dX4_takeThings_14 ?_
      refine bk_iconst hX bk_ci_4 dX4_takeThings_15 ?_
      refine bk_idiv hX dX4_takeThings_16 ?_
      refine bk_goto hX 21 dX4_takeThings_17 rfl ?_
      exact bk_pick [0, 1] rfl (hK2 (((σ s1 2) + (1 : Int32)) / (4 : Int32)))

def w_X4_takeEvent (b : Nat) (x1 : Int32) (x2 : Int32) (x3 : Int32) (σ : bk_S) (post : bk_S → Prop) : Prop :=
  bk_jn (α := Unit) (fun a2 =>
    vp_in x2 12 ∧ vp_in x2 12 ∧ bk_lt (α := bk_S) (bk_u σ (b + 6) (Int32.toNatClampNeg x2) ((σ (b + 6) (Int32.toNatClampNeg x2)) ||| ((1 : Int32) <<< (x1 &&& 31)))) fun σ4 =>
    post σ4) (fun K1 =>
    (x1 = 0 → K1 ()) ∧ (¬ x1 = 0 → ((¬ x1 = (1 : Int32) → (vp_in x2 12 ∧ vp_in x2 12 ∧ bk_lt (α := bk_S) (bk_u σ (b + 5) (Int32.toNatClampNeg x2) ((σ (b + 5) (Int32.toNatClampNeg x2)) ||| ((1 : Int32) <<< (x3 &&& 31)))) fun σ3 =>
    post σ3)) ∧ (x1 = (1 : Int32) → K1 ()))))
set_option maxRecDepth 20000 in
theorem m_X4_takeEvent (w : bk_W) {b : Nat} {x1 : Int32} {x2 : Int32} {x3 : Int32} (hb : bk_set b) {σ : bk_S} {post : bk_S → Prop} : w_X4_takeEvent b x1 x2 x3 σ post → bk_Mv lyC w yX4_takeEvent cX4_takeEvent 4 0 0 [.ref (bk_r w b), .int x1, .int x2, .int x3] σ post := by
  intro h0
  refine bk_mv (by decide) (Nat.le_of_ble_eq_true rfl) (fun X hX hret => ?_)
  revert h0
  unfold w_X4_takeEvent
  show _ → bk_At lyC w X 0 [(0, .ref (bk_r w b)), (1, .int x1), (2, .int x2), (3, .int x3)] [] σ
  refine bk_iload_n hX 1 dX4_takeEvent_0 rfl ?_
  refine bk_r_jn (α := Unit) (J := fun a => bk_At lyC w X 9 [(0, .ref (bk_r w b)), (1, .int x1), (2, .int x2), (3, .int x3)] [] σ) (fun a2 => ?_) (fun K1 hK1 => ?_)
  · refine bk_aload_n hX 0 dX4_takeEvent_9 rfl ?_
    refine bk_getr hX hb.1 rfl fl_X4_34 dX4_takeEvent_10 ?_
    refine bk_iload_n hX 2 dX4_takeEvent_13 rfl ?_
    refine bk_dup2 hX rfl rfl dX4_takeEvent_14 ?_
    refine bk_iaload hX hb.2.2.2.2.2.2 dX4_takeEvent_15 ?_
    refine bk_iconst hX bk_ci_1 dX4_takeEvent_16 ?_
    refine bk_iload_n hX 1 dX4_takeEvent_17 rfl ?_
    refine bk_ishl hX dX4_takeEvent_18 ?_
    refine bk_ior hX dX4_takeEvent_19 ?_
    refine bk_iastore hX hb.2.2.2.2.2.2 dX4_takeEvent_20 (fun σ4 => ?_)
    refine bk_goto hX 36 dX4_takeEvent_21 rfl ?_
    exact fun z => hret _ _ _ dX4_takeEvent_36 z
  · refine bk_if_eq hX 9 dX4_takeEvent_1 rfl ?_ ?_
    · exact bk_pick [0, 1, 2, 3] rfl (hK1 ())
    · refine bk_iload_n hX 1 dX4_takeEvent_4 rfl ?_
      refine bk_iconst hX bk_ci_1 dX4_takeEvent_5 ?_
      refine bk_icmp_ne hX 24 dX4_takeEvent_6 rfl ?_ ?_
      · refine bk_aload_n hX 0 dX4_takeEvent_24 rfl ?_
        refine bk_getr hX hb.1 rfl fl_X4_31 dX4_takeEvent_25 ?_
        refine bk_iload_n hX 2 dX4_takeEvent_28 rfl ?_
        refine bk_dup2 hX rfl rfl dX4_takeEvent_29 ?_
        refine bk_iaload hX hb.2.2.2.2.2.1 dX4_takeEvent_30 ?_
        refine bk_iconst hX bk_ci_1 dX4_takeEvent_31 ?_
        refine bk_iload_n hX 3 dX4_takeEvent_32 rfl ?_
        refine bk_ishl hX dX4_takeEvent_33 ?_
        refine bk_ior hX dX4_takeEvent_34 ?_
        refine bk_iastore hX hb.2.2.2.2.2.1 dX4_takeEvent_35 (fun σ3 => ?_)
        exact fun z => hret _ _ _ dX4_takeEvent_36 z
      · exact bk_pick [0, 1, 2, 3] rfl (hK1 ())

def w_X4_takeEvents (b : Nat) (s1 : Nat) (x2 : Int32) (σ : bk_S) (post : bk_S → Prop) : Prop :=
  w_J_fill (b + 5) 12 (0 : Int32) σ (fun σ1 =>
    w_J_fill (b + 6) 12 (0 : Int32) σ1 (fun σ2 =>
      bk_lt (α := Int32) (0 : Int32) fun v3 =>
      bk_loop (α := Int32 × bk_S) (fun K4 a5 =>
        ((a5.2 s1 3) ≤ a5.1 → post a5.2) ∧ (¬ (a5.2 s1 3) ≤ a5.1 → ((¬ ((x2 >>> (a5.1 &&& 31)) &&& (1 : Int32)) = (1 : Int32) → (bk_lt (α := Int32) (a5.1 + (1 : Int32)) fun v6 =>
        K4 (v6, a5.2))) ∧ (((x2 >>> (a5.1 &&& 31)) &&& (1 : Int32)) = (1 : Int32) → (vp_in a5.1 8 ∧ vp_in a5.1 8 ∧ vp_in a5.1 8 ∧ w_X4_takeEvent b (a5.2 (s1 + 1) (Int32.toNatClampNeg a5.1)) (a5.2 (s1 + 2) (Int32.toNatClampNeg a5.1)) (a5.2 (s1 + 3) (Int32.toNatClampNeg a5.1)) a5.2 (fun σ7 =>
          bk_lt (α := Int32) (a5.1 + (1 : Int32)) fun v8 =>
          K4 (v8, σ7))))))) (v3, σ2)))
set_option maxRecDepth 20000 in
theorem m_X4_takeEvents (w : bk_W) {b : Nat} {s1 : Nat} {x2 : Int32} (hb : bk_set b) (hs1 : bk_tri s1) {σ : bk_S} {post : bk_S → Prop} : w_X4_takeEvents b s1 x2 σ post → bk_Mv lyC w yX4_takeEvents cX4_takeEvents 4 1 23 [.ref (bk_r w b), .ref (bk_r w s1), .int x2] σ post := by
  intro h0
  refine bk_mv (by decide) (Nat.le_of_ble_eq_true rfl) (fun X hX hret => ?_)
  revert h0
  unfold w_X4_takeEvents
  show _ → bk_At lyC w X 0 [(0, .ref (bk_r w b)), (1, .ref (bk_r w s1)), (2, .int x2)] [] σ
  refine bk_aload_n hX 0 dX4_takeEvents_0 rfl ?_
  refine bk_getr hX hb.1 rfl fl_X4_31 dX4_takeEvents_1 ?_
  refine bk_iconst hX bk_ci_0 dX4_takeEvents_4 ?_
  refine bk_callS_v hX [.ref (bk_r w (b + 5)), .int (0 : Int32)] [] yk_J_fill ys_J_fill lk_X4_59 rfl rfl (Nat.le_of_ble_eq_true rfl) ⟨Nat.le_of_ble_eq_true rfl, Nat.le_of_ble_eq_true rfl⟩ dX4_takeEvents_5 (m_J_fill w hb.2.2.2.2.2.1) (fun σ1 => ?_)
  refine bk_aload_n hX 0 dX4_takeEvents_8 rfl ?_
  refine bk_getr hX hb.1 rfl fl_X4_34 dX4_takeEvents_9 ?_
  refine bk_iconst hX bk_ci_0 dX4_takeEvents_12 ?_
  refine bk_callS_v hX [.ref (bk_r w (b + 6)), .int (0 : Int32)] [] yk_J_fill ys_J_fill lk_X4_59 rfl rfl (Nat.le_of_ble_eq_true rfl) ⟨Nat.le_of_ble_eq_true rfl, Nat.le_of_ble_eq_true rfl⟩ dX4_takeEvents_13 (m_J_fill w hb.2.2.2.2.2.2) (fun σ2 => ?_)
  refine bk_iconst hX bk_ci_0 dX4_takeEvents_16 ?_
  refine bk_istore_n hX (fun v3 => [(3, .int v3), (0, .ref (bk_r w b)), (1, .ref (bk_r w s1)), (2, .int x2)]) dX4_takeEvents_17 (Nat.le_of_ble_eq_true rfl) (fun _ => rfl) (fun v3 => ?_)
  refine bk_pick [0, 1, 2, 3] rfl (bk_r_loop (α := Int32 × bk_S) (J := fun a => bk_At lyC w X 18 [(3, .int a.1), (0, .ref (bk_r w b)), (1, .ref (bk_r w s1)), (2, .int x2)] [] a.2) (v3, σ2) (fun K4 hK4 a5 => ?_))
  refine bk_iload_n hX 0 dX4_takeEvents_18 rfl ?_
  refine bk_aload_n hX 2 dX4_takeEvents_19 rfl ?_
  refine bk_geti hX hs1.1 rfl fl_X4_65 dX4_takeEvents_20 ?_
  refine bk_icmp_ge hX 63 dX4_takeEvents_23 rfl ?_ ?_
  · exact fun z => hret _ _ _ dX4_takeEvents_63 z
  · refine bk_iload_n hX 3 dX4_takeEvents_26 rfl ?_
    refine bk_iload_n hX 0 dX4_takeEvents_27 rfl ?_
    refine bk_ishr hX dX4_takeEvents_28 ?_
    refine bk_iconst hX bk_ci_1 dX4_takeEvents_29 ?_
    refine bk_iand hX dX4_takeEvents_30 ?_
    refine bk_iconst hX bk_ci_1 dX4_takeEvents_31 ?_
    refine bk_icmp_ne hX 57 dX4_takeEvents_32 rfl ?_ ?_
    · refine bk_iinc hX 0 (fun v6 => [(3, .int v6), (0, .ref (bk_r w b)), (1, .ref (bk_r w s1)), (2, .int x2)]) dX4_takeEvents_57 rfl bk_ci_1 (Nat.le_of_ble_eq_true rfl) (fun _ => rfl) (fun v6 => ?_)
      refine bk_goto hX 18 dX4_takeEvents_60 rfl ?_
      exact bk_pick [0, 1, 2, 3] rfl (hK4 (v6, a5.2))
    · refine bk_aload_n hX 1 dX4_takeEvents_35 rfl ?_
      refine bk_aload_n hX 2 dX4_takeEvents_36 rfl ?_
      refine bk_getr hX hs1.1 rfl fl_X4_70 dX4_takeEvents_37 ?_
      refine bk_iload_n hX 0 dX4_takeEvents_40 rfl ?_
      refine bk_iaload hX hs1.2.1 dX4_takeEvents_41 ?_
      refine bk_aload_n hX 2 dX4_takeEvents_42 rfl ?_
      refine bk_getr hX hs1.1 rfl fl_X4_73 dX4_takeEvents_43 ?_
      refine bk_iload_n hX 0 dX4_takeEvents_46 rfl ?_
      refine bk_iaload hX hs1.2.2.1 dX4_takeEvents_47 ?_
      refine bk_aload_n hX 2 dX4_takeEvents_48 rfl ?_
      refine bk_getr hX hs1.1 rfl fl_X4_76 dX4_takeEvents_49 ?_
      refine bk_iload_n hX 0 dX4_takeEvents_52 rfl ?_
      refine bk_iaload hX hs1.2.2.2 dX4_takeEvents_53 ?_
      refine bk_callV_v hX [.int (a5.2 (s1 + 1) (Int32.toNatClampNeg a5.1)), .int (a5.2 (s1 + 2) (Int32.toNatClampNeg a5.1)), .int (a5.2 (s1 + 3) (Int32.toNatClampNeg a5.1))] [] yk_X4_takeEvent yv_X4_takeEvent lk_X4_79 rfl rfl hb.1 rfl rfl (Nat.le_of_ble_eq_true rfl) ⟨Nat.le_of_ble_eq_true rfl, Nat.le_of_ble_eq_true rfl⟩ dX4_takeEvents_54 (m_X4_takeEvent w hb) (fun σ7 => ?_)
      refine bk_iinc hX 0 (fun v8 => [(3, .int v8), (0, .ref (bk_r w b)), (1, .ref (bk_r w s1)), (2, .int x2)]) dX4_takeEvents_57 rfl bk_ci_1 (Nat.le_of_ble_eq_true rfl) (fun _ => rfl) (fun v8 => ?_)
      refine bk_goto hX 18 dX4_takeEvents_60 rfl ?_
      exact bk_pick [0, 1, 2, 3] rfl (hK4 (v8, σ7))

def w_X4_copyFrom (b : Nat) (s1 : Nat) (σ : bk_S) (post : bk_S → Prop) : Prop :=
  bk_lt (α := bk_S) (bk_u σ b 0 (σ s1 0)) fun σ1 =>
  bk_lt (α := bk_S) (bk_u σ1 b 1 (σ1 s1 1)) fun σ2 =>
  (¬ (0 : Int32) < 0 ∧ ¬ (0 : Int32) < 0 ∧ ¬ (12 : Int32) < 0 ∧ Int32.toNatClampNeg (0 : Int32) + Int32.toNatClampNeg (12 : Int32) ≤ 12 ∧ Int32.toNatClampNeg (0 : Int32) + Int32.toNatClampNeg (12 : Int32) ≤ 12) ∧ bk_lt (α := bk_S) (bk_w σ2 (b + 1) (va_cpy (σ2 (s1 + 1)) (σ2 (b + 1)) (Int32.toNatClampNeg (0 : Int32)) (Int32.toNatClampNeg (0 : Int32)) (Int32.toNatClampNeg (12 : Int32)))) fun σ3 =>
  (¬ (0 : Int32) < 0 ∧ ¬ (0 : Int32) < 0 ∧ ¬ (8 : Int32) < 0 ∧ Int32.toNatClampNeg (0 : Int32) + Int32.toNatClampNeg (8 : Int32) ≤ 8 ∧ Int32.toNatClampNeg (0 : Int32) + Int32.toNatClampNeg (8 : Int32) ≤ 8) ∧ bk_lt (α := bk_S) (bk_w σ3 (b + 2) (va_cpy (σ3 (s1 + 2)) (σ3 (b + 2)) (Int32.toNatClampNeg (0 : Int32)) (Int32.toNatClampNeg (0 : Int32)) (Int32.toNatClampNeg (8 : Int32)))) fun σ4 =>
  (¬ (0 : Int32) < 0 ∧ ¬ (0 : Int32) < 0 ∧ ¬ (8 : Int32) < 0 ∧ Int32.toNatClampNeg (0 : Int32) + Int32.toNatClampNeg (8 : Int32) ≤ 8 ∧ Int32.toNatClampNeg (0 : Int32) + Int32.toNatClampNeg (8 : Int32) ≤ 8) ∧ bk_lt (α := bk_S) (bk_w σ4 (b + 3) (va_cpy (σ4 (s1 + 3)) (σ4 (b + 3)) (Int32.toNatClampNeg (0 : Int32)) (Int32.toNatClampNeg (0 : Int32)) (Int32.toNatClampNeg (8 : Int32)))) fun σ5 =>
  (¬ (0 : Int32) < 0 ∧ ¬ (0 : Int32) < 0 ∧ ¬ (8 : Int32) < 0 ∧ Int32.toNatClampNeg (0 : Int32) + Int32.toNatClampNeg (8 : Int32) ≤ 8 ∧ Int32.toNatClampNeg (0 : Int32) + Int32.toNatClampNeg (8 : Int32) ≤ 8) ∧ bk_lt (α := bk_S) (bk_w σ5 (b + 4) (va_cpy (σ5 (s1 + 4)) (σ5 (b + 4)) (Int32.toNatClampNeg (0 : Int32)) (Int32.toNatClampNeg (0 : Int32)) (Int32.toNatClampNeg (8 : Int32)))) fun σ6 =>
  (¬ (0 : Int32) < 0 ∧ ¬ (0 : Int32) < 0 ∧ ¬ (12 : Int32) < 0 ∧ Int32.toNatClampNeg (0 : Int32) + Int32.toNatClampNeg (12 : Int32) ≤ 12 ∧ Int32.toNatClampNeg (0 : Int32) + Int32.toNatClampNeg (12 : Int32) ≤ 12) ∧ bk_lt (α := bk_S) (bk_w σ6 (b + 5) (va_cpy (σ6 (s1 + 5)) (σ6 (b + 5)) (Int32.toNatClampNeg (0 : Int32)) (Int32.toNatClampNeg (0 : Int32)) (Int32.toNatClampNeg (12 : Int32)))) fun σ7 =>
  (¬ (0 : Int32) < 0 ∧ ¬ (0 : Int32) < 0 ∧ ¬ (12 : Int32) < 0 ∧ Int32.toNatClampNeg (0 : Int32) + Int32.toNatClampNeg (12 : Int32) ≤ 12 ∧ Int32.toNatClampNeg (0 : Int32) + Int32.toNatClampNeg (12 : Int32) ≤ 12) ∧ bk_lt (α := bk_S) (bk_w σ7 (b + 6) (va_cpy (σ7 (s1 + 6)) (σ7 (b + 6)) (Int32.toNatClampNeg (0 : Int32)) (Int32.toNatClampNeg (0 : Int32)) (Int32.toNatClampNeg (12 : Int32)))) fun σ8 =>
  post σ8
set_option maxRecDepth 20000 in
theorem m_X4_copyFrom (w : bk_W) {b : Nat} {s1 : Nat} (hb : bk_set b) (hs1 : bk_set s1) {σ : bk_S} {post : bk_S → Prop} : w_X4_copyFrom b s1 σ post → bk_Mv lyC w yX4_copyFrom cX4_copyFrom 2 1 40 [.ref (bk_r w b), .ref (bk_r w s1)] σ post := by
  intro h0
  refine bk_mv (by decide) (Nat.le_of_ble_eq_true rfl) (fun X hX hret => ?_)
  revert h0
  unfold w_X4_copyFrom
  show _ → bk_At lyC w X 0 [(0, .ref (bk_r w b)), (1, .ref (bk_r w s1))] [] σ
  refine bk_aload_n hX 0 dX4_copyFrom_0 rfl ?_
  refine bk_aload_n hX 1 dX4_copyFrom_1 rfl ?_
  refine bk_geti hX hs1.1 rfl fl_X4_9 dX4_copyFrom_2 ?_
  refine bk_putI hX hb.1 rfl fp_X4_9 dX4_copyFrom_5 (fun σ1 => ?_)
  refine bk_aload_n hX 0 dX4_copyFrom_8 rfl ?_
  refine bk_aload_n hX 1 dX4_copyFrom_9 rfl ?_
  refine bk_geti hX hs1.1 rfl fl_X4_15 dX4_copyFrom_10 ?_
  refine bk_putI hX hb.1 rfl fp_X4_15 dX4_copyFrom_13 (fun σ2 => ?_)
  refine bk_aload_n hX 1 dX4_copyFrom_16 rfl ?_
  refine bk_getr hX hs1.1 rfl fl_X4_18 dX4_copyFrom_17 ?_
  refine bk_iconst hX bk_ci_0 dX4_copyFrom_20 ?_
  refine bk_aload_n hX 0 dX4_copyFrom_21 rfl ?_
  refine bk_getr hX hb.1 rfl fl_X4_18 dX4_copyFrom_22 ?_
  refine bk_iconst hX bk_ci_0 dX4_copyFrom_25 ?_
  refine bk_bipush hX bk_cb_12 dX4_copyFrom_26 ?_
  refine bk_copy hX hs1.2.1 hb.2.1 lk_X4_83 wd_native wd_acstatic wd_system (Nat.le_of_ble_eq_true rfl) (Nat.le_of_ble_eq_true rfl) dX4_copyFrom_28 (fun σ3 => ?_)
  refine bk_aload_n hX 1 dX4_copyFrom_31 rfl ?_
  refine bk_getr hX hs1.1 rfl fl_X4_22 dX4_copyFrom_32 ?_
  refine bk_iconst hX bk_ci_0 dX4_copyFrom_35 ?_
  refine bk_aload_n hX 0 dX4_copyFrom_36 rfl ?_
  refine bk_getr hX hb.1 rfl fl_X4_22 dX4_copyFrom_37 ?_
  refine bk_iconst hX bk_ci_0 dX4_copyFrom_40 ?_
  refine bk_bipush hX bk_cb_8 dX4_copyFrom_41 ?_
  refine bk_copy hX hs1.2.2.1 hb.2.2.1 lk_X4_83 wd_native wd_acstatic wd_system (Nat.le_of_ble_eq_true rfl) (Nat.le_of_ble_eq_true rfl) dX4_copyFrom_43 (fun σ4 => ?_)
  refine bk_aload_n hX 1 dX4_copyFrom_46 rfl ?_
  refine bk_getr hX hs1.1 rfl fl_X4_25 dX4_copyFrom_47 ?_
  refine bk_iconst hX bk_ci_0 dX4_copyFrom_50 ?_
  refine bk_aload_n hX 0 dX4_copyFrom_51 rfl ?_
  refine bk_getr hX hb.1 rfl fl_X4_25 dX4_copyFrom_52 ?_
  refine bk_iconst hX bk_ci_0 dX4_copyFrom_55 ?_
  refine bk_bipush hX bk_cb_8 dX4_copyFrom_56 ?_
  refine bk_copy hX hs1.2.2.2.1 hb.2.2.2.1 lk_X4_83 wd_native wd_acstatic wd_system (Nat.le_of_ble_eq_true rfl) (Nat.le_of_ble_eq_true rfl) dX4_copyFrom_58 (fun σ5 => ?_)
  refine bk_aload_n hX 1 dX4_copyFrom_61 rfl ?_
  refine bk_getr hX hs1.1 rfl fl_X4_28 dX4_copyFrom_62 ?_
  refine bk_iconst hX bk_ci_0 dX4_copyFrom_65 ?_
  refine bk_aload_n hX 0 dX4_copyFrom_66 rfl ?_
  refine bk_getr hX hb.1 rfl fl_X4_28 dX4_copyFrom_67 ?_
  refine bk_iconst hX bk_ci_0 dX4_copyFrom_70 ?_
  refine bk_bipush hX bk_cb_8 dX4_copyFrom_71 ?_
  refine bk_copy hX hs1.2.2.2.2.1 hb.2.2.2.2.1 lk_X4_83 wd_native wd_acstatic wd_system (Nat.le_of_ble_eq_true rfl) (Nat.le_of_ble_eq_true rfl) dX4_copyFrom_73 (fun σ6 => ?_)
  refine bk_aload_n hX 1 dX4_copyFrom_76 rfl ?_
  refine bk_getr hX hs1.1 rfl fl_X4_31 dX4_copyFrom_77 ?_
  refine bk_iconst hX bk_ci_0 dX4_copyFrom_80 ?_
  refine bk_aload_n hX 0 dX4_copyFrom_81 rfl ?_
  refine bk_getr hX hb.1 rfl fl_X4_31 dX4_copyFrom_82 ?_
  refine bk_iconst hX bk_ci_0 dX4_copyFrom_85 ?_
  refine bk_bipush hX bk_cb_12 dX4_copyFrom_86 ?_
  refine bk_copy hX hs1.2.2.2.2.2.1 hb.2.2.2.2.2.1 lk_X4_83 wd_native wd_acstatic wd_system (Nat.le_of_ble_eq_true rfl) (Nat.le_of_ble_eq_true rfl) dX4_copyFrom_88 (fun σ7 => ?_)
  refine bk_aload_n hX 1 dX4_copyFrom_91 rfl ?_
  refine bk_getr hX hs1.1 rfl fl_X4_34 dX4_copyFrom_92 ?_
  refine bk_iconst hX bk_ci_0 dX4_copyFrom_95 ?_
  refine bk_aload_n hX 0 dX4_copyFrom_96 rfl ?_
  refine bk_getr hX hb.1 rfl fl_X4_34 dX4_copyFrom_97 ?_
  refine bk_iconst hX bk_ci_0 dX4_copyFrom_100 ?_
  refine bk_bipush hX bk_cb_12 dX4_copyFrom_101 ?_
  refine bk_copy hX hs1.2.2.2.2.2.2 hb.2.2.2.2.2.2 lk_X4_83 wd_native wd_acstatic wd_system (Nat.le_of_ble_eq_true rfl) (Nat.le_of_ble_eq_true rfl) dX4_copyFrom_103 (fun σ8 => ?_)
  exact fun z => hret _ _ _ dX4_copyFrom_106 z

def w_X4_allThings (b : Nat) (σ : bk_S) (post : Int32 → Prop) : Prop :=
  post (((1 : Int32) <<< ((σ b 1) &&& 31)) - (1 : Int32))
set_option maxRecDepth 20000 in
theorem m_X4_allThings (w : bk_W) {b : Nat} (hb : bk_set b) {σ : bk_S} {post : Int32 → Prop} : w_X4_allThings b σ post → bk_Mi lyC w yX4_allThings cX4_allThings 1 .int 0 0 [.ref (bk_r w b)] σ (fun r σ1 => post r ∧ σ1 = σ) := by
  intro h0
  refine bk_mi (by decide) (Nat.le_of_ble_eq_true rfl) (fun X hX hret => ?_)
  revert h0
  unfold w_X4_allThings
  show _ → bk_At lyC w X 0 [(0, .ref (bk_r w b))] [] σ
  refine bk_iconst hX bk_ci_1 dX4_allThings_0 ?_
  refine bk_aload_n hX 0 dX4_allThings_1 rfl ?_
  refine bk_geti hX hb.1 rfl fl_X4_15 dX4_allThings_2 ?_
  refine bk_ishl hX dX4_allThings_5 ?_
  refine bk_iconst hX bk_ci_1 dX4_allThings_6 ?_
  refine bk_isub hX dX4_allThings_7 ?_
  exact fun z => hret _ _ _ _ dX4_allThings_8 rfl ⟨z, rfl⟩

def w_X4_exchangeIn (q0 : Nat) (n0 : Nat) (x1 : Int32) (x2 : Int32) (σ : bk_S) (post : bk_S → Prop) : Prop :=
  vp_in x1 n0 ∧ bk_lt (α := Int32) (σ q0 (Int32.toNatClampNeg x1)) fun v1 =>
  vp_in x2 n0 ∧ vp_in x1 n0 ∧ bk_lt (α := bk_S) (bk_u σ q0 (Int32.toNatClampNeg x1) (σ q0 (Int32.toNatClampNeg x2))) fun σ2 =>
  vp_in x2 n0 ∧ bk_lt (α := bk_S) (bk_u σ2 q0 (Int32.toNatClampNeg x2) v1) fun σ3 =>
  post σ3
set_option maxRecDepth 20000 in
theorem m_X4_exchangeIn (w : bk_W) {q0 : Nat} {n0 : Nat} {x1 : Int32} {x2 : Int32} (hq0 : bk_is lyC q0 (.inl (0, n0))) {σ : bk_S} {post : bk_S → Prop} : w_X4_exchangeIn q0 n0 x1 x2 σ post → bk_Mv lyC w yX4_exchangeIn cX4_exchangeIn 4 0 0 [.ref (bk_r w q0), .int x1, .int x2] σ post := by
  intro h0
  refine bk_mv (by decide) (Nat.le_of_ble_eq_true rfl) (fun X hX hret => ?_)
  revert h0
  unfold w_X4_exchangeIn
  show _ → bk_At lyC w X 0 [(0, .ref (bk_r w q0)), (1, .int x1), (2, .int x2)] [] σ
  refine bk_aload_n hX 0 dX4_exchangeIn_0 rfl ?_
  refine bk_iload_n hX 1 dX4_exchangeIn_1 rfl ?_
  refine bk_iaload hX hq0 dX4_exchangeIn_2 ?_
  refine bk_istore_n hX (fun v1 => [(3, .int v1), (0, .ref (bk_r w q0)), (1, .int x1), (2, .int x2)]) dX4_exchangeIn_3 (Nat.le_of_ble_eq_true rfl) (fun _ => rfl) (fun v1 => ?_)
  refine bk_aload_n hX 1 dX4_exchangeIn_4 rfl ?_
  refine bk_iload_n hX 2 dX4_exchangeIn_5 rfl ?_
  refine bk_aload_n hX 1 dX4_exchangeIn_6 rfl ?_
  refine bk_iload_n hX 3 dX4_exchangeIn_7 rfl ?_
  refine bk_iaload hX hq0 dX4_exchangeIn_8 ?_
  refine bk_iastore hX hq0 dX4_exchangeIn_9 (fun σ2 => ?_)
  refine bk_aload_n hX 1 dX4_exchangeIn_10 rfl ?_
  refine bk_iload_n hX 3 dX4_exchangeIn_11 rfl ?_
  refine bk_iload_n hX 0 dX4_exchangeIn_12 rfl ?_
  refine bk_iastore hX hq0 dX4_exchangeIn_13 (fun σ3 => ?_)
  exact fun z => hret _ _ _ dX4_exchangeIn_14 z

def w_X4_exchange (b : Nat) (x1 : Int32) (x2 : Int32) (σ : bk_S) (post : bk_S → Prop) : Prop :=
  w_X4_exchangeIn (b + 2) 8 x1 x2 σ (fun σ1 =>
    w_X4_exchangeIn (b + 3) 8 x1 x2 σ1 (fun σ2 =>
      w_X4_exchangeIn (b + 4) 8 x1 x2 σ2 (fun σ3 =>
        post σ3)))
set_option maxRecDepth 20000 in
theorem m_X4_exchange (w : bk_W) {b : Nat} {x1 : Int32} {x2 : Int32} (hb : bk_set b) {σ : bk_S} {post : bk_S → Prop} : w_X4_exchange b x1 x2 σ post → bk_Mv lyC w yX4_exchange cX4_exchange 3 1 23 [.ref (bk_r w b), .int x1, .int x2] σ post := by
  intro h0
  refine bk_mv (by decide) (Nat.le_of_ble_eq_true rfl) (fun X hX hret => ?_)
  revert h0
  unfold w_X4_exchange
  show _ → bk_At lyC w X 0 [(0, .ref (bk_r w b)), (1, .int x1), (2, .int x2)] [] σ
  refine bk_aload_n hX 0 dX4_exchange_0 rfl ?_
  refine bk_getr hX hb.1 rfl fl_X4_22 dX4_exchange_1 ?_
  refine bk_iload_n hX 1 dX4_exchange_4 rfl ?_
  refine bk_iload_n hX 2 dX4_exchange_5 rfl ?_
  refine bk_callS_v hX [.ref (bk_r w (b + 2)), .int x1, .int x2] [] yk_X4_exchangeIn ys_X4_exchangeIn lk_X4_89 rfl rfl (Nat.le_of_ble_eq_true rfl) ⟨Nat.le_of_ble_eq_true rfl, Nat.le_of_ble_eq_true rfl⟩ dX4_exchange_6 (m_X4_exchangeIn w hb.2.2.1) (fun σ1 => ?_)
  refine bk_aload_n hX 0 dX4_exchange_9 rfl ?_
  refine bk_getr hX hb.1 rfl fl_X4_25 dX4_exchange_10 ?_
  refine bk_iload_n hX 1 dX4_exchange_13 rfl ?_
  refine bk_iload_n hX 2 dX4_exchange_14 rfl ?_
  refine bk_callS_v hX [.ref (bk_r w (b + 3)), .int x1, .int x2] [] yk_X4_exchangeIn ys_X4_exchangeIn lk_X4_89 rfl rfl (Nat.le_of_ble_eq_true rfl) ⟨Nat.le_of_ble_eq_true rfl, Nat.le_of_ble_eq_true rfl⟩ dX4_exchange_15 (m_X4_exchangeIn w hb.2.2.2.1) (fun σ2 => ?_)
  refine bk_aload_n hX 0 dX4_exchange_18 rfl ?_
  refine bk_getr hX hb.1 rfl fl_X4_28 dX4_exchange_19 ?_
  refine bk_iload_n hX 1 dX4_exchange_22 rfl ?_
  refine bk_iload_n hX 2 dX4_exchange_23 rfl ?_
  refine bk_callS_v hX [.ref (bk_r w (b + 4)), .int x1, .int x2] [] yk_X4_exchangeIn ys_X4_exchangeIn lk_X4_89 rfl rfl (Nat.le_of_ble_eq_true rfl) ⟨Nat.le_of_ble_eq_true rfl, Nat.le_of_ble_eq_true rfl⟩ dX4_exchange_24 (m_X4_exchangeIn w hb.2.2.2.2.1) (fun σ3 => ?_)
  exact fun z => hret _ _ _ dX4_exchange_27 z

def w_X5_isLost (b : Nat) (σ : bk_S) (post : Int32 → Prop) : Prop :=
  (0 ≤ (σ b 1) → post (0 : Int32)) ∧ (¬ 0 ≤ (σ b 1) → post (1 : Int32))
set_option maxRecDepth 20000 in
theorem m_X5_isLost (w : bk_W) {b : Nat} (hb : bk_sht b) {σ : bk_S} {post : Int32 → Prop} : w_X5_isLost b σ post → bk_Mi lyC w yX5_isLost cX5_isLost 1 .boolean 0 0 [.ref (bk_r w b)] σ (fun r σ1 => post r ∧ σ1 = σ) := by
  intro h0
  refine bk_mi (by decide) (Nat.le_of_ble_eq_true rfl) (fun X hX hret => ?_)
  revert h0
  unfold w_X5_isLost
  show _ → bk_At lyC w X 0 [(0, .ref (bk_r w b))] [] σ
  refine bk_aload_n hX 0 dX5_isLost_0 rfl ?_
  refine bk_geti hX hb.1 rfl fl_X5_15 dX5_isLost_1 ?_
  refine bk_if_ge hX 11 dX5_isLost_4 rfl ?_ ?_
  · refine bk_iconst hX bk_ci_0 dX5_isLost_11 ?_
    exact fun z => hret _ _ _ _ dX5_isLost_12 rfl ⟨z, rfl⟩
  · refine bk_iconst hX bk_ci_1 dX5_isLost_7 ?_
    refine bk_goto hX 12 dX5_isLost_8 rfl ?_
    exact fun z => hret _ _ _ _ dX5_isLost_12 rfl ⟨z, rfl⟩

def w_X5_lay (b : Nat) (x1 : Int32) (x2 : Int32) (σ : bk_S) (post : bk_S → Prop) : Prop :=
  bk_lt (α := bk_S) (bk_u σ b 0 x1) fun σ1 =>
  bk_lt (α := bk_S) (bk_u σ1 b 1 x2) fun σ2 =>
  w_J_fill (b + 1) 60 (0 : Int32) σ2 (fun σ3 =>
    post σ3)
set_option maxRecDepth 20000 in
theorem m_X5_lay (w : bk_W) {b : Nat} {x1 : Int32} {x2 : Int32} (hb : bk_sht b) {σ : bk_S} {post : bk_S → Prop} : w_X5_lay b x1 x2 σ post → bk_Mv lyC w yX5_lay cX5_lay 3 1 23 [.ref (bk_r w b), .int x1, .int x2] σ post := by
  intro h0
  refine bk_mv (by decide) (Nat.le_of_ble_eq_true rfl) (fun X hX hret => ?_)
  revert h0
  unfold w_X5_lay
  show _ → bk_At lyC w X 0 [(0, .ref (bk_r w b)), (1, .int x1), (2, .int x2)] [] σ
  refine bk_aload_n hX 0 dX5_lay_0 rfl ?_
  refine bk_iload_n hX 1 dX5_lay_1 rfl ?_
  refine bk_putI hX hb.1 rfl fp_X5_9 dX5_lay_2 (fun σ1 => ?_)
  refine bk_aload_n hX 0 dX5_lay_5 rfl ?_
  refine bk_iload_n hX 2 dX5_lay_6 rfl ?_
  refine bk_putI hX hb.1 rfl fp_X5_15 dX5_lay_7 (fun σ2 => ?_)
  refine bk_aload_n hX 0 dX5_lay_10 rfl ?_
  refine bk_getr hX hb.1 rfl fl_X5_18 dX5_lay_11 ?_
  refine bk_iconst hX bk_ci_0 dX5_lay_14 ?_
  refine bk_callS_v hX [.ref (bk_r w (b + 1)), .int (0 : Int32)] [] yk_J_fill ys_J_fill lk_X5_22 rfl rfl (Nat.le_of_ble_eq_true rfl) ⟨Nat.le_of_ble_eq_true rfl, Nat.le_of_ble_eq_true rfl⟩ dX5_lay_15 (m_J_fill w hb.2) (fun σ3 => ?_)
  exact fun z => hret _ _ _ dX5_lay_18 z

def w_X8_isBelow (x0 : Int32) (x1 : Int32) (post : Int32 → Prop) : Prop :=
  bk_jn (α := Unit) (fun a2 =>
    post (0 : Int32)) (fun K1 =>
    (x0 < 0 → K1 ()) ∧ (¬ x0 < 0 → ((x1 ≤ x0 → K1 ()) ∧ (¬ x1 ≤ x0 → post (1 : Int32)))))
set_option maxRecDepth 20000 in
theorem m_X8_isBelow (w : bk_W) {x0 : Int32} {x1 : Int32} {σ : bk_S} {post : Int32 → Prop} : w_X8_isBelow x0 x1 post → bk_Mi lyC w yX8_isBelow cX8_isBelow 2 .boolean 0 0 [.int x0, .int x1] σ (fun r σ1 => post r ∧ σ1 = σ) := by
  intro h0
  refine bk_mi (by decide) (Nat.le_of_ble_eq_true rfl) (fun X hX hret => ?_)
  revert h0
  unfold w_X8_isBelow
  show _ → bk_At lyC w X 0 [(0, .int x0), (1, .int x1)] [] σ
  refine bk_iload_n hX 0 dX8_isBelow_0 rfl ?_
  refine bk_r_jn (α := Unit) (J := fun a => bk_At lyC w X 13 [(0, .int x0), (1, .int x1)] [] σ) (fun a2 => ?_) (fun K1 hK1 => ?_)
  · refine bk_iconst hX bk_ci_0 dX8_isBelow_13 ?_
    exact fun z => hret _ _ _ _ dX8_isBelow_14 rfl ⟨z, rfl⟩
  · refine bk_if_lt hX 13 dX8_isBelow_1 rfl ?_ ?_
    · exact bk_pick [0, 1] rfl (hK1 ())
    · refine bk_iload_n hX 0 dX8_isBelow_4 rfl ?_
      refine bk_iload_n hX 1 dX8_isBelow_5 rfl ?_
      refine bk_icmp_ge hX 13 dX8_isBelow_6 rfl ?_ ?_
      · exact bk_pick [0, 1] rfl (hK1 ())
      · refine bk_iconst hX bk_ci_1 dX8_isBelow_9 ?_
        refine bk_goto hX 14 dX8_isBelow_10 rfl ?_
        exact fun z => hret _ _ _ _ dX8_isBelow_14 rfl ⟨z, rfl⟩

def w_X5_findingAt (b : Nat) (x1 : Int32) (x2 : Int32) (σ : bk_S) (post : Int32 → Prop) : Prop :=
  w_X5_isLost b σ (fun r1 =>
    (r1 = 0 → (((σ b 0) = x1 → (w_X8_isBelow x2 (σ b 1) (fun r2 =>
      (r2 = 0 → post (2 : Int32)) ∧ (¬ r2 = 0 → post (0 : Int32))))) ∧ (¬ (σ b 0) = x1 → post (3 : Int32)))) ∧ (¬ r1 = 0 → post (1 : Int32)))
set_option maxRecDepth 20000 in
theorem m_X5_findingAt (w : bk_W) {b : Nat} {x1 : Int32} {x2 : Int32} (hb : bk_sht b) {σ : bk_S} {post : Int32 → Prop} : w_X5_findingAt b x1 x2 σ post → bk_Mi lyC w yX5_findingAt cX5_findingAt 3 .int 1 21 [.ref (bk_r w b), .int x1, .int x2] σ (fun r σ1 => post r ∧ σ1 = σ) := by
  intro h0
  refine bk_mi (by decide) (Nat.le_of_ble_eq_true rfl) (fun X hX hret => ?_)
  revert h0
  unfold w_X5_findingAt
  show _ → bk_At lyC w X 0 [(0, .ref (bk_r w b)), (1, .int x1), (2, .int x2)] [] σ
  refine bk_aload_n hX 0 dX5_findingAt_0 rfl ?_
  refine bk_callV_i hX [] [] yk_X5_isLost yv_X5_isLost lk_X5_28 rfl rfl hb.1 rfl rfl (Nat.le_of_ble_eq_true rfl) ⟨Nat.le_of_ble_eq_true rfl, Nat.le_of_ble_eq_true rfl⟩ dX5_findingAt_1 (m_X5_isLost w hb) (bk_pu (fun r1 => ?_))
  refine bk_if_eq hX 9 dX5_findingAt_4 rfl ?_ ?_
  · refine bk_aload_n hX 0 dX5_findingAt_9 rfl ?_
    refine bk_geti hX hb.1 rfl fl_X5_9 dX5_findingAt_10 ?_
    refine bk_iload_n hX 1 dX5_findingAt_13 rfl ?_
    refine bk_icmp_eq hX 19 dX5_findingAt_14 rfl ?_ ?_
    · refine bk_iload_n hX 2 dX5_findingAt_19 rfl ?_
      refine bk_aload_n hX 0 dX5_findingAt_20 rfl ?_
      refine bk_geti hX hb.1 rfl fl_X5_15 dX5_findingAt_21 ?_
      refine bk_callN_i hX [.int x2, .int (σ b 1)] [] yk_X8_isBelow ys_X8_isBelow (host := RX8) (List.mem_of_getElem? (i := 8) rfl) rfl rfl (Nat.le_of_ble_eq_true rfl) ⟨Nat.le_of_ble_eq_true rfl, Nat.le_of_ble_eq_true rfl⟩ dX5_findingAt_24 (m_X8_isBelow w) (bk_pu (fun r2 => ?_))
      refine bk_if_eq hX 34 dX5_findingAt_27 rfl ?_ ?_
      · refine bk_iconst hX bk_ci_2 dX5_findingAt_34 ?_
        exact fun z => hret _ _ _ _ dX5_findingAt_35 rfl ⟨z, rfl⟩
      · refine bk_iconst hX bk_ci_0 dX5_findingAt_30 ?_
        refine bk_goto hX 35 dX5_findingAt_31 rfl ?_
        exact fun z => hret _ _ _ _ dX5_findingAt_35 rfl ⟨z, rfl⟩
    · refine bk_iconst hX bk_ci_3 dX5_findingAt_17 ?_
      exact fun z => hret _ _ _ _ dX5_findingAt_18 rfl ⟨z, rfl⟩
  · refine bk_iconst hX bk_ci_1 dX5_findingAt_7 ?_
    exact fun z => hret _ _ _ _ dX5_findingAt_8 rfl ⟨z, rfl⟩

def w_X5_hasStretch (b : Nat) (x1 : Int32) (x2 : Int32) (σ : bk_S) (post : Int32 → Prop) : Prop :=
  bk_jn (α := Unit) (fun a2 =>
    post (0 : Int32)) (fun K1 =>
    (x1 < 0 → K1 ()) ∧ (¬ x1 < 0 → ((x2 < 0 → K1 ()) ∧ (¬ x2 < 0 → (((σ b 1) < x1 → K1 ()) ∧ (¬ (σ b 1) < x1 → ((((σ b 1) - x1) < x2 → K1 ()) ∧ (¬ ((σ b 1) - x1) < x2 → post (1 : Int32)))))))))
set_option maxRecDepth 20000 in
theorem m_X5_hasStretch (w : bk_W) {b : Nat} {x1 : Int32} {x2 : Int32} (hb : bk_sht b) {σ : bk_S} {post : Int32 → Prop} : w_X5_hasStretch b x1 x2 σ post → bk_Mi lyC w yX5_hasStretch cX5_hasStretch 3 .boolean 0 0 [.ref (bk_r w b), .int x1, .int x2] σ (fun r σ1 => post r ∧ σ1 = σ) := by
  intro h0
  refine bk_mi (by decide) (Nat.le_of_ble_eq_true rfl) (fun X hX hret => ?_)
  revert h0
  unfold w_X5_hasStretch
  show _ → bk_At lyC w X 0 [(0, .ref (bk_r w b)), (1, .int x1), (2, .int x2)] [] σ
  refine bk_iload_n hX 1 dX5_hasStretch_0 rfl ?_
  refine bk_r_jn (α := Unit) (J := fun a => bk_At lyC w X 30 [(0, .ref (bk_r w b)), (1, .int x1), (2, .int x2)] [] σ) (fun a2 => ?_) (fun K1 hK1 => ?_)
  · refine bk_iconst hX bk_ci_0 dX5_hasStretch_30 ?_
    exact fun z => hret _ _ _ _ dX5_hasStretch_31 rfl ⟨z, rfl⟩
  · refine bk_if_lt hX 30 dX5_hasStretch_1 rfl ?_ ?_
    · exact bk_pick [0, 1, 2] rfl (hK1 ())
    · refine bk_iload_n hX 2 dX5_hasStretch_4 rfl ?_
      refine bk_if_lt hX 30 dX5_hasStretch_5 rfl ?_ ?_
      · exact bk_pick [0, 1, 2] rfl (hK1 ())
      · refine bk_iload_n hX 1 dX5_hasStretch_8 rfl ?_
        refine bk_aload_n hX 0 dX5_hasStretch_9 rfl ?_
        refine bk_geti hX hb.1 rfl fl_X5_15 dX5_hasStretch_10 ?_
        refine bk_icmp_gt hX 30 dX5_hasStretch_13 rfl ?_ ?_
        · exact bk_pick [0, 1, 2] rfl (hK1 ())
        · refine bk_iload_n hX 2 dX5_hasStretch_16 rfl ?_
          refine bk_aload_n hX 0 dX5_hasStretch_17 rfl ?_
          refine bk_geti hX hb.1 rfl fl_X5_15 dX5_hasStretch_18 ?_
          refine bk_iload_n hX 1 dX5_hasStretch_21 rfl ?_
          refine bk_isub hX dX5_hasStretch_22 ?_
          refine bk_icmp_gt hX 30 dX5_hasStretch_23 rfl ?_ ?_
          · exact bk_pick [0, 1, 2] rfl (hK1 ())
          · refine bk_iconst hX bk_ci_1 dX5_hasStretch_26 ?_
            refine bk_goto hX 31 dX5_hasStretch_27 rfl ?_
            exact fun z => hret _ _ _ _ dX5_hasStretch_31 rfl ⟨z, rfl⟩

def w_X5_lowestBits (b : Nat) (x1 : Int32) (σ : bk_S) (post : Int32 → Prop) : Prop :=
  (¬ (σ b 0) = 0 → ((¬ (σ b 0) = (1 : Int32) → post x1) ∧ ((σ b 0) = (1 : Int32) → post ((Int32.toInt16 x1).toInt32)))) ∧ ((σ b 0) = 0 → post ((Int32.toInt8 x1).toInt32))
set_option maxRecDepth 20000 in
theorem m_X5_lowestBits (w : bk_W) {b : Nat} {x1 : Int32} (hb : bk_sht b) {σ : bk_S} {post : Int32 → Prop} : w_X5_lowestBits b x1 σ post → bk_Mi lyC w yX5_lowestBits cX5_lowestBits 2 .int 0 0 [.ref (bk_r w b), .int x1] σ (fun r σ1 => post r ∧ σ1 = σ) := by
  intro h0
  refine bk_mi (by decide) (Nat.le_of_ble_eq_true rfl) (fun X hX hret => ?_)
  revert h0
  unfold w_X5_lowestBits
  show _ → bk_At lyC w X 0 [(0, .ref (bk_r w b)), (1, .int x1)] [] σ
  refine bk_aload_n hX 0 dX5_lowestBits_0 rfl ?_
  refine bk_geti hX hb.1 rfl fl_X5_9 dX5_lowestBits_1 ?_
  refine bk_if_ne hX 10 dX5_lowestBits_4 rfl ?_ ?_
  · refine bk_aload_n hX 0 dX5_lowestBits_10 rfl ?_
    refine bk_geti hX hb.1 rfl fl_X5_9 dX5_lowestBits_11 ?_
    refine bk_iconst hX bk_ci_1 dX5_lowestBits_14 ?_
    refine bk_icmp_ne hX 23 dX5_lowestBits_15 rfl ?_ ?_
    · refine bk_iload_n hX 1 dX5_lowestBits_23 rfl ?_
      exact fun z => hret _ _ _ _ dX5_lowestBits_24 rfl ⟨z, rfl⟩
    · refine bk_iload_n hX 1 dX5_lowestBits_18 rfl ?_
      refine bk_i2s hX dX5_lowestBits_19 ?_
      refine bk_goto hX 24 dX5_lowestBits_20 rfl ?_
      exact fun z => hret _ _ _ _ dX5_lowestBits_24 rfl ⟨z, rfl⟩
  · refine bk_iload_n hX 1 dX5_lowestBits_7 rfl ?_
    refine bk_i2b hX dX5_lowestBits_8 ?_
    exact fun z => hret _ _ _ _ dX5_lowestBits_9 rfl ⟨z, rfl⟩

def w_X7_isFull (b : Nat) (σ : bk_S) (post : Int32 → Prop) : Prop :=
  ((σ b 3) < (8 : Int32) → post (0 : Int32)) ∧ (¬ (σ b 3) < (8 : Int32) → post (1 : Int32))
set_option maxRecDepth 20000 in
theorem m_X7_isFull (w : bk_W) {b : Nat} (hb : bk_tri b) {σ : bk_S} {post : Int32 → Prop} : w_X7_isFull b σ post → bk_Mi lyC w yX7_isFull cX7_isFull 1 .boolean 0 0 [.ref (bk_r w b)] σ (fun r σ1 => post r ∧ σ1 = σ) := by
  intro h0
  refine bk_mi (by decide) (Nat.le_of_ble_eq_true rfl) (fun X hX hret => ?_)
  revert h0
  unfold w_X7_isFull
  show _ → bk_At lyC w X 0 [(0, .ref (bk_r w b))] [] σ
  refine bk_aload_n hX 0 dX7_isFull_0 rfl ?_
  refine bk_geti hX hb.1 rfl fl_X7_21 dX7_isFull_1 ?_
  refine bk_bipush hX bk_cb_8 dX7_isFull_4 ?_
  refine bk_icmp_lt hX 13 dX7_isFull_6 rfl ?_ ?_
  · refine bk_iconst hX bk_ci_0 dX7_isFull_13 ?_
    exact fun z => hret _ _ _ _ dX7_isFull_14 rfl ⟨z, rfl⟩
  · refine bk_iconst hX bk_ci_1 dX7_isFull_9 ?_
    refine bk_goto hX 14 dX7_isFull_10 rfl ?_
    exact fun z => hret _ _ _ _ dX7_isFull_14 rfl ⟨z, rfl⟩

def w_X7_append (b : Nat) (x1 : Int32) (x2 : Int32) (x3 : Int32) (σ : bk_S) (post : bk_S → Prop) : Prop :=
  w_X7_isFull b σ (fun r1 =>
    (r1 = 0 → (vp_in (σ b 3) 8 ∧ bk_lt (α := bk_S) (bk_u σ (b + 1) (Int32.toNatClampNeg (σ b 3)) x1) fun σ2 =>
    vp_in (σ2 b 3) 8 ∧ bk_lt (α := bk_S) (bk_u σ2 (b + 2) (Int32.toNatClampNeg (σ2 b 3)) x2) fun σ3 =>
    vp_in (σ3 b 3) 8 ∧ bk_lt (α := bk_S) (bk_u σ3 (b + 3) (Int32.toNatClampNeg (σ3 b 3)) x3) fun σ4 =>
    bk_lt (α := bk_S) (bk_u σ4 b 3 ((σ4 b 3) + (1 : Int32))) fun σ5 =>
    post σ5)) ∧ (¬ r1 = 0 → post σ))
set_option maxRecDepth 20000 in
theorem m_X7_append (w : bk_W) {b : Nat} {x1 : Int32} {x2 : Int32} {x3 : Int32} (hb : bk_tri b) {σ : bk_S} {post : bk_S → Prop} : w_X7_append b x1 x2 x3 σ post → bk_Mv lyC w yX7_append cX7_append 4 1 20 [.ref (bk_r w b), .int x1, .int x2, .int x3] σ post := by
  intro h0
  refine bk_mv (by decide) (Nat.le_of_ble_eq_true rfl) (fun X hX hret => ?_)
  revert h0
  unfold w_X7_append
  show _ → bk_At lyC w X 0 [(0, .ref (bk_r w b)), (1, .int x1), (2, .int x2), (3, .int x3)] [] σ
  refine bk_aload_n hX 0 dX7_append_0 rfl ?_
  refine bk_callV_i hX [] [] yk_X7_isFull yv_X7_isFull lk_X7_25 rfl rfl hb.1 rfl rfl (Nat.le_of_ble_eq_true rfl) ⟨Nat.le_of_ble_eq_true rfl, Nat.le_of_ble_eq_true rfl⟩ dX7_append_1 (m_X7_isFull w hb) (bk_pu (fun r1 => ?_))
  refine bk_if_eq hX 8 dX7_append_4 rfl ?_ ?_
  · refine bk_aload_n hX 0 dX7_append_8 rfl ?_
    refine bk_getr hX hb.1 rfl fl_X7_9 dX7_append_9 ?_
    refine bk_aload_n hX 0 dX7_append_12 rfl ?_
    refine bk_geti hX hb.1 rfl fl_X7_21 dX7_append_13 ?_
    refine bk_iload_n hX 1 dX7_append_16 rfl ?_
    refine bk_iastore hX hb.2.1 dX7_append_17 (fun σ2 => ?_)
    refine bk_aload_n hX 0 dX7_append_18 rfl ?_
    refine bk_getr hX hb.1 rfl fl_X7_15 dX7_append_19 ?_
    refine bk_aload_n hX 0 dX7_append_22 rfl ?_
    refine bk_geti hX hb.1 rfl fl_X7_21 dX7_append_23 ?_
    refine bk_iload_n hX 2 dX7_append_26 rfl ?_
    refine bk_iastore hX hb.2.2.1 dX7_append_27 (fun σ3 => ?_)
    refine bk_aload_n hX 0 dX7_append_28 rfl ?_
    refine bk_getr hX hb.1 rfl fl_X7_18 dX7_append_29 ?_
    refine bk_aload_n hX 0 dX7_append_32 rfl ?_
    refine bk_geti hX hb.1 rfl fl_X7_21 dX7_append_33 ?_
    refine bk_iload_n hX 3 dX7_append_36 rfl ?_
    refine bk_iastore hX hb.2.2.2 dX7_append_37 (fun σ4 => ?_)
    refine bk_aload_n hX 0 dX7_append_38 rfl ?_
    refine bk_dup hX rfl dX7_append_39 ?_
    refine bk_geti hX hb.1 rfl fl_X7_21 dX7_append_40 ?_
    refine bk_iconst hX bk_ci_1 dX7_append_43 ?_
    refine bk_iadd hX dX7_append_44 ?_
    refine bk_putI hX hb.1 rfl fp_X7_21 dX7_append_45 (fun σ5 => ?_)
    exact fun z => hret _ _ _ dX7_append_48 z
  · exact fun z => hret _ _ _ dX7_append_7 z
