def w_X9_in (x0 : Int32) (x1 : Int32) (x2 : Int32) (post : Int32 → Prop) : Prop :=
  bk_jn (α := Unit) (fun a2 =>
    post (0 : Int32)) (fun K1 =>
    (x0 < x1 → K1 ()) ∧ (¬ x0 < x1 → ((x2 < x0 → K1 ()) ∧ (¬ x2 < x0 → post (1 : Int32)))))
set_option maxRecDepth 20000 in
theorem m_X9_in (w : bk_W) {x0 : Int32} {x1 : Int32} {x2 : Int32} {σ : bk_S} {post : Int32 → Prop} : w_X9_in x0 x1 x2 post → bk_Mi lyM w yX9_in cX9_in 3 .boolean 0 0 [.int x0, .int x1, .int x2] σ (fun r σ1 => post r ∧ σ1 = σ) := by
  intro h0
  refine bk_mi (by decide) (Nat.le_of_ble_eq_true rfl) (fun X hX hret => ?_)
  revert h0
  unfold w_X9_in
  show _ → bk_At lyM w X 0 [(0, .int x0), (1, .int x1), (2, .int x2)] [] σ
  refine bk_iload_n hX 0 dX9_in_0 rfl ?_
  refine bk_iload_n hX 1 dX9_in_1 rfl ?_
  refine bk_r_jn (α := Unit) (J := fun a => bk_At lyM w X 14 [(0, .int x0), (1, .int x1), (2, .int x2)] [] σ) (fun a2 => ?_) (fun K1 hK1 => ?_)
  · refine bk_iconst hX bk_ci_0 dX9_in_14 ?_
    exact fun z => hret _ _ _ _ dX9_in_15 rfl ⟨z, rfl⟩
  · refine bk_icmp_lt hX 14 dX9_in_2 rfl ?_ ?_
    · exact bk_pick [0, 1, 2] rfl (hK1 ())
    · refine bk_iload_n hX 0 dX9_in_5 rfl ?_
      refine bk_iload_n hX 2 dX9_in_6 rfl ?_
      refine bk_icmp_gt hX 14 dX9_in_7 rfl ?_ ?_
      · exact bk_pick [0, 1, 2] rfl (hK1 ())
      · refine bk_iconst hX bk_ci_1 dX9_in_10 ?_
        refine bk_goto hX 15 dX9_in_11 rfl ?_
        exact fun z => hret _ _ _ _ dX9_in_15 rfl ⟨z, rfl⟩

def w_X9_isIn (x0 : Int32) (x1 : Int32) (post : Int32 → Prop) : Prop :=
  (¬ ((x0 >>> (x1 &&& 31)) &&& (1 : Int32)) = (1 : Int32) → post (0 : Int32)) ∧ (((x0 >>> (x1 &&& 31)) &&& (1 : Int32)) = (1 : Int32) → post (1 : Int32))
set_option maxRecDepth 20000 in
theorem m_X9_isIn (w : bk_W) {x0 : Int32} {x1 : Int32} {σ : bk_S} {post : Int32 → Prop} : w_X9_isIn x0 x1 post → bk_Mi lyM w yX9_isIn cX9_isIn 2 .boolean 0 0 [.int x0, .int x1] σ (fun r σ1 => post r ∧ σ1 = σ) := by
  intro h0
  refine bk_mi (by decide) (Nat.le_of_ble_eq_true rfl) (fun X hX hret => ?_)
  revert h0
  unfold w_X9_isIn
  show _ → bk_At lyM w X 0 [(0, .int x0), (1, .int x1)] [] σ
  refine bk_iload_n hX 0 dX9_isIn_0 rfl ?_
  refine bk_iload_n hX 1 dX9_isIn_1 rfl ?_
  refine bk_ishr hX dX9_isIn_2 ?_
  refine bk_iconst hX bk_ci_1 dX9_isIn_3 ?_
  refine bk_iand hX dX9_isIn_4 ?_
  refine bk_iconst hX bk_ci_1 dX9_isIn_5 ?_
  refine bk_icmp_ne hX 13 dX9_isIn_6 rfl ?_ ?_
  · refine bk_iconst hX bk_ci_0 dX9_isIn_13 ?_
    exact fun z => hret _ _ _ _ dX9_isIn_14 rfl ⟨z, rfl⟩
  · refine bk_iconst hX bk_ci_1 dX9_isIn_9 ?_
    refine bk_goto hX 14 dX9_isIn_10 rfl ?_
    exact fun z => hret _ _ _ _ dX9_isIn_14 rfl ⟨z, rfl⟩

def w_X9_no (x0 : Int32) (post : Int64 → Prop) : Prop :=
  post ((-9223372036854775808 : Int64) - (Int32.toInt64 x0))
set_option maxRecDepth 20000 in
theorem m_X9_no (w : bk_W) {x0 : Int32} {σ : bk_S} {post : Int64 → Prop} : w_X9_no x0 post → bk_Ml lyM w yX9_no cX9_no 1 0 0 [.int x0] σ (fun r σ1 => post r ∧ σ1 = σ) := by
  intro h0
  refine bk_ml (by decide) (Nat.le_of_ble_eq_true rfl) (fun X hX hret => ?_)
  revert h0
  unfold w_X9_no
  show _ → bk_At lyM w X 0 [(0, .int x0)] [] σ
  refine bk_ldc2 hX kn_X9_107 dX9_no_0 ?_
  refine bk_iload_n hX 0 dX9_no_3 rfl ?_
  refine bk_i2l hX dX9_no_4 ?_
  refine bk_lsub hX dX9_no_5 ?_
  exact fun z => hret _ _ _ _ dX9_no_6 ⟨z, rfl⟩

def w_X9_lowest (x0 : Int64) (x2 : Int64) (x4 : Int32) (post : Int64 → Prop) : Prop :=
  bk_lt (α := Int64) x0 fun v1 =>
  bk_lt (α := Int64) x2 fun v2 =>
  bk_jn (α := Int64) (fun a4 =>
    (¬ x4 = 0 → (¬ a4 = 0 ∧ post (x2 / a4))) ∧ (x4 = 0 → (¬ a4 = 0 ∧ post (x0 / a4)))) (fun K3 =>
    bk_loop (α := Int64 × Int64) (fun K5 a6 =>
      ((lg_cmp a6.2 (0 : Int64)) = 0 → K3 a6.1) ∧ (¬ (lg_cmp a6.2 (0 : Int64)) = 0 → (¬ a6.2 = 0 ∧ bk_lt (α := Int64) (a6.1 - a6.1 / a6.2 * a6.2) fun v7 =>
      bk_lt (α := Int64) a6.2 fun v8 =>
      bk_lt (α := Int64) v7 fun v9 =>
      K5 (v8, v9)))) (v1, v2))
set_option maxRecDepth 20000 in
theorem m_X9_lowest (w : bk_W) {x0 : Int64} {x2 : Int64} {x4 : Int32} {σ : bk_S} {post : Int64 → Prop} : w_X9_lowest x0 x2 x4 post → bk_Ml lyM w yX9_lowest cX9_lowest 11 0 0 [.long x0, .long x2, .int x4] σ (fun r σ1 => post r ∧ σ1 = σ) := by
  intro h0
  refine bk_ml (by decide) (Nat.le_of_ble_eq_true rfl) (fun X hX hret => ?_)
  revert h0
  unfold w_X9_lowest
  show _ → bk_At lyM w X 0 [(0, .long x0), (2, .long x2), (4, .int x4)] [] σ
  refine bk_lload_n hX 0 dX9_lowest_0 rfl ?_
  refine bk_lstore hX (fun v1 => [(5, .long v1), (0, .long x0), (2, .long x2), (4, .int x4)]) dX9_lowest_1 (Nat.le_of_ble_eq_true rfl) (fun _ => rfl) (fun v1 => ?_)
  refine bk_lload_n hX 2 dX9_lowest_3 rfl ?_
  refine bk_lstore hX (fun v2 => [(7, .long v2), (5, .long v1), (0, .long x0), (2, .long x2), (4, .int x4)]) dX9_lowest_4 (Nat.le_of_ble_eq_true rfl) (fun _ => rfl) (fun v2 => ?_)
  refine bk_r_jn (α := Int64) (J := fun a => bk_At lyM w X 31 [(5, .long a), (0, .long x0), (2, .long x2), (4, .int x4)] [] σ) (fun a4 => ?_) (fun K3 hK3 => ?_)
  · refine bk_iload hX 3 dX9_lowest_31 rfl ?_
    refine bk_if_ne hX 43 dX9_lowest_33 rfl ?_ ?_
    · refine bk_lload_n hX 2 dX9_lowest_43 rfl ?_
      refine bk_lload hX 0 dX9_lowest_44 rfl ?_
      refine bk_ldiv hX dX9_lowest_46 ?_
      exact fun z => hret _ _ _ _ dX9_lowest_47 ⟨z, rfl⟩
    · refine bk_lload_n hX 1 dX9_lowest_36 rfl ?_
      refine bk_lload hX 0 dX9_lowest_37 rfl ?_
      refine bk_ldiv hX dX9_lowest_39 ?_
      refine bk_goto hX 47 dX9_lowest_40 rfl ?_
      exact fun z => hret _ _ _ _ dX9_lowest_47 ⟨z, rfl⟩
  · refine bk_pick [0, 1, 2, 3, 4] rfl (bk_r_loop (α := Int64 × Int64) (J := fun a => bk_At lyM w X 6 [(7, .long a.2), (5, .long a.1), (0, .long x0), (2, .long x2), (4, .int x4)] [] σ) (v1, v2) (fun K5 hK5 a6 => ?_))
    refine bk_lload hX 0 dX9_lowest_6 rfl ?_
    refine bk_lconst hX bk_cl_0 dX9_lowest_8 ?_
    refine bk_lcmp hX dX9_lowest_9 ?_
    refine bk_if_eq hX 31 dX9_lowest_10 rfl ?_ ?_
    · exact bk_pick [1, 2, 3, 4] rfl (hK3 a6.1)
    · refine bk_lload hX 1 dX9_lowest_13 rfl ?_
      refine bk_lload hX 0 dX9_lowest_15 rfl ?_
      refine bk_lrem hX dX9_lowest_17 ?_
      refine bk_lstore hX (fun v7 => [(9, .long v7), (7, .long a6.2), (5, .long a6.1), (0, .long x0), (2, .long x2), (4, .int x4)]) dX9_lowest_18 (Nat.le_of_ble_eq_true rfl) (fun _ => rfl) (fun v7 => ?_)
      refine bk_lload hX 1 dX9_lowest_20 rfl ?_
      refine bk_lstore hX (fun v8 => [(5, .long v8), (9, .long v7), (7, .long a6.2), (0, .long x0), (2, .long x2), (4, .int x4)]) dX9_lowest_22 (Nat.le_of_ble_eq_true rfl) (fun _ => rfl) (fun v8 => ?_)
      refine bk_lload hX 1 dX9_lowest_24 rfl ?_
      refine bk_lstore hX (fun v9 => [(7, .long v9), (5, .long v8), (9, .long v7), (0, .long x0), (2, .long x2), (4, .int x4)]) dX9_lowest_26 (Nat.le_of_ble_eq_true rfl) (fun _ => rfl) (fun v9 => ?_)
      refine bk_goto hX 6 dX9_lowest_28 rfl ?_
      exact bk_pick [0, 1, 3, 4, 5] rfl (hK5 (v8, v9))

def w_X9_isTwo (x0 : Int32) (post : Int32 → Prop) : Prop :=
  w_X9_in x0 (0 : Int32) (1 : Int32) (fun r1 =>
    narrow .boolean (.int r1) = .int r1 ∧ post r1)
set_option maxRecDepth 20000 in
theorem m_X9_isTwo (w : bk_W) {x0 : Int32} {σ : bk_S} {post : Int32 → Prop} : w_X9_isTwo x0 post → bk_Mi lyM w yX9_isTwo cX9_isTwo 1 .boolean 1 22 [.int x0] σ (fun r σ1 => post r ∧ σ1 = σ) := by
  intro h0
  refine bk_mi (by decide) (Nat.le_of_ble_eq_true rfl) (fun X hX hret => ?_)
  revert h0
  unfold w_X9_isTwo
  show _ → bk_At lyM w X 0 [(0, .int x0)] [] σ
  refine bk_iload_n hX 0 dX9_isTwo_0 rfl ?_
  refine bk_iconst hX bk_ci_0 dX9_isTwo_1 ?_
  refine bk_iconst hX bk_ci_1 dX9_isTwo_2 ?_
  refine bk_callS_i hX [.int x0, .int (0 : Int32), .int (1 : Int32)] [] yk_X9_in ys_X9_in lk_X9_109 rfl rfl (Nat.le_of_ble_eq_true rfl) ⟨Nat.le_of_ble_eq_true rfl, Nat.le_of_ble_eq_true rfl⟩ dX9_isTwo_3 (m_X9_in w) (bk_pu (fun r1 => ?_))
  exact fun z => hret _ _ _ _ dX9_isTwo_6 z.1 ⟨z.2, rfl⟩

def w_X9_isThree (x0 : Int32) (post : Int32 → Prop) : Prop :=
  w_X9_in x0 (0 : Int32) (2 : Int32) (fun r1 =>
    narrow .boolean (.int r1) = .int r1 ∧ post r1)
set_option maxRecDepth 20000 in
theorem m_X9_isThree (w : bk_W) {x0 : Int32} {σ : bk_S} {post : Int32 → Prop} : w_X9_isThree x0 post → bk_Mi lyM w yX9_isThree cX9_isThree 1 .boolean 1 22 [.int x0] σ (fun r σ1 => post r ∧ σ1 = σ) := by
  intro h0
  refine bk_mi (by decide) (Nat.le_of_ble_eq_true rfl) (fun X hX hret => ?_)
  revert h0
  unfold w_X9_isThree
  show _ → bk_At lyM w X 0 [(0, .int x0)] [] σ
  refine bk_iload_n hX 0 dX9_isThree_0 rfl ?_
  refine bk_iconst hX bk_ci_0 dX9_isThree_1 ?_
  refine bk_iconst hX bk_ci_2 dX9_isThree_2 ?_
  refine bk_callS_i hX [.int x0, .int (0 : Int32), .int (2 : Int32)] [] yk_X9_in ys_X9_in lk_X9_109 rfl rfl (Nat.le_of_ble_eq_true rfl) ⟨Nat.le_of_ble_eq_true rfl, Nat.le_of_ble_eq_true rfl⟩ dX9_isThree_3 (m_X9_in w) (bk_pu (fun r1 => ?_))
  exact fun z => hret _ _ _ _ dX9_isThree_6 z.1 ⟨z.2, rfl⟩

def w_X9_isTwelve (x0 : Int32) (post : Int32 → Prop) : Prop :=
  w_X9_in x0 (0 : Int32) (11 : Int32) (fun r1 =>
    narrow .boolean (.int r1) = .int r1 ∧ post r1)
set_option maxRecDepth 20000 in
theorem m_X9_isTwelve (w : bk_W) {x0 : Int32} {σ : bk_S} {post : Int32 → Prop} : w_X9_isTwelve x0 post → bk_Mi lyM w yX9_isTwelve cX9_isTwelve 1 .boolean 1 22 [.int x0] σ (fun r σ1 => post r ∧ σ1 = σ) := by
  intro h0
  refine bk_mi (by decide) (Nat.le_of_ble_eq_true rfl) (fun X hX hret => ?_)
  revert h0
  unfold w_X9_isTwelve
  show _ → bk_At lyM w X 0 [(0, .int x0)] [] σ
  refine bk_iload_n hX 0 dX9_isTwelve_0 rfl ?_
  refine bk_iconst hX bk_ci_0 dX9_isTwelve_1 ?_
  refine bk_bipush hX bk_cb_11 dX9_isTwelve_2 ?_
  refine bk_callS_i hX [.int x0, .int (0 : Int32), .int (11 : Int32)] [] yk_X9_in ys_X9_in lk_X9_109 rfl rfl (Nat.le_of_ble_eq_true rfl) ⟨Nat.le_of_ble_eq_true rfl, Nat.le_of_ble_eq_true rfl⟩ dX9_isTwelve_4 (m_X9_in w) (bk_pu (fun r1 => ?_))
  exact fun z => hret _ _ _ _ dX9_isTwelve_7 z.1 ⟨z.2, rfl⟩

def w_X9_type (x1 : Int32) (x2 : Int32) (σ : bk_S) (post : Int32 → bk_S → Prop) : Prop :=
  w_X9_isTwo x1 (fun r1 =>
    (r1 = 0 → post (-2 : Int32) σ) ∧ (¬ r1 = 0 → (w_X9_in x2 (0 : Int32) (255 : Int32) (fun r2 =>
      (¬ r2 = 0 → (vp_in x1 2 ∧ bk_lt (α := Int32) (if x1 = 0 then (12 : Int32) else (31 : Int32)) fun a4 =>
      (¬ (σ 1 (Int32.toNatClampNeg x1)) = a4 → (vp_in x1 2 ∧ vp_in (((31 : Int32) * x1) + (σ 1 (Int32.toNatClampNeg x1))) 62 ∧ bk_lt (α := bk_S) (bk_u σ 2 (Int32.toNatClampNeg (((31 : Int32) * x1) + (σ 1 (Int32.toNatClampNeg x1)))) x2) fun σ5 =>
      vp_in x1 2 ∧ vp_in x1 2 ∧ bk_lt (α := bk_S) (bk_u σ5 1 (Int32.toNatClampNeg x1) ((σ5 1 (Int32.toNatClampNeg x1)) + (1 : Int32))) fun σ6 =>
      vp_in x1 2 ∧ post (σ6 1 (Int32.toNatClampNeg x1)) σ6)) ∧ ((σ 1 (Int32.toNatClampNeg x1)) = a4 → post (-4 : Int32) σ))) ∧ (r2 = 0 → post (-2 : Int32) σ)))))
set_option maxRecDepth 20000 in
theorem m_X9_type (w : bk_W) {x1 : Int32} {x2 : Int32} {σ : bk_S} {post : Int32 → bk_S → Prop} : w_X9_type x1 x2 σ post → bk_Mi lyM w yX9_type cX9_type 3 .int 2 42 [.ref (bk_r w 0), .int x1, .int x2] σ post := by
  intro h0
  refine bk_mi (by decide) (Nat.le_of_ble_eq_true rfl) (fun X hX hret => ?_)
  revert h0
  unfold w_X9_type
  show _ → bk_At lyM w X 0 [(0, .ref (bk_r w 0)), (1, .int x1), (2, .int x2)] [] σ
  refine bk_iload_n hX 1 dX9_type_0 rfl ?_
  refine bk_callS_i hX [.int x1] [] yk_X9_isTwo ys_X9_isTwo lk_X9_113 rfl rfl (Nat.le_of_ble_eq_true rfl) ⟨Nat.le_of_ble_eq_true rfl, Nat.le_of_ble_eq_true rfl⟩ dX9_type_1 (m_X9_isTwo w) (bk_pu (fun r1 => ?_))
  refine bk_if_eq hX 18 dX9_type_4 rfl ?_ ?_
  · refine bk_bipush hX bk_cb_m2 dX9_type_18 ?_
    exact fun z => hret _ _ _ _ dX9_type_20 rfl z
  · refine bk_iload_n hX 2 dX9_type_7 rfl ?_
    refine bk_iconst hX bk_ci_0 dX9_type_8 ?_
    refine bk_sipush hX bk_cs_255 dX9_type_9 ?_
    refine bk_callS_i hX [.int x2, .int (0 : Int32), .int (255 : Int32)] [] yk_X9_in ys_X9_in lk_X9_109 rfl rfl (Nat.le_of_ble_eq_true rfl) ⟨Nat.le_of_ble_eq_true rfl, Nat.le_of_ble_eq_true rfl⟩ dX9_type_12 (m_X9_in w) (bk_pu (fun r2 => ?_))
    refine bk_if_ne hX 21 dX9_type_15 rfl ?_ ?_
    · refine bk_aload_n hX 0 dX9_type_21 rfl ?_
      refine bk_getr hX km_o rfl fl_X9_7 dX9_type_22 ?_
      refine bk_iload_n hX 1 dX9_type_25 rfl ?_
      refine bk_iaload hX km_1 dX9_type_26 ?_
      refine bk_iload_n hX 1 dX9_type_27 rfl ?_
      refine bk_r_if (α := Int32) (F := fun K3 => (¬ x1 = 0 → K3 (31 : Int32)) ∧ (x1 = 0 → K3 (12 : Int32))) (fun K3 z => ⟨fun h0 => (bk_neg (K := K3) h0 z), fun h0 => (bk_pos (K := K3) h0 z)⟩) (J := fun a => bk_At lyM w X 38 [(0, .ref (bk_r w 0)), (1, .int x1), (2, .int x2)] [.int a, .int (σ 1 (Int32.toNatClampNeg x1))] σ) (fun a4 => ?_) (fun K3 hK3 => ?_)
      · refine bk_icmp_ne hX 44 dX9_type_38 rfl ?_ ?_
        · refine bk_aload_n hX 0 dX9_type_44 rfl ?_
          refine bk_getr hX km_o rfl fl_X9_13 dX9_type_45 ?_
          refine bk_bipush hX bk_cb_31 dX9_type_48 ?_
          refine bk_iload_n hX 1 dX9_type_50 rfl ?_
          refine bk_imul hX dX9_type_51 ?_
          refine bk_aload_n hX 0 dX9_type_52 rfl ?_
          refine bk_getr hX km_o rfl fl_X9_7 dX9_type_53 ?_
          refine bk_iload_n hX 1 dX9_type_56 rfl ?_
          refine bk_iaload hX km_1 dX9_type_57 ?_
          refine bk_iadd hX dX9_type_58 ?_
          refine bk_iload_n hX 2 dX9_type_59 rfl ?_
          refine bk_iastore hX km_2 dX9_type_60 (fun σ5 => ?_)
          refine bk_aload_n hX 0 dX9_type_61 rfl ?_
          refine bk_getr hX km_o rfl fl_X9_7 dX9_type_62 ?_
          refine bk_iload_n hX 1 dX9_type_65 rfl ?_
          refine bk_dup2 hX rfl rfl dX9_type_66 ?_
          refine bk_iaload hX km_1 dX9_type_67 ?_
          refine bk_iconst hX bk_ci_1 dX9_type_68 ?_
          refine bk_iadd hX dX9_type_69 ?_
          refine bk_iastore hX km_1 dX9_type_70 (fun σ6 => ?_)
          refine bk_aload_n hX 0 dX9_type_71 rfl ?_
          refine bk_getr hX km_o rfl fl_X9_7 dX9_type_72 ?_
          refine bk_iload_n hX 1 dX9_type_75 rfl ?_
          refine bk_iaload hX km_1 dX9_type_76 ?_
          exact fun z => hret _ _ _ _ dX9_type_77 rfl z
        · refine bk_bipush hX bk_cb_m4 dX9_type_41 ?_
          exact fun z => hret _ _ _ _ dX9_type_43 rfl z
      · refine bk_if_ne hX 36 dX9_type_28 rfl ?_ ?_
        · refine bk_bipush hX bk_cb_31 dX9_type_36 ?_
          exact bk_pick [0, 1, 2] rfl (hK3 (31 : Int32))
        · refine bk_bipush hX bk_cb_12 dX9_type_31 ?_
          refine bk_goto hX 38 dX9_type_33 rfl ?_
          exact bk_pick [0, 1, 2] rfl (hK3 (12 : Int32))
    · refine bk_bipush hX bk_cb_m2 dX9_type_18 ?_
      exact fun z => hret _ _ _ _ dX9_type_20 rfl z

def w_X9_wipe (x1 : Int32) (σ : bk_S) (post : Int32 → bk_S → Prop) : Prop :=
  w_X9_isTwo x1 (fun r1 =>
    (¬ r1 = 0 → (vp_in x1 2 ∧ bk_lt (α := Int32) (σ 1 (Int32.toNatClampNeg x1)) fun v2 =>
    vp_in x1 2 ∧ bk_lt (α := bk_S) (bk_u σ 1 (Int32.toNatClampNeg x1) (0 : Int32)) fun σ3 =>
    post v2 σ3)) ∧ (r1 = 0 → post (-2 : Int32) σ))
set_option maxRecDepth 20000 in
theorem m_X9_wipe (w : bk_W) {x1 : Int32} {σ : bk_S} {post : Int32 → bk_S → Prop} : w_X9_wipe x1 σ post → bk_Mi lyM w yX9_wipe cX9_wipe 3 .int 2 42 [.ref (bk_r w 0), .int x1] σ post := by
  intro h0
  refine bk_mi (by decide) (Nat.le_of_ble_eq_true rfl) (fun X hX hret => ?_)
  revert h0
  unfold w_X9_wipe
  show _ → bk_At lyM w X 0 [(0, .ref (bk_r w 0)), (1, .int x1)] [] σ
  refine bk_iload_n hX 1 dX9_wipe_0 rfl ?_
  refine bk_callS_i hX [.int x1] [] yk_X9_isTwo ys_X9_isTwo lk_X9_113 rfl rfl (Nat.le_of_ble_eq_true rfl) ⟨Nat.le_of_ble_eq_true rfl, Nat.le_of_ble_eq_true rfl⟩ dX9_wipe_1 (m_X9_isTwo w) (bk_pu (fun r1 => ?_))
  refine bk_if_ne hX 10 dX9_wipe_4 rfl ?_ ?_
  · refine bk_aload_n hX 0 dX9_wipe_10 rfl ?_
    refine bk_getr hX km_o rfl fl_X9_7 dX9_wipe_11 ?_
    refine bk_iload_n hX 1 dX9_wipe_14 rfl ?_
    refine bk_iaload hX km_1 dX9_wipe_15 ?_
    refine bk_istore_n hX (fun v2 => [(2, .int v2), (0, .ref (bk_r w 0)), (1, .int x1)]) dX9_wipe_16 (Nat.le_of_ble_eq_true rfl) (fun _ => rfl) (fun v2 => ?_)
    refine bk_aload_n hX 1 dX9_wipe_17 rfl ?_
    refine bk_getr hX km_o rfl fl_X9_7 dX9_wipe_18 ?_
    refine bk_iload_n hX 2 dX9_wipe_21 rfl ?_
    refine bk_iconst hX bk_ci_0 dX9_wipe_22 ?_
    refine bk_iastore hX km_1 dX9_wipe_23 (fun σ3 => ?_)
    refine bk_iload_n hX 0 dX9_wipe_24 rfl ?_
    exact fun z => hret _ _ _ _ dX9_wipe_25 rfl z
  · refine bk_bipush hX bk_cb_m2 dX9_wipe_7 ?_
    exact fun z => hret _ _ _ _ dX9_wipe_9 rfl z

def w_X9_undo (x1 : Int32) (σ : bk_S) (post : Int32 → bk_S → Prop) : Prop :=
  w_X9_isTwo x1 (fun r1 =>
    (¬ r1 = 0 → (vp_in x1 2 ∧ (¬ (σ 1 (Int32.toNatClampNeg x1)) = 0 → (vp_in x1 2 ∧ vp_in x1 2 ∧ bk_lt (α := bk_S) (bk_u σ 1 (Int32.toNatClampNeg x1) ((σ 1 (Int32.toNatClampNeg x1)) - (1 : Int32))) fun σ2 =>
    vp_in x1 2 ∧ post (σ2 1 (Int32.toNatClampNeg x1)) σ2)) ∧ ((σ 1 (Int32.toNatClampNeg x1)) = 0 → post (-3 : Int32) σ))) ∧ (r1 = 0 → post (-2 : Int32) σ))
set_option maxRecDepth 20000 in
theorem m_X9_undo (w : bk_W) {x1 : Int32} {σ : bk_S} {post : Int32 → bk_S → Prop} : w_X9_undo x1 σ post → bk_Mi lyM w yX9_undo cX9_undo 2 .int 2 42 [.ref (bk_r w 0), .int x1] σ post := by
  intro h0
  refine bk_mi (by decide) (Nat.le_of_ble_eq_true rfl) (fun X hX hret => ?_)
  revert h0
  unfold w_X9_undo
  show _ → bk_At lyM w X 0 [(0, .ref (bk_r w 0)), (1, .int x1)] [] σ
  refine bk_iload_n hX 1 dX9_undo_0 rfl ?_
  refine bk_callS_i hX [.int x1] [] yk_X9_isTwo ys_X9_isTwo lk_X9_113 rfl rfl (Nat.le_of_ble_eq_true rfl) ⟨Nat.le_of_ble_eq_true rfl, Nat.le_of_ble_eq_true rfl⟩ dX9_undo_1 (m_X9_isTwo w) (bk_pu (fun r1 => ?_))
  refine bk_if_ne hX 10 dX9_undo_4 rfl ?_ ?_
  · refine bk_aload_n hX 0 dX9_undo_10 rfl ?_
    refine bk_getr hX km_o rfl fl_X9_7 dX9_undo_11 ?_
    refine bk_iload_n hX 1 dX9_undo_14 rfl ?_
    refine bk_iaload hX km_1 dX9_undo_15 ?_
    refine bk_if_ne hX 22 dX9_undo_16 rfl ?_ ?_
    · refine bk_aload_n hX 0 dX9_undo_22 rfl ?_
      refine bk_getr hX km_o rfl fl_X9_7 dX9_undo_23 ?_
      refine bk_iload_n hX 1 dX9_undo_26 rfl ?_
      refine bk_dup2 hX rfl rfl dX9_undo_27 ?_
      refine bk_iaload hX km_1 dX9_undo_28 ?_
      refine bk_iconst hX bk_ci_1 dX9_undo_29 ?_
      refine bk_isub hX dX9_undo_30 ?_
      refine bk_iastore hX km_1 dX9_undo_31 (fun σ2 => ?_)
      refine bk_aload_n hX 0 dX9_undo_32 rfl ?_
      refine bk_getr hX km_o rfl fl_X9_7 dX9_undo_33 ?_
      refine bk_iload_n hX 1 dX9_undo_36 rfl ?_
      refine bk_iaload hX km_1 dX9_undo_37 ?_
      exact fun z => hret _ _ _ _ dX9_undo_38 rfl z
    · refine bk_bipush hX bk_cb_m3 dX9_undo_19 ?_
      exact fun z => hret _ _ _ _ dX9_undo_21 rfl z
  · refine bk_bipush hX bk_cb_m2 dX9_undo_7 ?_
    exact fun z => hret _ _ _ _ dX9_undo_9 rfl z

def w_X9_byteAt (x1 : Int32) (x2 : Int32) (σ : bk_S) (post : Int32 → Prop) : Prop :=
  vp_in x1 2 ∧ ((σ 1 (Int32.toNatClampNeg x1)) ≤ x2 → post (-1 : Int32)) ∧ (¬ (σ 1 (Int32.toNatClampNeg x1)) ≤ x2 → (vp_in (((31 : Int32) * x1) + x2) 62 ∧ post (σ 2 (Int32.toNatClampNeg (((31 : Int32) * x1) + x2)))))
set_option maxRecDepth 20000 in
theorem m_X9_byteAt (w : bk_W) {x1 : Int32} {x2 : Int32} {σ : bk_S} {post : Int32 → Prop} : w_X9_byteAt x1 x2 σ post → bk_Mi lyM w yX9_byteAt cX9_byteAt 3 .int 0 0 [.ref (bk_r w 0), .int x1, .int x2] σ (fun r σ1 => post r ∧ σ1 = σ) := by
  intro h0
  refine bk_mi (by decide) (Nat.le_of_ble_eq_true rfl) (fun X hX hret => ?_)
  revert h0
  unfold w_X9_byteAt
  show _ → bk_At lyM w X 0 [(0, .ref (bk_r w 0)), (1, .int x1), (2, .int x2)] [] σ
  refine bk_iload_n hX 2 dX9_byteAt_0 rfl ?_
  refine bk_aload_n hX 0 dX9_byteAt_1 rfl ?_
  refine bk_getr hX km_o rfl fl_X9_7 dX9_byteAt_2 ?_
  refine bk_iload_n hX 1 dX9_byteAt_5 rfl ?_
  refine bk_iaload hX km_1 dX9_byteAt_6 ?_
  refine bk_icmp_ge hX 24 dX9_byteAt_7 rfl ?_ ?_
  · refine bk_iconst hX bk_ci_m1 dX9_byteAt_24 ?_
    exact fun z => hret _ _ _ _ dX9_byteAt_25 rfl ⟨z, rfl⟩
  · refine bk_aload_n hX 0 dX9_byteAt_10 rfl ?_
    refine bk_getr hX km_o rfl fl_X9_13 dX9_byteAt_11 ?_
    refine bk_bipush hX bk_cb_31 dX9_byteAt_14 ?_
    refine bk_iload_n hX 1 dX9_byteAt_16 rfl ?_
    refine bk_imul hX dX9_byteAt_17 ?_
    refine bk_iload_n hX 2 dX9_byteAt_18 rfl ?_
    refine bk_iadd hX dX9_byteAt_19 ?_
    refine bk_iaload hX km_2 dX9_byteAt_20 ?_
    refine bk_goto hX 25 dX9_byteAt_21 rfl ?_
    exact fun z => hret _ _ _ _ dX9_byteAt_25 rfl ⟨z, rfl⟩

def w_X9_readsHooks (σ : bk_S) (post : Int32 → bk_S → Prop) : Prop :=
  bk_lt (α := bk_S) (bk_u σ 0 2 (0 : Int32)) fun σ1 =>
  bk_lt (α := Int32) (0 : Int32) fun v2 =>
  bk_jn (α := bk_S) (fun a4 =>
    vp_in (0 : Int32) 2 ∧ bk_lt (α := bk_S) (bk_u a4 0 2 (a4 1 (Int32.toNatClampNeg (0 : Int32)))) fun σ15 =>
    post (-1 : Int32) σ15) (fun K3 =>
    bk_loop (α := Int32 × bk_S) (fun K5 a6 =>
      vp_in (0 : Int32) 2 ∧ ((a6.2 1 (Int32.toNatClampNeg (0 : Int32))) ≤ a6.1 → K3 a6.2) ∧ (¬ (a6.2 1 (Int32.toNatClampNeg (0 : Int32))) ≤ a6.1 → (w_X9_byteAt (0 : Int32) a6.1 a6.2 (fun r7 =>
        bk_lt (α := Int32) r7 fun v8 =>
        bk_jn (α := Unit) (fun a10 =>
          bk_lt (α := Int32) (if v8 = (104 : Int32) then (1 : Int32) else (if v8 = (115 : Int32) then (2 : Int32) else (0 : Int32))) fun a12 =>
          vp_in a6.1 12 ∧ bk_lt (α := bk_S) (bk_u a6.2 4 (Int32.toNatClampNeg a6.1) a12) fun σ13 =>
          bk_lt (α := Int32) (a6.1 + (1 : Int32)) fun v14 =>
          K5 (v14, σ13)) (fun K9 =>
          (v8 = (104 : Int32) → K9 ()) ∧ (¬ v8 = (104 : Int32) → ((v8 = (115 : Int32) → K9 ()) ∧ (¬ v8 = (115 : Int32) → ((v8 = (103 : Int32) → K9 ()) ∧ (¬ v8 = (103 : Int32) → post a6.1 a6.2)))))))))) (v2, σ1))
set_option maxRecDepth 20000 in
theorem m_X9_readsHooks (w : bk_W) {σ : bk_S} {post : Int32 → bk_S → Prop} : w_X9_readsHooks σ post → bk_Mi lyM w yX9_readsHooks cX9_readsHooks 3 .int 1 22 [.ref (bk_r w 0)] σ post := by
  intro h0
  refine bk_mi (by decide) (Nat.le_of_ble_eq_true rfl) (fun X hX hret => ?_)
  revert h0
  unfold w_X9_readsHooks
  show _ → bk_At lyM w X 0 [(0, .ref (bk_r w 0))] [] σ
  refine bk_aload_n hX 0 dX9_readsHooks_0 rfl ?_
  refine bk_iconst hX bk_ci_0 dX9_readsHooks_1 ?_
  refine bk_putI hX km_o rfl fp_X9_117 dX9_readsHooks_2 (fun σ1 => ?_)
  refine bk_iconst hX bk_ci_0 dX9_readsHooks_5 ?_
  refine bk_istore_n hX (fun v2 => [(1, .int v2), (0, .ref (bk_r w 0))]) dX9_readsHooks_6 (Nat.le_of_ble_eq_true rfl) (fun _ => rfl) (fun v2 => ?_)
  refine bk_r_jn (α := bk_S) (J := fun a => bk_At lyM w X 77 [(0, .ref (bk_r w 0))] [] a) (fun a4 => ?_) (fun K3 hK3 => ?_)
  · refine bk_aload_n hX 0 dX9_readsHooks_77 rfl ?_
    refine bk_aload_n hX 0 dX9_readsHooks_78 rfl ?_
    refine bk_getr hX km_o rfl fl_X9_7 dX9_readsHooks_79 ?_
    refine bk_iconst hX bk_ci_0 dX9_readsHooks_82 ?_
    refine bk_iaload hX km_1 dX9_readsHooks_83 ?_
    refine bk_putI hX km_o rfl fp_X9_117 dX9_readsHooks_84 (fun σ15 => ?_)
    refine bk_iconst hX bk_ci_m1 dX9_readsHooks_87 ?_
    exact fun z => hret _ _ _ _ dX9_readsHooks_88 rfl z
  · refine bk_pick [0, 1] rfl (bk_r_loop (α := Int32 × bk_S) (J := fun a => bk_At lyM w X 7 [(1, .int a.1), (0, .ref (bk_r w 0))] [] a.2) (v2, σ1) (fun K5 hK5 a6 => ?_))
    refine bk_iload_n hX 0 dX9_readsHooks_7 rfl ?_
    refine bk_aload_n hX 1 dX9_readsHooks_8 rfl ?_
    refine bk_getr hX km_o rfl fl_X9_7 dX9_readsHooks_9 ?_
    refine bk_iconst hX bk_ci_0 dX9_readsHooks_12 ?_
    refine bk_iaload hX km_1 dX9_readsHooks_13 ?_
    refine bk_icmp_ge hX 77 dX9_readsHooks_14 rfl ?_ ?_
    · exact bk_pick [1] rfl (hK3 a6.2)
    · refine bk_aload_n hX 1 dX9_readsHooks_17 rfl ?_
      refine bk_iconst hX bk_ci_0 dX9_readsHooks_18 ?_
      refine bk_iload_n hX 0 dX9_readsHooks_19 rfl ?_
      refine bk_callV_i hX [.int (0 : Int32), .int a6.1] [] yk_X9_byteAt yv_X9_byteAt lk_X9_121 rfl rfl km_o rfl rfl (Nat.le_of_ble_eq_true rfl) ⟨Nat.le_of_ble_eq_true rfl, Nat.le_of_ble_eq_true rfl⟩ dX9_readsHooks_20 (m_X9_byteAt w) (bk_pu (fun r7 => ?_))
      refine bk_istore_n hX (fun v8 => [(2, .int v8), (1, .int a6.1), (0, .ref (bk_r w 0))]) dX9_readsHooks_23 (Nat.le_of_ble_eq_true rfl) (fun _ => rfl) (fun v8 => ?_)
      refine bk_iload_n hX 0 dX9_readsHooks_24 rfl ?_
      refine bk_bipush hX bk_cb_104 dX9_readsHooks_25 ?_
      refine bk_r_jn (α := Unit) (J := fun a => bk_At lyM w X 44 [(2, .int v8), (1, .int a6.1), (0, .ref (bk_r w 0))] [] a6.2) (fun a10 => ?_) (fun K9 hK9 => ?_)
      · refine bk_aload_n hX 2 dX9_readsHooks_44 rfl ?_
        refine bk_getr hX km_o rfl fl_X9_16 dX9_readsHooks_45 ?_
        refine bk_iload_n hX 1 dX9_readsHooks_48 rfl ?_
        refine bk_iload_n hX 0 dX9_readsHooks_49 rfl ?_
        refine bk_bipush hX bk_cb_104 dX9_readsHooks_50 ?_
        refine bk_r_if (α := Int32) (F := fun K11 => (¬ v8 = (104 : Int32) → ((¬ v8 = (115 : Int32) → K11 (0 : Int32)) ∧ (v8 = (115 : Int32) → K11 (2 : Int32)))) ∧ (v8 = (104 : Int32) → K11 (1 : Int32))) (fun K11 z => ⟨fun h0 => ⟨fun h1 => (bk_neg (K := K11) h1 (bk_neg (K := K11) h0 z)), fun h1 => (bk_pos (K := K11) h1 (bk_neg (K := K11) h0 z))⟩, fun h0 => (bk_pos (K := K11) h0 z)⟩) (J := fun a => bk_At lyM w X 70 [(2, .int v8), (1, .int a6.1), (0, .ref (bk_r w 0))] [.int a, .int a6.1, .ref (bk_r w 4)] a6.2) (fun a12 => ?_) (fun K11 hK11 => ?_)
        · refine bk_iastore hX km_4 dX9_readsHooks_70 (fun σ13 => ?_)
          refine bk_iinc hX 1 (fun v14 => [(1, .int v14), (2, .int v8), (0, .ref (bk_r w 0))]) dX9_readsHooks_71 rfl bk_ci_1 (Nat.le_of_ble_eq_true rfl) (fun _ => rfl) (fun v14 => ?_)
          refine bk_goto hX 7 dX9_readsHooks_74 rfl ?_
          exact bk_pick [0, 2] rfl (hK5 (v14, σ13))
        · refine bk_icmp_ne hX 59 dX9_readsHooks_52 rfl ?_ ?_
          · refine bk_iload_n hX 0 dX9_readsHooks_59 rfl ?_
            refine bk_bipush hX bk_cb_115 dX9_readsHooks_60 ?_
            refine bk_icmp_ne hX 69 dX9_readsHooks_62 rfl ?_ ?_
            · refine bk_iconst hX bk_ci_0 dX9_readsHooks_69 ?_
              exact bk_pick [0, 1, 2] rfl (hK11 (0 : Int32))
            · refine bk_iconst hX bk_ci_2 dX9_readsHooks_65 ?_
              refine bk_goto hX 70 dX9_readsHooks_66 rfl ?_
              exact bk_pick [0, 1, 2] rfl (hK11 (2 : Int32))
          · refine bk_iconst hX bk_ci_1 dX9_readsHooks_55 ?_
            refine bk_goto hX 70 dX9_readsHooks_56 rfl ?_
            exact bk_pick [0, 1, 2] rfl (hK11 (1 : Int32))
      · refine bk_icmp_eq hX 44 dX9_readsHooks_27 rfl ?_ ?_
        · exact bk_pick [0, 1, 2] rfl (hK9 ())
        · refine bk_iload_n hX 0 dX9_readsHooks_30 rfl ?_
          refine bk_bipush hX bk_cb_115 dX9_readsHooks_31 ?_
          refine bk_icmp_eq hX 44 dX9_readsHooks_33 rfl ?_ ?_
          · exact bk_pick [0, 1, 2] rfl (hK9 ())
          · refine bk_iload_n hX 0 dX9_readsHooks_36 rfl ?_
            refine bk_bipush hX bk_cb_103 dX9_readsHooks_37 ?_
            refine bk_icmp_eq hX 44 dX9_readsHooks_39 rfl ?_ ?_
            · exact bk_pick [0, 1, 2] rfl (hK9 ())
            · refine bk_iload_n hX 1 dX9_readsHooks_42 rfl ?_
              exact fun z => hret _ _ _ _ dX9_readsHooks_43 rfl z

def w_X9_readsThing (x1 : Int32) (x2 : Int32) (σ : bk_S) (post : Int32 → bk_S → Prop) : Prop :=
  w_X9_byteAt (1 : Int32) x2 σ (fun r1 =>
    bk_lt (α := Int32) r1 fun v2 =>
    bk_lt (α := Int32) (if v2 = (109 : Int32) then (0 : Int32) else (if v2 = (119 : Int32) then (1 : Int32) else (if v2 = (113 : Int32) then (2 : Int32) else (-1 : Int32)))) fun a4 =>
    bk_lt (α := Int32) a4 fun v5 =>
    w_X9_byteAt (1 : Int32) (x2 + (1 : Int32)) σ (fun r6 =>
      bk_lt (α := Int32) (r6 - (48 : Int32)) fun v7 =>
      w_X9_byteAt (1 : Int32) (x2 + (2 : Int32)) σ (fun r8 =>
        bk_lt (α := Int32) (r8 - (48 : Int32)) fun v9 =>
        (x1 = (8 : Int32) → post (0 : Int32) σ) ∧ (¬ x1 = (8 : Int32) → ((¬ v5 = (-1 : Int32) → (w_X9_in v7 (1 : Int32) (9 : Int32) (fun r10 =>
          (¬ r10 = 0 → (w_X9_in v9 (0 : Int32) (9 : Int32) (fun r11 =>
            (¬ r11 = 0 → (vp_in x1 9 ∧ bk_lt (α := bk_S) (bk_u σ 6 (Int32.toNatClampNeg x1) v5) fun σ12 =>
            vp_in x1 9 ∧ bk_lt (α := bk_S) (bk_u σ12 7 (Int32.toNatClampNeg x1) v7) fun σ13 =>
            vp_in x1 9 ∧ bk_lt (α := bk_S) (bk_u σ13 8 (Int32.toNatClampNeg x1) v9) fun σ14 =>
            post (3 : Int32) σ14)) ∧ (r11 = 0 → post (2 : Int32) σ)))) ∧ (r10 = 0 → post (1 : Int32) σ)))) ∧ (v5 = (-1 : Int32) → post (0 : Int32) σ))))))
set_option maxRecDepth 20000 in
theorem m_X9_readsThing (w : bk_W) {x1 : Int32} {x2 : Int32} {σ : bk_S} {post : Int32 → bk_S → Prop} : w_X9_readsThing x1 x2 σ post → bk_Mi lyM w yX9_readsThing cX9_readsThing 7 .int 1 22 [.ref (bk_r w 0), .int x1, .int x2] σ post := by
  intro h0
  refine bk_mi (by decide) (Nat.le_of_ble_eq_true rfl) (fun X hX hret => ?_)
  revert h0
  unfold w_X9_readsThing
  show _ → bk_At lyM w X 0 [(0, .ref (bk_r w 0)), (1, .int x1), (2, .int x2)] [] σ
  refine bk_aload_n hX 0 dX9_readsThing_0 rfl ?_
  refine bk_iconst hX bk_ci_1 dX9_readsThing_1 ?_
  refine bk_iload_n hX 2 dX9_readsThing_2 rfl ?_
  refine bk_callV_i hX [.int (1 : Int32), .int x2] [] yk_X9_byteAt yv_X9_byteAt lk_X9_121 rfl rfl km_o rfl rfl (Nat.le_of_ble_eq_true rfl) ⟨Nat.le_of_ble_eq_true rfl, Nat.le_of_ble_eq_true rfl⟩ dX9_readsThing_3 (m_X9_byteAt w) (bk_pu (fun r1 => ?_))
  refine bk_istore_n hX (fun v2 => [(3, .int v2), (0, .ref (bk_r w 0)), (1, .int x1), (2, .int x2)]) dX9_readsThing_6 (Nat.le_of_ble_eq_true rfl) (fun _ => rfl) (fun v2 => ?_)
  refine bk_iload_n hX 0 dX9_readsThing_7 rfl ?_
  refine bk_bipush hX bk_cb_109 dX9_readsThing_8 ?_
  refine bk_r_if (α := Int32) (F := fun K3 => (¬ v2 = (109 : Int32) → ((¬ v2 = (119 : Int32) → ((¬ v2 = (113 : Int32) → K3 (-1 : Int32)) ∧ (v2 = (113 : Int32) → K3 (2 : Int32)))) ∧ (v2 = (119 : Int32) → K3 (1 : Int32)))) ∧ (v2 = (109 : Int32) → K3 (0 : Int32))) (fun K3 z => ⟨fun h0 => ⟨fun h1 => ⟨fun h2 => (bk_neg (K := K3) h2 (bk_neg (K := K3) h1 (bk_neg (K := K3) h0 z))), fun h2 => (bk_pos (K := K3) h2 (bk_neg (K := K3) h1 (bk_neg (K := K3) h0 z)))⟩, fun h1 => (bk_pos (K := K3) h1 (bk_neg (K := K3) h0 z))⟩, fun h0 => (bk_pos (K := K3) h0 z)⟩) (J := fun a => bk_At lyM w X 38 [(3, .int v2), (0, .ref (bk_r w 0)), (1, .int x1), (2, .int x2)] [.int a] σ) (fun a4 => ?_) (fun K3 hK3 => ?_)
  · refine bk_istore hX (fun v5 => [(4, .int v5), (3, .int v2), (0, .ref (bk_r w 0)), (1, .int x1), (2, .int x2)]) dX9_readsThing_38 (Nat.le_of_ble_eq_true rfl) (fun _ => rfl) (fun v5 => ?_)
    refine bk_aload_n hX 2 dX9_readsThing_40 rfl ?_
    refine bk_iconst hX bk_ci_1 dX9_readsThing_41 ?_
    refine bk_iload_n hX 4 dX9_readsThing_42 rfl ?_
    refine bk_iconst hX bk_ci_1 dX9_readsThing_43 ?_
    refine bk_iadd hX dX9_readsThing_44 ?_
    refine bk_callV_i hX [.int (1 : Int32), .int (x2 + (1 : Int32))] [] yk_X9_byteAt yv_X9_byteAt lk_X9_121 rfl rfl km_o rfl rfl (Nat.le_of_ble_eq_true rfl) ⟨Nat.le_of_ble_eq_true rfl, Nat.le_of_ble_eq_true rfl⟩ dX9_readsThing_45 (m_X9_byteAt w) (bk_pu (fun r6 => ?_))
    refine bk_bipush hX bk_cb_48 dX9_readsThing_48 ?_
    refine bk_isub hX dX9_readsThing_50 ?_
    refine bk_istore hX (fun v7 => [(5, .int v7), (4, .int v5), (3, .int v2), (0, .ref (bk_r w 0)), (1, .int x1), (2, .int x2)]) dX9_readsThing_51 (Nat.le_of_ble_eq_true rfl) (fun _ => rfl) (fun v7 => ?_)
    refine bk_aload_n hX 3 dX9_readsThing_53 rfl ?_
    refine bk_iconst hX bk_ci_1 dX9_readsThing_54 ?_
    refine bk_iload_n hX 5 dX9_readsThing_55 rfl ?_
    refine bk_iconst hX bk_ci_2 dX9_readsThing_56 ?_
    refine bk_iadd hX dX9_readsThing_57 ?_
    refine bk_callV_i hX [.int (1 : Int32), .int (x2 + (2 : Int32))] [] yk_X9_byteAt yv_X9_byteAt lk_X9_121 rfl rfl km_o rfl rfl (Nat.le_of_ble_eq_true rfl) ⟨Nat.le_of_ble_eq_true rfl, Nat.le_of_ble_eq_true rfl⟩ dX9_readsThing_58 (m_X9_byteAt w) (bk_pu (fun r8 => ?_))
    refine bk_bipush hX bk_cb_48 dX9_readsThing_61 ?_
    refine bk_isub hX dX9_readsThing_63 ?_
    refine bk_istore hX (fun v9 => [(6, .int v9), (5, .int v7), (4, .int v5), (3, .int v2), (0, .ref (bk_r w 0)), (1, .int x1), (2, .int x2)]) dX9_readsThing_64 (Nat.le_of_ble_eq_true rfl) (fun _ => rfl) (fun v9 => ?_)
    refine bk_iload_n hX 5 dX9_readsThing_66 rfl ?_
    refine bk_bipush hX bk_cb_8 dX9_readsThing_67 ?_
    refine bk_icmp_eq hX 78 dX9_readsThing_69 rfl ?_ ?_
    · refine bk_iconst hX bk_ci_0 dX9_readsThing_78 ?_
      exact fun z => hret _ _ _ _ dX9_readsThing_79 rfl z
    · refine bk_iload hX 2 dX9_readsThing_72 rfl ?_
      refine bk_iconst hX bk_ci_m1 dX9_readsThing_74 ?_
      refine bk_icmp_ne hX 80 dX9_readsThing_75 rfl ?_ ?_
      · refine bk_iload hX 1 dX9_readsThing_80 rfl ?_
        refine bk_iconst hX bk_ci_1 dX9_readsThing_82 ?_
        refine bk_bipush hX bk_cb_9 dX9_readsThing_83 ?_
        refine bk_callS_i hX [.int v7, .int (1 : Int32), .int (9 : Int32)] [] yk_X9_in ys_X9_in lk_X9_109 rfl rfl (Nat.le_of_ble_eq_true rfl) ⟨Nat.le_of_ble_eq_true rfl, Nat.le_of_ble_eq_true rfl⟩ dX9_readsThing_85 (m_X9_in w) (bk_pu (fun r10 => ?_))
        refine bk_if_ne hX 93 dX9_readsThing_88 rfl ?_ ?_
        · refine bk_iload hX 0 dX9_readsThing_93 rfl ?_
          refine bk_iconst hX bk_ci_0 dX9_readsThing_95 ?_
          refine bk_bipush hX bk_cb_9 dX9_readsThing_96 ?_
          refine bk_callS_i hX [.int v9, .int (0 : Int32), .int (9 : Int32)] [] yk_X9_in ys_X9_in lk_X9_109 rfl rfl (Nat.le_of_ble_eq_true rfl) ⟨Nat.le_of_ble_eq_true rfl, Nat.le_of_ble_eq_true rfl⟩ dX9_readsThing_98 (m_X9_in w) (bk_pu (fun r11 => ?_))
          refine bk_if_ne hX 106 dX9_readsThing_101 rfl ?_ ?_
          · refine bk_aload_n hX 4 dX9_readsThing_106 rfl ?_
            refine bk_getr hX km_o rfl fl_X9_19 dX9_readsThing_107 ?_
            refine bk_iload_n hX 5 dX9_readsThing_110 rfl ?_
            refine bk_iload hX 2 dX9_readsThing_111 rfl ?_
            refine bk_iastore hX km_6 dX9_readsThing_113 (fun σ12 => ?_)
            refine bk_aload_n hX 4 dX9_readsThing_114 rfl ?_
            refine bk_getr hX km_o rfl fl_X9_22 dX9_readsThing_115 ?_
            refine bk_iload_n hX 5 dX9_readsThing_118 rfl ?_
            refine bk_iload hX 1 dX9_readsThing_119 rfl ?_
            refine bk_iastore hX km_7 dX9_readsThing_121 (fun σ13 => ?_)
            refine bk_aload_n hX 4 dX9_readsThing_122 rfl ?_
            refine bk_getr hX km_o rfl fl_X9_25 dX9_readsThing_123 ?_
            refine bk_iload_n hX 5 dX9_readsThing_126 rfl ?_
            refine bk_iload hX 0 dX9_readsThing_127 rfl ?_
            refine bk_iastore hX km_8 dX9_readsThing_129 (fun σ14 => ?_)
            refine bk_iconst hX bk_ci_3 dX9_readsThing_130 ?_
            exact fun z => hret _ _ _ _ dX9_readsThing_131 rfl z
          · refine bk_iconst hX bk_ci_2 dX9_readsThing_104 ?_
            exact fun z => hret _ _ _ _ dX9_readsThing_105 rfl z
        · refine bk_iconst hX bk_ci_1 dX9_readsThing_91 ?_
          exact fun z => hret _ _ _ _ dX9_readsThing_92 rfl z
      · refine bk_iconst hX bk_ci_0 dX9_readsThing_78 ?_
        exact fun z => hret _ _ _ _ dX9_readsThing_79 rfl z
  · refine bk_icmp_ne hX 17 dX9_readsThing_10 rfl ?_ ?_
    · refine bk_iload_n hX 0 dX9_readsThing_17 rfl ?_
      refine bk_bipush hX bk_cb_119 dX9_readsThing_18 ?_
      refine bk_icmp_ne hX 27 dX9_readsThing_20 rfl ?_ ?_
      · refine bk_iload_n hX 0 dX9_readsThing_27 rfl ?_
        refine bk_bipush hX bk_cb_113 dX9_readsThing_28 ?_
        refine bk_icmp_ne hX 37 dX9_readsThing_30 rfl ?_ ?_
        · refine bk_iconst hX bk_ci_m1 dX9_readsThing_37 ?_
          exact bk_pick [0, 1, 2, 3] rfl (hK3 (-1 : Int32))
        · refine bk_iconst hX bk_ci_2 dX9_readsThing_33 ?_
          refine bk_goto hX 38 dX9_readsThing_34 rfl ?_
          exact bk_pick [0, 1, 2, 3] rfl (hK3 (2 : Int32))
      · refine bk_iconst hX bk_ci_1 dX9_readsThing_23 ?_
        refine bk_goto hX 38 dX9_readsThing_24 rfl ?_
        exact bk_pick [0, 1, 2, 3] rfl (hK3 (1 : Int32))
    · refine bk_iconst hX bk_ci_0 dX9_readsThing_13 ?_
      refine bk_goto hX 38 dX9_readsThing_14 rfl ?_
      exact bk_pick [0, 1, 2, 3] rfl (hK3 (0 : Int32))

def w_X9_readsThings (σ : bk_S) (post : Int32 → bk_S → Prop) : Prop :=
  bk_lt (α := Int32) (0 : Int32) fun v1 =>
  bk_lt (α := Int32) (0 : Int32) fun v2 =>
  bk_lt (α := bk_S) (bk_u σ 0 4 (0 : Int32)) fun σ3 =>
  bk_jn (α := Int32 × bk_S) (fun a5 =>
    bk_lt (α := bk_S) (bk_u a5.2 0 4 a5.1) fun σ17 =>
    post (-1 : Int32) σ17) (fun K4 =>
    bk_loop (α := Int32 × Int32 × bk_S) (fun K6 a7 =>
      vp_in (1 : Int32) 2 ∧ bk_jn (α := Unit) (fun a9 =>
        w_X9_readsThing a7.1 a7.2.1 a7.2.2 (fun r10 σ11 =>
          bk_lt (α := Int32) r10 fun v12 =>
          ((3 : Int32) ≤ v12 → (bk_lt (α := Int32) (a7.1 + (1 : Int32)) fun v13 =>
          bk_lt (α := Int32) (a7.2.1 + (3 : Int32)) fun v14 =>
          vp_in (1 : Int32) 2 ∧ (¬ v14 = (σ11 1 (Int32.toNatClampNeg (1 : Int32))) → (w_X9_byteAt (1 : Int32) v14 σ11 (fun r15 =>
            (r15 = (59 : Int32) → (bk_lt (α := Int32) (v14 + (1 : Int32)) fun v16 =>
            K6 (v13, v16, σ11))) ∧ (¬ r15 = (59 : Int32) → post v14 σ11)))) ∧ (v14 = (σ11 1 (Int32.toNatClampNeg (1 : Int32))) → K4 (v13, σ11)))) ∧ (¬ (3 : Int32) ≤ v12 → post (a7.2.1 + v12) σ11))) (fun K8 =>
        (a7.2.1 < (a7.2.2 1 (Int32.toNatClampNeg (1 : Int32))) → K8 ()) ∧ (¬ a7.2.1 < (a7.2.2 1 (Int32.toNatClampNeg (1 : Int32))) → ((a7.2.1 ≤ 0 → post (-1 : Int32) a7.2.2) ∧ (¬ a7.2.1 ≤ 0 → K8 ()))))) (v1, v2, σ3))
set_option maxRecDepth 20000 in
theorem m_X9_readsThings (w : bk_W) {σ : bk_S} {post : Int32 → bk_S → Prop} : w_X9_readsThings σ post → bk_Mi lyM w yX9_readsThings cX9_readsThings 4 .int 2 48 [.ref (bk_r w 0)] σ post := by
  intro h0
  refine bk_mi (by decide) (Nat.le_of_ble_eq_true rfl) (fun X hX hret => ?_)
  revert h0
  unfold w_X9_readsThings
  show _ → bk_At lyM w X 0 [(0, .ref (bk_r w 0))] [] σ
  refine bk_iconst hX bk_ci_0 dX9_readsThings_0 ?_
  refine bk_istore_n hX (fun v1 => [(1, .int v1), (0, .ref (bk_r w 0))]) dX9_readsThings_1 (Nat.le_of_ble_eq_true rfl) (fun _ => rfl) (fun v1 => ?_)
  refine bk_iconst hX bk_ci_0 dX9_readsThings_2 ?_
  refine bk_istore_n hX (fun v2 => [(2, .int v2), (1, .int v1), (0, .ref (bk_r w 0))]) dX9_readsThings_3 (Nat.le_of_ble_eq_true rfl) (fun _ => rfl) (fun v2 => ?_)
  refine bk_aload_n hX 2 dX9_readsThings_4 rfl ?_
  refine bk_iconst hX bk_ci_0 dX9_readsThings_5 ?_
  refine bk_putI hX km_o rfl fp_X9_125 dX9_readsThings_6 (fun σ3 => ?_)
  refine bk_r_jn (α := Int32 × bk_S) (J := fun a => bk_At lyM w X 55 [(1, .int a.1), (0, .ref (bk_r w 0))] [] a.2) (fun a5 => ?_) (fun K4 hK4 => ?_)
  · refine bk_aload_n hX 1 dX9_readsThings_55 rfl ?_
    refine bk_iload_n hX 0 dX9_readsThings_56 rfl ?_
    refine bk_putI hX km_o rfl fp_X9_125 dX9_readsThings_57 (fun σ17 => ?_)
    refine bk_iconst hX bk_ci_m1 dX9_readsThings_60 ?_
    exact fun z => hret _ _ _ _ dX9_readsThings_61 rfl z
  · refine bk_pick [0, 1, 2] rfl (bk_r_loop (α := Int32 × Int32 × bk_S) (J := fun a => bk_At lyM w X 9 [(2, .int a.2.1), (1, .int a.1), (0, .ref (bk_r w 0))] [] a.2.2) (v1, v2, σ3) (fun K6 hK6 a7 => ?_))
    refine bk_iload_n hX 0 dX9_readsThings_9 rfl ?_
    refine bk_aload_n hX 2 dX9_readsThings_10 rfl ?_
    refine bk_getr hX km_o rfl fl_X9_7 dX9_readsThings_11 ?_
    refine bk_iconst hX bk_ci_1 dX9_readsThings_14 ?_
    refine bk_iaload hX km_1 dX9_readsThings_15 ?_
    refine bk_r_jn (α := Unit) (J := fun a => bk_At lyM w X 23 [(2, .int a7.2.1), (1, .int a7.1), (0, .ref (bk_r w 0))] [] a7.2.2) (fun a9 => ?_) (fun K8 hK8 => ?_)
    · refine bk_aload_n hX 2 dX9_readsThings_23 rfl ?_
      refine bk_iload_n hX 1 dX9_readsThings_24 rfl ?_
      refine bk_iload_n hX 0 dX9_readsThings_25 rfl ?_
      refine bk_callV_i hX [.int a7.1, .int a7.2.1] [] yk_X9_readsThing yv_X9_readsThing lk_X9_128 rfl rfl km_o rfl rfl (Nat.le_of_ble_eq_true rfl) ⟨Nat.le_of_ble_eq_true rfl, Nat.le_of_ble_eq_true rfl⟩ dX9_readsThings_26 (m_X9_readsThing w) (fun r10 σ11 => ?_)
      refine bk_istore_n hX (fun v12 => [(3, .int v12), (2, .int a7.2.1), (1, .int a7.1), (0, .ref (bk_r w 0))]) dX9_readsThings_29 (Nat.le_of_ble_eq_true rfl) (fun _ => rfl) (fun v12 => ?_)
      refine bk_iload_n hX 0 dX9_readsThings_30 rfl ?_
      refine bk_iconst hX bk_ci_3 dX9_readsThings_31 ?_
      refine bk_icmp_ge hX 39 dX9_readsThings_32 rfl ?_ ?_
      · refine bk_iinc hX 2 (fun v13 => [(1, .int v13), (3, .int v12), (2, .int a7.2.1), (0, .ref (bk_r w 0))]) dX9_readsThings_39 rfl bk_ci_1 (Nat.le_of_ble_eq_true rfl) (fun _ => rfl) (fun v13 => ?_)
        refine bk_iinc hX 2 (fun v14 => [(2, .int v14), (1, .int v13), (3, .int v12), (0, .ref (bk_r w 0))]) dX9_readsThings_42 rfl bk_ci_3 (Nat.le_of_ble_eq_true rfl) (fun _ => rfl) (fun v14 => ?_)
        refine bk_iload_n hX 0 dX9_readsThings_45 rfl ?_
        refine bk_aload_n hX 3 dX9_readsThings_46 rfl ?_
        refine bk_getr hX km_o rfl fl_X9_7 dX9_readsThings_47 ?_
        refine bk_iconst hX bk_ci_1 dX9_readsThings_50 ?_
        refine bk_iaload hX km_1 dX9_readsThings_51 ?_
        refine bk_icmp_ne hX 62 dX9_readsThings_52 rfl ?_ ?_
        · refine bk_aload_n hX 3 dX9_readsThings_62 rfl ?_
          refine bk_iconst hX bk_ci_1 dX9_readsThings_63 ?_
          refine bk_iload_n hX 0 dX9_readsThings_64 rfl ?_
          refine bk_callV_i hX [.int (1 : Int32), .int v14] [] yk_X9_byteAt yv_X9_byteAt lk_X9_121 rfl rfl km_o rfl rfl (Nat.le_of_ble_eq_true rfl) ⟨Nat.le_of_ble_eq_true rfl, Nat.le_of_ble_eq_true rfl⟩ dX9_readsThings_65 (m_X9_byteAt w) (bk_pu (fun r15 => ?_))
          refine bk_bipush hX bk_cb_59 dX9_readsThings_68 ?_
          refine bk_icmp_eq hX 75 dX9_readsThings_70 rfl ?_ ?_
          · refine bk_iinc hX 0 (fun v16 => [(2, .int v16), (1, .int v13), (3, .int v12), (0, .ref (bk_r w 0))]) dX9_readsThings_75 rfl bk_ci_1 (Nat.le_of_ble_eq_true rfl) (fun _ => rfl) (fun v16 => ?_)
            refine bk_goto hX 9 dX9_readsThings_78 rfl ?_
            exact bk_pick [0, 1, 3] rfl (hK6 (v13, v16, σ11))
          · refine bk_iload_n hX 0 dX9_readsThings_73 rfl ?_
            exact fun z => hret _ _ _ _ dX9_readsThings_74 rfl z
        · exact bk_pick [1, 3] rfl (hK4 (v13, σ11))
      · refine bk_iload_n hX 1 dX9_readsThings_35 rfl ?_
        refine bk_iload_n hX 0 dX9_readsThings_36 rfl ?_
        refine bk_iadd hX dX9_readsThings_37 ?_
        exact fun z => hret _ _ _ _ dX9_readsThings_38 rfl z
    · refine bk_icmp_lt hX 23 dX9_readsThings_16 rfl ?_ ?_
      · exact bk_pick [0, 1, 2] rfl (hK8 ())
      · refine bk_iload_n hX 0 dX9_readsThings_19 rfl ?_
        refine bk_if_le hX 81 dX9_readsThings_20 rfl ?_ ?_
        · refine bk_iconst hX bk_ci_m1 dX9_readsThings_81 ?_
          exact fun z => hret _ _ _ _ dX9_readsThings_82 rfl z
        · exact bk_pick [0, 1, 2] rfl (hK8 ())

def w_X9_faultOf (x1 : Int32) (σ : bk_S) (post : Int32 → bk_S → Prop) : Prop :=
  w_X9_readsHooks σ (fun r1 σ2 =>
    bk_lt (α := Int32) r1 fun v3 =>
    w_X9_readsThings σ2 (fun r4 σ5 =>
      bk_lt (α := Int32) r4 fun v6 =>
      (¬ x1 = 0 → post v6 σ5) ∧ (x1 = 0 → post v3 σ5)))
set_option maxRecDepth 20000 in
theorem m_X9_faultOf (w : bk_W) {x1 : Int32} {σ : bk_S} {post : Int32 → bk_S → Prop} : w_X9_faultOf x1 σ post → bk_Mi lyM w yX9_faultOf cX9_faultOf 4 .int 3 71 [.ref (bk_r w 0), .int x1] σ post := by
  intro h0
  refine bk_mi (by decide) (Nat.le_of_ble_eq_true rfl) (fun X hX hret => ?_)
  revert h0
  unfold w_X9_faultOf
  show _ → bk_At lyM w X 0 [(0, .ref (bk_r w 0)), (1, .int x1)] [] σ
  refine bk_aload_n hX 0 dX9_faultOf_0 rfl ?_
  refine bk_callV_i hX [] [] yk_X9_readsHooks yv_X9_readsHooks lk_X9_131 rfl rfl km_o rfl rfl (Nat.le_of_ble_eq_true rfl) ⟨Nat.le_of_ble_eq_true rfl, Nat.le_of_ble_eq_true rfl⟩ dX9_faultOf_1 (m_X9_readsHooks w) (fun r1 σ2 => ?_)
  refine bk_istore_n hX (fun v3 => [(2, .int v3), (0, .ref (bk_r w 0)), (1, .int x1)]) dX9_faultOf_4 (Nat.le_of_ble_eq_true rfl) (fun _ => rfl) (fun v3 => ?_)
  refine bk_aload_n hX 1 dX9_faultOf_5 rfl ?_
  refine bk_callV_i hX [] [] yk_X9_readsThings yv_X9_readsThings lk_X9_135 rfl rfl km_o rfl rfl (Nat.le_of_ble_eq_true rfl) ⟨Nat.le_of_ble_eq_true rfl, Nat.le_of_ble_eq_true rfl⟩ dX9_faultOf_6 (m_X9_readsThings w) (fun r4 σ5 => ?_)
  refine bk_istore_n hX (fun v6 => [(3, .int v6), (2, .int v3), (0, .ref (bk_r w 0)), (1, .int x1)]) dX9_faultOf_9 (Nat.le_of_ble_eq_true rfl) (fun _ => rfl) (fun v6 => ?_)
  refine bk_iload_n hX 3 dX9_faultOf_10 rfl ?_
  refine bk_if_ne hX 18 dX9_faultOf_11 rfl ?_ ?_
  · refine bk_iload_n hX 0 dX9_faultOf_18 rfl ?_
    exact fun z => hret _ _ _ _ dX9_faultOf_19 rfl z
  · refine bk_iload_n hX 1 dX9_faultOf_14 rfl ?_
    refine bk_goto hX 19 dX9_faultOf_15 rfl ?_
    exact fun z => hret _ _ _ _ dX9_faultOf_19 rfl z

def w_X9_reads (σ : bk_S) (post : bk_S → Prop) : Prop :=
  w_X9_faultOf (0 : Int32) σ (fun r1 σ2 =>
    bk_lt (α := Int32) r1 fun v3 =>
    post σ2)
set_option maxRecDepth 20000 in
theorem m_X9_reads (w : bk_W) {σ : bk_S} {post : bk_S → Prop} : w_X9_reads σ post → bk_Mv lyM w yX9_reads cX9_reads 2 4 94 [.ref (bk_r w 0)] σ post := by
  intro h0
  refine bk_mv (by decide) (Nat.le_of_ble_eq_true rfl) (fun X hX hret => ?_)
  revert h0
  unfold w_X9_reads
  show _ → bk_At lyM w X 0 [(0, .ref (bk_r w 0))] [] σ
  refine bk_aload_n hX 0 dX9_reads_0 rfl ?_
  refine bk_iconst hX bk_ci_0 dX9_reads_1 ?_
  refine bk_callV_i hX [.int (0 : Int32)] [] yk_X9_faultOf yv_X9_faultOf lk_X9_138 rfl rfl km_o rfl rfl (Nat.le_of_ble_eq_true rfl) ⟨Nat.le_of_ble_eq_true rfl, Nat.le_of_ble_eq_true rfl⟩ dX9_reads_2 (m_X9_faultOf w) (fun r1 σ2 => ?_)
  refine bk_istore_n hX (fun v3 => [(1, .int v3), (0, .ref (bk_r w 0))]) dX9_reads_5 (Nat.le_of_ble_eq_true rfl) (fun _ => rfl) (fun v3 => ?_)
  exact fun z => hret _ _ _ dX9_reads_6 z

def w_X9_fault (x1 : Int32) (σ : bk_S) (post : Int32 → bk_S → Prop) : Prop :=
  w_X9_isTwo x1 (fun r1 =>
    (r1 = 0 → post (-2 : Int32) σ) ∧ (¬ r1 = 0 → (w_X9_faultOf x1 σ (fun r2 σ3 =>
      post r2 σ3))))
set_option maxRecDepth 20000 in
theorem m_X9_fault (w : bk_W) {x1 : Int32} {σ : bk_S} {post : Int32 → bk_S → Prop} : w_X9_fault x1 σ post → bk_Mi lyM w yX9_fault cX9_fault 2 .int 4 94 [.ref (bk_r w 0), .int x1] σ post := by
  intro h0
  refine bk_mi (by decide) (Nat.le_of_ble_eq_true rfl) (fun X hX hret => ?_)
  revert h0
  unfold w_X9_fault
  show _ → bk_At lyM w X 0 [(0, .ref (bk_r w 0)), (1, .int x1)] [] σ
  refine bk_iload_n hX 1 dX9_fault_0 rfl ?_
  refine bk_callS_i hX [.int x1] [] yk_X9_isTwo ys_X9_isTwo lk_X9_113 rfl rfl (Nat.le_of_ble_eq_true rfl) ⟨Nat.le_of_ble_eq_true rfl, Nat.le_of_ble_eq_true rfl⟩ dX9_fault_1 (m_X9_isTwo w) (bk_pu (fun r1 => ?_))
  refine bk_if_eq hX 15 dX9_fault_4 rfl ?_ ?_
  · refine bk_bipush hX bk_cb_m2 dX9_fault_15 ?_
    exact fun z => hret _ _ _ _ dX9_fault_17 rfl z
  · refine bk_aload_n hX 0 dX9_fault_7 rfl ?_
    refine bk_iload_n hX 1 dX9_fault_8 rfl ?_
    refine bk_callV_i hX [.int x1] [] yk_X9_faultOf yv_X9_faultOf lk_X9_138 rfl rfl km_o rfl rfl (Nat.le_of_ble_eq_true rfl) ⟨Nat.le_of_ble_eq_true rfl, Nat.le_of_ble_eq_true rfl⟩ dX9_fault_9 (m_X9_faultOf w) (fun r2 σ3 => ?_)
    refine bk_goto hX 17 dX9_fault_12 rfl ?_
    exact fun z => hret _ _ _ _ dX9_fault_17 rfl z

def w_X9_isHook (x1 : Int32) (σ : bk_S) (post : Int32 → bk_S → Prop) : Prop :=
  w_X9_reads σ (fun σ1 =>
    w_X9_in x1 (0 : Int32) ((σ1 0 2) - (1 : Int32)) (fun r2 =>
      narrow .boolean (.int r2) = .int r2 ∧ post r2 σ1))
set_option maxRecDepth 20000 in
theorem m_X9_isHook (w : bk_W) {x1 : Int32} {σ : bk_S} {post : Int32 → bk_S → Prop} : w_X9_isHook x1 σ post → bk_Mi lyM w yX9_isHook cX9_isHook 2 .boolean 5 115 [.ref (bk_r w 0), .int x1] σ post := by
  intro h0
  refine bk_mi (by decide) (Nat.le_of_ble_eq_true rfl) (fun X hX hret => ?_)
  revert h0
  unfold w_X9_isHook
  show _ → bk_At lyM w X 0 [(0, .ref (bk_r w 0)), (1, .int x1)] [] σ
  refine bk_aload_n hX 0 dX9_isHook_0 rfl ?_
  refine bk_callV_v hX [] [] yk_X9_reads yv_X9_reads lk_X9_142 rfl rfl km_o rfl rfl (Nat.le_of_ble_eq_true rfl) ⟨Nat.le_of_ble_eq_true rfl, Nat.le_of_ble_eq_true rfl⟩ dX9_isHook_1 (m_X9_reads w) (fun σ1 => ?_)
  refine bk_iload_n hX 1 dX9_isHook_4 rfl ?_
  refine bk_iconst hX bk_ci_0 dX9_isHook_5 ?_
  refine bk_aload_n hX 0 dX9_isHook_6 rfl ?_
  refine bk_geti hX km_o rfl fl_X9_117 dX9_isHook_7 ?_
  refine bk_iconst hX bk_ci_1 dX9_isHook_10 ?_
  refine bk_isub hX dX9_isHook_11 ?_
  refine bk_callS_i hX [.int x1, .int (0 : Int32), .int ((σ1 0 2) - (1 : Int32))] [] yk_X9_in ys_X9_in lk_X9_109 rfl rfl (Nat.le_of_ble_eq_true rfl) ⟨Nat.le_of_ble_eq_true rfl, Nat.le_of_ble_eq_true rfl⟩ dX9_isHook_12 (m_X9_in w) (bk_pu (fun r2 => ?_))
  exact fun z => hret _ _ _ _ dX9_isHook_15 z.1 z.2

def w_X9_isThing (x1 : Int32) (σ : bk_S) (post : Int32 → bk_S → Prop) : Prop :=
  w_X9_reads σ (fun σ1 =>
    w_X9_in x1 (0 : Int32) ((σ1 0 4) - (1 : Int32)) (fun r2 =>
      narrow .boolean (.int r2) = .int r2 ∧ post r2 σ1))
set_option maxRecDepth 20000 in
theorem m_X9_isThing (w : bk_W) {x1 : Int32} {σ : bk_S} {post : Int32 → bk_S → Prop} : w_X9_isThing x1 σ post → bk_Mi lyM w yX9_isThing cX9_isThing 2 .boolean 5 115 [.ref (bk_r w 0), .int x1] σ post := by
  intro h0
  refine bk_mi (by decide) (Nat.le_of_ble_eq_true rfl) (fun X hX hret => ?_)
  revert h0
  unfold w_X9_isThing
  show _ → bk_At lyM w X 0 [(0, .ref (bk_r w 0)), (1, .int x1)] [] σ
  refine bk_aload_n hX 0 dX9_isThing_0 rfl ?_
  refine bk_callV_v hX [] [] yk_X9_reads yv_X9_reads lk_X9_142 rfl rfl km_o rfl rfl (Nat.le_of_ble_eq_true rfl) ⟨Nat.le_of_ble_eq_true rfl, Nat.le_of_ble_eq_true rfl⟩ dX9_isThing_1 (m_X9_reads w) (fun σ1 => ?_)
  refine bk_iload_n hX 1 dX9_isThing_4 rfl ?_
  refine bk_iconst hX bk_ci_0 dX9_isThing_5 ?_
  refine bk_aload_n hX 0 dX9_isThing_6 rfl ?_
  refine bk_geti hX km_o rfl fl_X9_125 dX9_isThing_7 ?_
  refine bk_iconst hX bk_ci_1 dX9_isThing_10 ?_
  refine bk_isub hX dX9_isThing_11 ?_
  refine bk_callS_i hX [.int x1, .int (0 : Int32), .int ((σ1 0 4) - (1 : Int32))] [] yk_X9_in ys_X9_in lk_X9_109 rfl rfl (Nat.le_of_ble_eq_true rfl) ⟨Nat.le_of_ble_eq_true rfl, Nat.le_of_ble_eq_true rfl⟩ dX9_isThing_12 (m_X9_in w) (bk_pu (fun r2 => ?_))
  exact fun z => hret _ _ _ _ dX9_isThing_15 z.1 z.2

def w_X9_hook (x1 : Int32) (σ : bk_S) (post : Int32 → bk_S → Prop) : Prop :=
  w_X9_isHook x1 σ (fun r1 σ2 =>
    (r1 = 0 → post (-2 : Int32) σ2) ∧ (¬ r1 = 0 → (vp_in x1 12 ∧ post (σ2 4 (Int32.toNatClampNeg x1)) σ2)))
set_option maxRecDepth 20000 in
theorem m_X9_hook (w : bk_W) {x1 : Int32} {σ : bk_S} {post : Int32 → bk_S → Prop} : w_X9_hook x1 σ post → bk_Mi lyM w yX9_hook cX9_hook 2 .int 6 136 [.ref (bk_r w 0), .int x1] σ post := by
  intro h0
  refine bk_mi (by decide) (Nat.le_of_ble_eq_true rfl) (fun X hX hret => ?_)
  revert h0
  unfold w_X9_hook
  show _ → bk_At lyM w X 0 [(0, .ref (bk_r w 0)), (1, .int x1)] [] σ
  refine bk_aload_n hX 0 dX9_hook_0 rfl ?_
  refine bk_iload_n hX 1 dX9_hook_1 rfl ?_
  refine bk_callV_i hX [.int x1] [] yk_X9_isHook yv_X9_isHook lk_X9_145 rfl rfl km_o rfl rfl (Nat.le_of_ble_eq_true rfl) ⟨Nat.le_of_ble_eq_true rfl, Nat.le_of_ble_eq_true rfl⟩ dX9_hook_2 (m_X9_isHook w) (fun r1 σ2 => ?_)
  refine bk_if_eq hX 17 dX9_hook_5 rfl ?_ ?_
  · refine bk_bipush hX bk_cb_m2 dX9_hook_17 ?_
    exact fun z => hret _ _ _ _ dX9_hook_19 rfl z
  · refine bk_aload_n hX 0 dX9_hook_8 rfl ?_
    refine bk_getr hX km_o rfl fl_X9_16 dX9_hook_9 ?_
    refine bk_iload_n hX 1 dX9_hook_12 rfl ?_
    refine bk_iaload hX km_4 dX9_hook_13 ?_
    refine bk_goto hX 19 dX9_hook_14 rfl ?_
    exact fun z => hret _ _ _ _ dX9_hook_19 rfl z

def w_X9_thingOf (x1 : Int32) (x2 : Int32) (σ : bk_S) (post : Int32 → Prop) : Prop :=
  (¬ x2 = 0 → ((¬ x2 = (1 : Int32) → (vp_in x1 9 ∧ post (σ 8 (Int32.toNatClampNeg x1)))) ∧ (x2 = (1 : Int32) → (vp_in x1 9 ∧ post (σ 7 (Int32.toNatClampNeg x1)))))) ∧ (x2 = 0 → (vp_in x1 9 ∧ post (σ 6 (Int32.toNatClampNeg x1))))
set_option maxRecDepth 20000 in
theorem m_X9_thingOf (w : bk_W) {x1 : Int32} {x2 : Int32} {σ : bk_S} {post : Int32 → Prop} : w_X9_thingOf x1 x2 σ post → bk_Mi lyM w yX9_thingOf cX9_thingOf 3 .int 0 0 [.ref (bk_r w 0), .int x1, .int x2] σ (fun r σ1 => post r ∧ σ1 = σ) := by
  intro h0
  refine bk_mi (by decide) (Nat.le_of_ble_eq_true rfl) (fun X hX hret => ?_)
  revert h0
  unfold w_X9_thingOf
  show _ → bk_At lyM w X 0 [(0, .ref (bk_r w 0)), (1, .int x1), (2, .int x2)] [] σ
  refine bk_iload_n hX 2 dX9_thingOf_0 rfl ?_
  refine bk_if_ne hX 13 dX9_thingOf_1 rfl ?_ ?_
  · refine bk_iload_n hX 2 dX9_thingOf_13 rfl ?_
    refine bk_iconst hX bk_ci_1 dX9_thingOf_14 ?_
    refine bk_icmp_ne hX 27 dX9_thingOf_15 rfl ?_ ?_
    · refine bk_aload_n hX 0 dX9_thingOf_27 rfl ?_
      refine bk_getr hX km_o rfl fl_X9_25 dX9_thingOf_28 ?_
      refine bk_iload_n hX 1 dX9_thingOf_31 rfl ?_
      refine bk_iaload hX km_8 dX9_thingOf_32 ?_
      exact fun z => hret _ _ _ _ dX9_thingOf_33 rfl ⟨z, rfl⟩
    · refine bk_aload_n hX 0 dX9_thingOf_18 rfl ?_
      refine bk_getr hX km_o rfl fl_X9_22 dX9_thingOf_19 ?_
      refine bk_iload_n hX 1 dX9_thingOf_22 rfl ?_
      refine bk_iaload hX km_7 dX9_thingOf_23 ?_
      refine bk_goto hX 33 dX9_thingOf_24 rfl ?_
      exact fun z => hret _ _ _ _ dX9_thingOf_33 rfl ⟨z, rfl⟩
  · refine bk_aload_n hX 0 dX9_thingOf_4 rfl ?_
    refine bk_getr hX km_o rfl fl_X9_19 dX9_thingOf_5 ?_
    refine bk_iload_n hX 1 dX9_thingOf_8 rfl ?_
    refine bk_iaload hX km_6 dX9_thingOf_9 ?_
    refine bk_goto hX 33 dX9_thingOf_10 rfl ?_
    exact fun z => hret _ _ _ _ dX9_thingOf_33 rfl ⟨z, rfl⟩

def w_X9_thing (x1 : Int32) (x2 : Int32) (σ : bk_S) (post : Int32 → bk_S → Prop) : Prop :=
  w_X9_isThing x1 σ (fun r1 σ2 =>
    bk_jn (α := Unit) (fun a4 =>
      post (-2 : Int32) σ2) (fun K3 =>
      (r1 = 0 → K3 ()) ∧ (¬ r1 = 0 → (w_X9_isThree x2 (fun r5 =>
        (r5 = 0 → K3 ()) ∧ (¬ r5 = 0 → (w_X9_thingOf x1 x2 σ2 (fun r6 =>
          post r6 σ2))))))))
set_option maxRecDepth 20000 in
theorem m_X9_thing (w : bk_W) {x1 : Int32} {x2 : Int32} {σ : bk_S} {post : Int32 → bk_S → Prop} : w_X9_thing x1 x2 σ post → bk_Mi lyM w yX9_thing cX9_thing 3 .int 6 136 [.ref (bk_r w 0), .int x1, .int x2] σ post := by
  intro h0
  refine bk_mi (by decide) (Nat.le_of_ble_eq_true rfl) (fun X hX hret => ?_)
  revert h0
  unfold w_X9_thing
  show _ → bk_At lyM w X 0 [(0, .ref (bk_r w 0)), (1, .int x1), (2, .int x2)] [] σ
  refine bk_aload_n hX 0 dX9_thing_0 rfl ?_
  refine bk_iload_n hX 1 dX9_thing_1 rfl ?_
  refine bk_callV_i hX [.int x1] [] yk_X9_isThing yv_X9_isThing lk_X9_148 rfl rfl km_o rfl rfl (Nat.le_of_ble_eq_true rfl) ⟨Nat.le_of_ble_eq_true rfl, Nat.le_of_ble_eq_true rfl⟩ dX9_thing_2 (m_X9_isThing w) (fun r1 σ2 => ?_)
  refine bk_r_jn (α := Unit) (J := fun a => bk_At lyM w X 24 [(0, .ref (bk_r w 0)), (1, .int x1), (2, .int x2)] [] σ2) (fun a4 => ?_) (fun K3 hK3 => ?_)
  · refine bk_bipush hX bk_cb_m2 dX9_thing_24 ?_
    exact fun z => hret _ _ _ _ dX9_thing_26 rfl z
  · refine bk_if_eq hX 24 dX9_thing_5 rfl ?_ ?_
    · exact bk_pick [0, 1, 2] rfl (hK3 ())
    · refine bk_iload_n hX 2 dX9_thing_8 rfl ?_
      refine bk_callS_i hX [.int x2] [] yk_X9_isThree ys_X9_isThree lk_X9_151 rfl rfl (Nat.le_of_ble_eq_true rfl) ⟨Nat.le_of_ble_eq_true rfl, Nat.le_of_ble_eq_true rfl⟩ dX9_thing_9 (m_X9_isThree w) (bk_pu (fun r5 => ?_))
      refine bk_if_eq hX 24 dX9_thing_12 rfl ?_ ?_
      · exact bk_pick [0, 1, 2] rfl (hK3 ())
      · refine bk_aload_n hX 0 dX9_thing_15 rfl ?_
        refine bk_iload_n hX 1 dX9_thing_16 rfl ?_
        refine bk_iload_n hX 2 dX9_thing_17 rfl ?_
        refine bk_callV_i hX [.int x1, .int x2] [] yk_X9_thingOf yv_X9_thingOf lk_X9_154 rfl rfl km_o rfl rfl (Nat.le_of_ble_eq_true rfl) ⟨Nat.le_of_ble_eq_true rfl, Nat.le_of_ble_eq_true rfl⟩ dX9_thing_18 (m_X9_thingOf w) (bk_pu (fun r6 => ?_))
        refine bk_goto hX 26 dX9_thing_21 rfl ?_
        exact fun z => hret _ _ _ _ dX9_thing_26 rfl z

def w_X9_event (x1 : Int32) (x2 : Int32) (x3 : Int32) (σ : bk_S) (post : Int32 → bk_S → Prop) : Prop :=
  w_X9_isThree x1 (fun r1 =>
    (r1 = 0 → post (-2 : Int32) σ) ∧ (¬ r1 = 0 → (w_X9_isTwelve x2 (fun r2 =>
      (r2 = 0 → post (-2 : Int32) σ) ∧ (¬ r2 = 0 → (w_X9_isTwelve x3 (fun r3 =>
        (¬ r3 = 0 → ((¬ (σ 0 8) = (8 : Int32) → (vp_in (σ 0 8) 8 ∧ bk_lt (α := bk_S) (bk_u σ 10 (Int32.toNatClampNeg (σ 0 8)) x1) fun σ4 =>
        vp_in (σ4 0 8) 8 ∧ bk_lt (α := bk_S) (bk_u σ4 11 (Int32.toNatClampNeg (σ4 0 8)) x2) fun σ5 =>
        vp_in (σ5 0 8) 8 ∧ bk_lt (α := bk_S) (bk_u σ5 12 (Int32.toNatClampNeg (σ5 0 8)) x3) fun σ6 =>
        bk_lt (α := bk_S) (bk_u σ6 0 8 ((σ6 0 8) + (1 : Int32))) fun σ7 =>
        post (σ7 0 8) σ7)) ∧ ((σ 0 8) = (8 : Int32) → post (-4 : Int32) σ))) ∧ (r3 = 0 → post (-2 : Int32) σ))))))))
set_option maxRecDepth 20000 in
theorem m_X9_event (w : bk_W) {x1 : Int32} {x2 : Int32} {x3 : Int32} {σ : bk_S} {post : Int32 → bk_S → Prop} : w_X9_event x1 x2 x3 σ post → bk_Mi lyM w yX9_event cX9_event 4 .int 2 42 [.ref (bk_r w 0), .int x1, .int x2, .int x3] σ post := by
  intro h0
  refine bk_mi (by decide) (Nat.le_of_ble_eq_true rfl) (fun X hX hret => ?_)
  revert h0
  unfold w_X9_event
  show _ → bk_At lyM w X 0 [(0, .ref (bk_r w 0)), (1, .int x1), (2, .int x2), (3, .int x3)] [] σ
  refine bk_iload_n hX 1 dX9_event_0 rfl ?_
  refine bk_callS_i hX [.int x1] [] yk_X9_isThree ys_X9_isThree lk_X9_151 rfl rfl (Nat.le_of_ble_eq_true rfl) ⟨Nat.le_of_ble_eq_true rfl, Nat.le_of_ble_eq_true rfl⟩ dX9_event_1 (m_X9_isThree w) (bk_pu (fun r1 => ?_))
  refine bk_if_eq hX 21 dX9_event_4 rfl ?_ ?_
  · refine bk_bipush hX bk_cb_m2 dX9_event_21 ?_
    exact fun z => hret _ _ _ _ dX9_event_23 rfl z
  · refine bk_iload_n hX 2 dX9_event_7 rfl ?_
    refine bk_callS_i hX [.int x2] [] yk_X9_isTwelve ys_X9_isTwelve lk_X9_157 rfl rfl (Nat.le_of_ble_eq_true rfl) ⟨Nat.le_of_ble_eq_true rfl, Nat.le_of_ble_eq_true rfl⟩ dX9_event_8 (m_X9_isTwelve w) (bk_pu (fun r2 => ?_))
    refine bk_if_eq hX 21 dX9_event_11 rfl ?_ ?_
    · refine bk_bipush hX bk_cb_m2 dX9_event_21 ?_
      exact fun z => hret _ _ _ _ dX9_event_23 rfl z
    · refine bk_iload_n hX 3 dX9_event_14 rfl ?_
      refine bk_callS_i hX [.int x3] [] yk_X9_isTwelve ys_X9_isTwelve lk_X9_157 rfl rfl (Nat.le_of_ble_eq_true rfl) ⟨Nat.le_of_ble_eq_true rfl, Nat.le_of_ble_eq_true rfl⟩ dX9_event_15 (m_X9_isTwelve w) (bk_pu (fun r3 => ?_))
      refine bk_if_ne hX 24 dX9_event_18 rfl ?_ ?_
      · refine bk_aload_n hX 0 dX9_event_24 rfl ?_
        refine bk_geti hX km_o rfl fl_X9_160 dX9_event_25 ?_
        refine bk_bipush hX bk_cb_8 dX9_event_28 ?_
        refine bk_icmp_ne hX 36 dX9_event_30 rfl ?_ ?_
        · refine bk_aload_n hX 0 dX9_event_36 rfl ?_
          refine bk_getr hX km_o rfl fl_X9_28 dX9_event_37 ?_
          refine bk_aload_n hX 0 dX9_event_40 rfl ?_
          refine bk_geti hX km_o rfl fl_X9_160 dX9_event_41 ?_
          refine bk_iload_n hX 1 dX9_event_44 rfl ?_
          refine bk_iastore hX km_10 dX9_event_45 (fun σ4 => ?_)
          refine bk_aload_n hX 0 dX9_event_46 rfl ?_
          refine bk_getr hX km_o rfl fl_X9_31 dX9_event_47 ?_
          refine bk_aload_n hX 0 dX9_event_50 rfl ?_
          refine bk_geti hX km_o rfl fl_X9_160 dX9_event_51 ?_
          refine bk_iload_n hX 2 dX9_event_54 rfl ?_
          refine bk_iastore hX km_11 dX9_event_55 (fun σ5 => ?_)
          refine bk_aload_n hX 0 dX9_event_56 rfl ?_
          refine bk_getr hX km_o rfl fl_X9_34 dX9_event_57 ?_
          refine bk_aload_n hX 0 dX9_event_60 rfl ?_
          refine bk_geti hX km_o rfl fl_X9_160 dX9_event_61 ?_
          refine bk_iload_n hX 3 dX9_event_64 rfl ?_
          refine bk_iastore hX km_12 dX9_event_65 (fun σ6 => ?_)
          refine bk_aload_n hX 0 dX9_event_66 rfl ?_
          refine bk_dup hX rfl dX9_event_67 ?_
          refine bk_geti hX km_o rfl fl_X9_160 dX9_event_68 ?_
          refine bk_iconst hX bk_ci_1 dX9_event_71 ?_
          refine bk_iadd hX dX9_event_72 ?_
          refine bk_putI hX km_o rfl fp_X9_160 dX9_event_73 (fun σ7 => ?_)
          refine bk_aload_n hX 0 dX9_event_76 rfl ?_
          refine bk_geti hX km_o rfl fl_X9_160 dX9_event_77 ?_
          exact fun z => hret _ _ _ _ dX9_event_80 rfl z
        · refine bk_bipush hX bk_cb_m4 dX9_event_33 ?_
          exact fun z => hret _ _ _ _ dX9_event_35 rfl z
      · refine bk_bipush hX bk_cb_m2 dX9_event_21 ?_
        exact fun z => hret _ _ _ _ dX9_event_23 rfl z

def w_X9_back (σ : bk_S) (post : Int32 → bk_S → Prop) : Prop :=
  (¬ (σ 0 8) = 0 → (bk_lt (α := bk_S) (bk_u σ 0 8 ((σ 0 8) - (1 : Int32))) fun σ1 =>
  post (σ1 0 8) σ1)) ∧ ((σ 0 8) = 0 → post (-3 : Int32) σ)
set_option maxRecDepth 20000 in
theorem m_X9_back (w : bk_W) {σ : bk_S} {post : Int32 → bk_S → Prop} : w_X9_back σ post → bk_Mi lyM w yX9_back cX9_back 1 .int 0 0 [.ref (bk_r w 0)] σ post := by
  intro h0
  refine bk_mi (by decide) (Nat.le_of_ble_eq_true rfl) (fun X hX hret => ?_)
  revert h0
  unfold w_X9_back
  show _ → bk_At lyM w X 0 [(0, .ref (bk_r w 0))] [] σ
  refine bk_aload_n hX 0 dX9_back_0 rfl ?_
  refine bk_geti hX km_o rfl fl_X9_160 dX9_back_1 ?_
  refine bk_if_ne hX 10 dX9_back_4 rfl ?_ ?_
  · refine bk_aload_n hX 0 dX9_back_10 rfl ?_
    refine bk_dup hX rfl dX9_back_11 ?_
    refine bk_geti hX km_o rfl fl_X9_160 dX9_back_12 ?_
    refine bk_iconst hX bk_ci_1 dX9_back_15 ?_
    refine bk_isub hX dX9_back_16 ?_
    refine bk_putI hX km_o rfl fp_X9_160 dX9_back_17 (fun σ1 => ?_)
    refine bk_aload_n hX 0 dX9_back_20 rfl ?_
    refine bk_geti hX km_o rfl fl_X9_160 dX9_back_21 ?_
    exact fun z => hret _ _ _ _ dX9_back_24 rfl z
  · refine bk_bipush hX bk_cb_m3 dX9_back_7 ?_
    exact fun z => hret _ _ _ _ dX9_back_9 rfl z

def w_X9_isSheet (x0 : Int32) (post : Int32 → Prop) : Prop :=
  w_X9_in x0 (0 : Int32) (3 : Int32) (fun r1 =>
    narrow .boolean (.int r1) = .int r1 ∧ post r1)
set_option maxRecDepth 20000 in
theorem m_X9_isSheet (w : bk_W) {x0 : Int32} {σ : bk_S} {post : Int32 → Prop} : w_X9_isSheet x0 post → bk_Mi lyM w yX9_isSheet cX9_isSheet 1 .boolean 1 22 [.int x0] σ (fun r σ1 => post r ∧ σ1 = σ) := by
  intro h0
  refine bk_mi (by decide) (Nat.le_of_ble_eq_true rfl) (fun X hX hret => ?_)
  revert h0
  unfold w_X9_isSheet
  show _ → bk_At lyM w X 0 [(0, .int x0)] [] σ
  refine bk_iload_n hX 0 dX9_isSheet_0 rfl ?_
  refine bk_iconst hX bk_ci_0 dX9_isSheet_1 ?_
  refine bk_iconst hX bk_ci_3 dX9_isSheet_2 ?_
  refine bk_callS_i hX [.int x0, .int (0 : Int32), .int (3 : Int32)] [] yk_X9_in ys_X9_in lk_X9_109 rfl rfl (Nat.le_of_ble_eq_true rfl) ⟨Nat.le_of_ble_eq_true rfl, Nat.le_of_ble_eq_true rfl⟩ dX9_isSheet_3 (m_X9_in w) (bk_pu (fun r1 => ?_))
  exact fun z => hret _ _ _ _ dX9_isSheet_6 z.1 ⟨z.2, rfl⟩

def w_X9_meets (x1 : Int32) (σ : bk_S) (post : Int32 → bk_S → Prop) : Prop :=
  bk_lt (α := bk_S) (bk_u σ 0 56 x1) fun σ1 =>
  post ((-10 : Int32) - x1) σ1
set_option maxRecDepth 20000 in
theorem m_X9_meets (w : bk_W) {x1 : Int32} {σ : bk_S} {post : Int32 → bk_S → Prop} : w_X9_meets x1 σ post → bk_Mi lyM w yX9_meets cX9_meets 2 .int 0 0 [.ref (bk_r w 0), .int x1] σ post := by
  intro h0
  refine bk_mi (by decide) (Nat.le_of_ble_eq_true rfl) (fun X hX hret => ?_)
  revert h0
  unfold w_X9_meets
  show _ → bk_At lyM w X 0 [(0, .ref (bk_r w 0)), (1, .int x1)] [] σ
  refine bk_aload_n hX 0 dX9_meets_0 rfl ?_
  refine bk_iload_n hX 1 dX9_meets_1 rfl ?_
  refine bk_putI hX km_o rfl fp_X9_374 dX9_meets_2 (fun σ1 => ?_)
  refine bk_bipush hX bk_cb_m10 dX9_meets_5 ?_
  refine bk_iload_n hX 1 dX9_meets_7 rfl ?_
  refine bk_isub hX dX9_meets_8 ?_
  exact fun z => hret _ _ _ _ dX9_meets_9 rfl z

def w_X9_read (x1 : Int32) (σ : bk_S) (post : Int32 → bk_S → Prop) : Prop :=
  w_X9_isSheet x1 (fun r1 =>
    (¬ r1 = 0 → (vp_in x1 4 ∧ (¬ (σ 52 (Int32.toNatClampNeg x1)) = 0 → (bk_lt (α := Int32) (0 : Int32) fun v2 =>
    bk_lt (α := Int32) ((60 : Int32) * x1) fun v3 =>
    bk_loop (α := Int32 × bk_S) (fun K4 a5 =>
      vp_in x1 4 ∧ ((a5.2 54 (Int32.toNatClampNeg x1)) ≤ (((3 : Int32) * a5.1) + (2 : Int32)) → post a5.1 a5.2) ∧ (¬ (a5.2 54 (Int32.toNatClampNeg x1)) ≤ (((3 : Int32) * a5.1) + (2 : Int32)) → (vp_in (v3 + ((3 : Int32) * a5.1)) 240 ∧ vp_in ((v3 + ((3 : Int32) * a5.1)) + (1 : Int32)) 240 ∧ vp_in ((v3 + ((3 : Int32) * a5.1)) + (2 : Int32)) 240 ∧ w_X9_event (a5.2 55 (Int32.toNatClampNeg (v3 + ((3 : Int32) * a5.1)))) (a5.2 55 (Int32.toNatClampNeg ((v3 + ((3 : Int32) * a5.1)) + (1 : Int32)))) (a5.2 55 (Int32.toNatClampNeg ((v3 + ((3 : Int32) * a5.1)) + (2 : Int32)))) a5.2 (fun r6 σ7 =>
        (r6 ≤ 0 → post a5.1 σ7) ∧ (¬ r6 ≤ 0 → (bk_lt (α := Int32) (a5.1 + (1 : Int32)) fun v8 =>
        K4 (v8, σ7))))))) (v2, σ))) ∧ ((σ 52 (Int32.toNatClampNeg x1)) = 0 → (w_X9_meets (1 : Int32) σ (fun r9 σ10 =>
      post r9 σ10))))) ∧ (r1 = 0 → post (-2 : Int32) σ))
set_option maxRecDepth 20000 in
theorem m_X9_read (w : bk_W) {x1 : Int32} {σ : bk_S} {post : Int32 → bk_S → Prop} : w_X9_read x1 σ post → bk_Mi lyM w yX9_read cX9_read 4 .int 3 65 [.ref (bk_r w 0), .int x1] σ post := by
  intro h0
  refine bk_mi (by decide) (Nat.le_of_ble_eq_true rfl) (fun X hX hret => ?_)
  revert h0
  unfold w_X9_read
  show _ → bk_At lyM w X 0 [(0, .ref (bk_r w 0)), (1, .int x1)] [] σ
  refine bk_iload_n hX 1 dX9_read_0 rfl ?_
  refine bk_callS_i hX [.int x1] [] yk_X9_isSheet ys_X9_isSheet lk_X9_163 rfl rfl (Nat.le_of_ble_eq_true rfl) ⟨Nat.le_of_ble_eq_true rfl, Nat.le_of_ble_eq_true rfl⟩ dX9_read_1 (m_X9_isSheet w) (bk_pu (fun r1 => ?_))
  refine bk_if_ne hX 10 dX9_read_4 rfl ?_ ?_
  · refine bk_aload_n hX 0 dX9_read_10 rfl ?_
    refine bk_getr hX km_o rfl fl_X9_91 dX9_read_11 ?_
    refine bk_iload_n hX 1 dX9_read_14 rfl ?_
    refine bk_baload hX km_52 dX9_read_15 ?_
    refine bk_if_ne hX 25 dX9_read_16 rfl ?_ ?_
    · refine bk_iconst hX bk_ci_0 dX9_read_25 ?_
      refine bk_istore_n hX (fun v2 => [(2, .int v2), (0, .ref (bk_r w 0)), (1, .int x1)]) dX9_read_26 (Nat.le_of_ble_eq_true rfl) (fun _ => rfl) (fun v2 => ?_)
      refine bk_bipush hX bk_cb_60 dX9_read_27 ?_
      refine bk_iload_n hX 2 dX9_read_29 rfl ?_
      refine bk_imul hX dX9_read_30 ?_
      refine bk_istore_n hX (fun v3 => [(3, .int v3), (2, .int v2), (0, .ref (bk_r w 0)), (1, .int x1)]) dX9_read_31 (Nat.le_of_ble_eq_true rfl) (fun _ => rfl) (fun v3 => ?_)
      refine bk_pick [0, 1, 2, 3] rfl (bk_r_loop (α := Int32 × bk_S) (J := fun a => bk_At lyM w X 32 [(3, .int v3), (2, .int a.1), (0, .ref (bk_r w 0)), (1, .int x1)] [] a.2) (v2, σ) (fun K4 hK4 a5 => ?_))
      refine bk_iconst hX bk_ci_3 dX9_read_32 ?_
      refine bk_iload_n hX 1 dX9_read_33 rfl ?_
      refine bk_imul hX dX9_read_34 ?_
      refine bk_iconst hX bk_ci_2 dX9_read_35 ?_
      refine bk_iadd hX dX9_read_36 ?_
      refine bk_aload_n hX 2 dX9_read_37 rfl ?_
      refine bk_getr hX km_o rfl fl_X9_98 dX9_read_38 ?_
      refine bk_iload_n hX 3 dX9_read_41 rfl ?_
      refine bk_iaload hX km_54 dX9_read_42 ?_
      refine bk_icmp_ge hX 93 dX9_read_43 rfl ?_ ?_
      · refine bk_iload_n hX 1 dX9_read_93 rfl ?_
        exact fun z => hret _ _ _ _ dX9_read_94 rfl z
      · refine bk_aload_n hX 2 dX9_read_46 rfl ?_
        refine bk_aload_n hX 2 dX9_read_47 rfl ?_
        refine bk_getr hX km_o rfl fl_X9_101 dX9_read_48 ?_
        refine bk_iload_n hX 0 dX9_read_51 rfl ?_
        refine bk_iconst hX bk_ci_3 dX9_read_52 ?_
        refine bk_iload_n hX 1 dX9_read_53 rfl ?_
        refine bk_imul hX dX9_read_54 ?_
        refine bk_iadd hX dX9_read_55 ?_
        refine bk_iaload hX km_55 dX9_read_56 ?_
        refine bk_aload_n hX 2 dX9_read_57 rfl ?_
        refine bk_getr hX km_o rfl fl_X9_101 dX9_read_58 ?_
        refine bk_iload_n hX 0 dX9_read_61 rfl ?_
        refine bk_iconst hX bk_ci_3 dX9_read_62 ?_
        refine bk_iload_n hX 1 dX9_read_63 rfl ?_
        refine bk_imul hX dX9_read_64 ?_
        refine bk_iadd hX dX9_read_65 ?_
        refine bk_iconst hX bk_ci_1 dX9_read_66 ?_
        refine bk_iadd hX dX9_read_67 ?_
        refine bk_iaload hX km_55 dX9_read_68 ?_
        refine bk_aload_n hX 2 dX9_read_69 rfl ?_
        refine bk_getr hX km_o rfl fl_X9_101 dX9_read_70 ?_
        refine bk_iload_n hX 0 dX9_read_73 rfl ?_
        refine bk_iconst hX bk_ci_3 dX9_read_74 ?_
        refine bk_iload_n hX 1 dX9_read_75 rfl ?_
        refine bk_imul hX dX9_read_76 ?_
        refine bk_iadd hX dX9_read_77 ?_
        refine bk_iconst hX bk_ci_2 dX9_read_78 ?_
        refine bk_iadd hX dX9_read_79 ?_
        refine bk_iaload hX km_55 dX9_read_80 ?_
        refine bk_callV_i hX [.int (a5.2 55 (Int32.toNatClampNeg (v3 + ((3 : Int32) * a5.1)))), .int (a5.2 55 (Int32.toNatClampNeg ((v3 + ((3 : Int32) * a5.1)) + (1 : Int32)))), .int (a5.2 55 (Int32.toNatClampNeg ((v3 + ((3 : Int32) * a5.1)) + (2 : Int32))))] [] yk_X9_event yv_X9_event lk_X9_169 rfl rfl km_o rfl rfl (Nat.le_of_ble_eq_true rfl) ⟨Nat.le_of_ble_eq_true rfl, Nat.le_of_ble_eq_true rfl⟩ dX9_read_81 (m_X9_event w) (fun r6 σ7 => ?_)
        refine bk_if_le hX 93 dX9_read_84 rfl ?_ ?_
        · refine bk_iload_n hX 1 dX9_read_93 rfl ?_
          exact fun z => hret _ _ _ _ dX9_read_94 rfl z
        · refine bk_iinc hX 1 (fun v8 => [(2, .int v8), (3, .int v3), (0, .ref (bk_r w 0)), (1, .int x1)]) dX9_read_87 rfl bk_ci_1 (Nat.le_of_ble_eq_true rfl) (fun _ => rfl) (fun v8 => ?_)
          refine bk_goto hX 32 dX9_read_90 rfl ?_
          exact bk_pick [1, 0, 2, 3] rfl (hK4 (v8, σ7))
    · refine bk_aload_n hX 0 dX9_read_19 rfl ?_
      refine bk_iconst hX bk_ci_1 dX9_read_20 ?_
      refine bk_callV_i hX [.int (1 : Int32)] [] yk_X9_meets yv_X9_meets lk_X9_166 rfl rfl km_o rfl rfl (Nat.le_of_ble_eq_true rfl) ⟨Nat.le_of_ble_eq_true rfl, Nat.le_of_ble_eq_true rfl⟩ dX9_read_21 (m_X9_meets w) (fun r9 σ10 => ?_)
      exact fun z => hret _ _ _ _ dX9_read_24 rfl z
  · refine bk_bipush hX bk_cb_m2 dX9_read_7 ?_
    exact fun z => hret _ _ _ _ dX9_read_9 rfl z

def w_X9_asTold (σ : bk_S) (post : bk_S → Prop) : Prop :=
  w_X9_reads σ (fun σ1 =>
    bk_lt (α := bk_S) (bk_u σ1 0 12 (σ1 0 4)) fun σ2 =>
    bk_lt (α := Int32) (0 : Int32) fun v3 =>
    bk_jn (α := bk_S) (fun a5 =>
      bk_lt (α := bk_S) (bk_u a5 0 16 (a5 0 2)) fun σ12 =>
      bk_lt (α := bk_S) (bk_u σ12 0 17 (-1 : Int32)) fun σ13 =>
      bk_lt (α := bk_S) (bk_u σ13 0 18 (-1 : Int32)) fun σ14 =>
      bk_lt (α := bk_S) (bk_u σ14 0 19 (0 : Int32)) fun σ15 =>
      post σ15) (fun K4 =>
      bk_loop (α := Int32 × bk_S) (fun K6 a7 =>
        ((a7.2 0 4) ≤ a7.1 → K4 a7.2) ∧ (¬ (a7.2 0 4) ≤ a7.1 → (vp_in a7.1 9 ∧ vp_in a7.1 8 ∧ bk_lt (α := bk_S) (bk_u a7.2 14 (Int32.toNatClampNeg a7.1) (a7.2 6 (Int32.toNatClampNeg a7.1))) fun σ8 =>
        vp_in a7.1 9 ∧ vp_in a7.1 8 ∧ bk_lt (α := bk_S) (bk_u σ8 15 (Int32.toNatClampNeg a7.1) (σ8 7 (Int32.toNatClampNeg a7.1))) fun σ9 =>
        vp_in a7.1 9 ∧ vp_in a7.1 8 ∧ bk_lt (α := bk_S) (bk_u σ9 16 (Int32.toNatClampNeg a7.1) (σ9 8 (Int32.toNatClampNeg a7.1))) fun σ10 =>
        bk_lt (α := Int32) (a7.1 + (1 : Int32)) fun v11 =>
        K6 (v11, σ10)))) (v3, σ2)))
set_option maxRecDepth 20000 in
theorem m_X9_asTold (w : bk_W) {σ : bk_S} {post : bk_S → Prop} : w_X9_asTold σ post → bk_Mv lyM w yX9_asTold cX9_asTold 2 5 115 [.ref (bk_r w 0)] σ post := by
  intro h0
  refine bk_mv (by decide) (Nat.le_of_ble_eq_true rfl) (fun X hX hret => ?_)
  revert h0
  unfold w_X9_asTold
  show _ → bk_At lyM w X 0 [(0, .ref (bk_r w 0))] [] σ
  refine bk_aload_n hX 0 dX9_asTold_0 rfl ?_
  refine bk_callV_v hX [] [] yk_X9_reads yv_X9_reads lk_X9_142 rfl rfl km_o rfl rfl (Nat.le_of_ble_eq_true rfl) ⟨Nat.le_of_ble_eq_true rfl, Nat.le_of_ble_eq_true rfl⟩ dX9_asTold_1 (m_X9_reads w) (fun σ1 => ?_)
  refine bk_aload_n hX 0 dX9_asTold_4 rfl ?_
  refine bk_aload_n hX 0 dX9_asTold_5 rfl ?_
  refine bk_geti hX km_o rfl fl_X9_125 dX9_asTold_6 ?_
  refine bk_putI hX km_o rfl fp_X9_173 dX9_asTold_9 (fun σ2 => ?_)
  refine bk_iconst hX bk_ci_0 dX9_asTold_12 ?_
  refine bk_istore_n hX (fun v3 => [(1, .int v3), (0, .ref (bk_r w 0))]) dX9_asTold_13 (Nat.le_of_ble_eq_true rfl) (fun _ => rfl) (fun v3 => ?_)
  refine bk_r_jn (α := bk_S) (J := fun a => bk_At lyM w X 64 [(0, .ref (bk_r w 0))] [] a) (fun a5 => ?_) (fun K4 hK4 => ?_)
  · refine bk_aload_n hX 0 dX9_asTold_64 rfl ?_
    refine bk_aload_n hX 0 dX9_asTold_65 rfl ?_
    refine bk_geti hX km_o rfl fl_X9_117 dX9_asTold_66 ?_
    refine bk_putI hX km_o rfl fp_X9_176 dX9_asTold_69 (fun σ12 => ?_)
    refine bk_aload_n hX 0 dX9_asTold_72 rfl ?_
    refine bk_iconst hX bk_ci_m1 dX9_asTold_73 ?_
    refine bk_putI hX km_o rfl fp_X9_179 dX9_asTold_74 (fun σ13 => ?_)
    refine bk_aload_n hX 0 dX9_asTold_77 rfl ?_
    refine bk_iconst hX bk_ci_m1 dX9_asTold_78 ?_
    refine bk_putI hX km_o rfl fp_X9_182 dX9_asTold_79 (fun σ14 => ?_)
    refine bk_aload_n hX 0 dX9_asTold_82 rfl ?_
    refine bk_iconst hX bk_ci_0 dX9_asTold_83 ?_
    refine bk_putI hX km_o rfl fp_X9_185 dX9_asTold_84 (fun σ15 => ?_)
    exact fun z => hret _ _ _ dX9_asTold_87 z
  · refine bk_pick [0, 1] rfl (bk_r_loop (α := Int32 × bk_S) (J := fun a => bk_At lyM w X 14 [(1, .int a.1), (0, .ref (bk_r w 0))] [] a.2) (v3, σ2) (fun K6 hK6 a7 => ?_))
    refine bk_iload_n hX 0 dX9_asTold_14 rfl ?_
    refine bk_aload_n hX 1 dX9_asTold_15 rfl ?_
    refine bk_geti hX km_o rfl fl_X9_125 dX9_asTold_16 ?_
    refine bk_icmp_ge hX 64 dX9_asTold_19 rfl ?_ ?_
    · exact bk_pick [1] rfl (hK4 a7.2)
    · refine bk_aload_n hX 1 dX9_asTold_22 rfl ?_
      refine bk_getr hX km_o rfl fl_X9_37 dX9_asTold_23 ?_
      refine bk_iload_n hX 0 dX9_asTold_26 rfl ?_
      refine bk_aload_n hX 1 dX9_asTold_27 rfl ?_
      refine bk_getr hX km_o rfl fl_X9_19 dX9_asTold_28 ?_
      refine bk_iload_n hX 0 dX9_asTold_31 rfl ?_
      refine bk_iaload hX km_6 dX9_asTold_32 ?_
      refine bk_iastore hX km_14 dX9_asTold_33 (fun σ8 => ?_)
      refine bk_aload_n hX 1 dX9_asTold_34 rfl ?_
      refine bk_getr hX km_o rfl fl_X9_40 dX9_asTold_35 ?_
      refine bk_iload_n hX 0 dX9_asTold_38 rfl ?_
      refine bk_aload_n hX 1 dX9_asTold_39 rfl ?_
      refine bk_getr hX km_o rfl fl_X9_22 dX9_asTold_40 ?_
      refine bk_iload_n hX 0 dX9_asTold_43 rfl ?_
      refine bk_iaload hX km_7 dX9_asTold_44 ?_
      refine bk_iastore hX km_15 dX9_asTold_45 (fun σ9 => ?_)
      refine bk_aload_n hX 1 dX9_asTold_46 rfl ?_
      refine bk_getr hX km_o rfl fl_X9_43 dX9_asTold_47 ?_
      refine bk_iload_n hX 0 dX9_asTold_50 rfl ?_
      refine bk_aload_n hX 1 dX9_asTold_51 rfl ?_
      refine bk_getr hX km_o rfl fl_X9_25 dX9_asTold_52 ?_
      refine bk_iload_n hX 0 dX9_asTold_55 rfl ?_
      refine bk_iaload hX km_8 dX9_asTold_56 ?_
      refine bk_iastore hX km_16 dX9_asTold_57 (fun σ10 => ?_)
      refine bk_iinc hX 0 (fun v11 => [(1, .int v11), (0, .ref (bk_r w 0))]) dX9_asTold_58 rfl bk_ci_1 (Nat.le_of_ble_eq_true rfl) (fun _ => rfl) (fun v11 => ?_)
      refine bk_goto hX 14 dX9_asTold_61 rfl ?_
      exact bk_pick [0, 1] rfl (hK6 (v11, σ10))

def w_X9_befalls (x1 : Int32) (σ : bk_S) (post : bk_S → Prop) : Prop :=
  bk_lt (α := bk_S) (bk_u σ 0 20 (0 : Int32)) fun σ1 =>
  bk_lt (α := bk_S) (bk_u σ1 0 21 (0 : Int32)) fun σ2 =>
  bk_lt (α := Int32) (if (σ2 0 17) = x1 then ((1 : Int32) <<< ((σ2 0 18) &&& 31)) else (0 : Int32)) fun a4 =>
  bk_lt (α := bk_S) (bk_u σ2 0 22 a4) fun σ5 =>
  bk_lt (α := Int32) (0 : Int32) fun v6 =>
  bk_loop (α := Int32 × bk_S) (fun K7 a8 =>
    ((a8.2 0 8) ≤ a8.1 → post a8.2) ∧ (¬ (a8.2 0 8) ≤ a8.1 → (vp_in a8.1 8 ∧ (¬ (a8.2 11 (Int32.toNatClampNeg a8.1)) = x1 → (bk_lt (α := Int32) (a8.1 + (1 : Int32)) fun v9 =>
    K7 (v9, a8.2))) ∧ ((a8.2 11 (Int32.toNatClampNeg a8.1)) = x1 → (w_X9_isIn (a8.2 0 19) a8.1 (fun r10 =>
      (¬ r10 = 0 → (bk_lt (α := Int32) (a8.1 + (1 : Int32)) fun v11 =>
      K7 (v11, a8.2))) ∧ (r10 = 0 → (vp_in a8.1 8 ∧ bk_lt (α := Int32) (if (a8.2 10 (Int32.toNatClampNeg a8.1)) = 0 then (1 : Int32) else (a8.2 0 20)) fun a13 =>
      bk_lt (α := bk_S) (bk_u a8.2 0 20 a13) fun σ14 =>
      vp_in a8.1 8 ∧ bk_lt (α := Int32) (if (σ14 10 (Int32.toNatClampNeg a8.1)) = (1 : Int32) then (1 : Int32) else (σ14 0 21)) fun a16 =>
      bk_lt (α := bk_S) (bk_u σ14 0 21 a16) fun σ17 =>
      vp_in a8.1 8 ∧ bk_jn (α := Int32) (fun a19 =>
        bk_lt (α := bk_S) (bk_u σ17 0 22 ((σ17 0 22) ||| a19)) fun σ20 =>
        bk_lt (α := Int32) (a8.1 + (1 : Int32)) fun v21 =>
        K7 (v21, σ20)) (fun K18 =>
        (¬ (σ17 10 (Int32.toNatClampNeg a8.1)) = (2 : Int32) → K18 (0 : Int32)) ∧ ((σ17 10 (Int32.toNatClampNeg a8.1)) = (2 : Int32) → (vp_in a8.1 8 ∧ K18 ((1 : Int32) <<< ((σ17 12 (Int32.toNatClampNeg a8.1)) &&& 31))))))))))))) (v6, σ5)
set_option maxRecDepth 20000 in
theorem m_X9_befalls (w : bk_W) {x1 : Int32} {σ : bk_S} {post : bk_S → Prop} : w_X9_befalls x1 σ post → bk_Mv lyM w yX9_befalls cX9_befalls 3 1 21 [.ref (bk_r w 0), .int x1] σ post := by
  intro h0
  refine bk_mv (by decide) (Nat.le_of_ble_eq_true rfl) (fun X hX hret => ?_)
  revert h0
  unfold w_X9_befalls
  show _ → bk_At lyM w X 0 [(0, .ref (bk_r w 0)), (1, .int x1)] [] σ
  refine bk_aload_n hX 0 dX9_befalls_0 rfl ?_
  refine bk_iconst hX bk_ci_0 dX9_befalls_1 ?_
  refine bk_putI hX km_o rfl fp_X9_188 dX9_befalls_2 (fun σ1 => ?_)
  refine bk_aload_n hX 0 dX9_befalls_5 rfl ?_
  refine bk_iconst hX bk_ci_0 dX9_befalls_6 ?_
  refine bk_putI hX km_o rfl fp_X9_191 dX9_befalls_7 (fun σ2 => ?_)
  refine bk_aload_n hX 0 dX9_befalls_10 rfl ?_
  refine bk_aload_n hX 0 dX9_befalls_11 rfl ?_
  refine bk_geti hX km_o rfl fl_X9_179 dX9_befalls_12 ?_
  refine bk_iload_n hX 1 dX9_befalls_15 rfl ?_
  refine bk_r_if (α := Int32) (F := fun K3 => (¬ (σ2 0 17) = x1 → K3 (0 : Int32)) ∧ ((σ2 0 17) = x1 → K3 ((1 : Int32) <<< ((σ2 0 18) &&& 31)))) (fun K3 z => ⟨fun h0 => (bk_neg (K := K3) h0 z), fun h0 => (bk_pos (K := K3) h0 z)⟩) (J := fun a => bk_At lyM w X 29 [(0, .ref (bk_r w 0)), (1, .int x1)] [.int a, .ref (bk_r w 0)] σ2) (fun a4 => ?_) (fun K3 hK3 => ?_)
  · refine bk_putI hX km_o rfl fp_X9_194 dX9_befalls_29 (fun σ5 => ?_)
    refine bk_iconst hX bk_ci_0 dX9_befalls_32 ?_
    refine bk_istore_n hX (fun v6 => [(2, .int v6), (0, .ref (bk_r w 0)), (1, .int x1)]) dX9_befalls_33 (Nat.le_of_ble_eq_true rfl) (fun _ => rfl) (fun v6 => ?_)
    refine bk_pick [0, 1, 2] rfl (bk_r_loop (α := Int32 × bk_S) (J := fun a => bk_At lyM w X 34 [(2, .int a.1), (0, .ref (bk_r w 0)), (1, .int x1)] [] a.2) (v6, σ5) (fun K7 hK7 a8 => ?_))
    refine bk_iload_n hX 0 dX9_befalls_34 rfl ?_
    refine bk_aload_n hX 1 dX9_befalls_35 rfl ?_
    refine bk_geti hX km_o rfl fl_X9_160 dX9_befalls_36 ?_
    refine bk_icmp_ge hX 143 dX9_befalls_39 rfl ?_ ?_
    · exact fun z => hret _ _ _ dX9_befalls_143 z
    · refine bk_aload_n hX 1 dX9_befalls_42 rfl ?_
      refine bk_getr hX km_o rfl fl_X9_31 dX9_befalls_43 ?_
      refine bk_iload_n hX 0 dX9_befalls_46 rfl ?_
      refine bk_iaload hX km_11 dX9_befalls_47 ?_
      refine bk_iload_n hX 2 dX9_befalls_48 rfl ?_
      refine bk_icmp_ne hX 137 dX9_befalls_49 rfl ?_ ?_
      · refine bk_iinc hX 0 (fun v9 => [(2, .int v9), (0, .ref (bk_r w 0)), (1, .int x1)]) dX9_befalls_137 rfl bk_ci_1 (Nat.le_of_ble_eq_true rfl) (fun _ => rfl) (fun v9 => ?_)
        refine bk_goto hX 34 dX9_befalls_140 rfl ?_
        exact bk_pick [0, 1, 2] rfl (hK7 (v9, a8.2))
      · refine bk_aload_n hX 1 dX9_befalls_52 rfl ?_
        refine bk_geti hX km_o rfl fl_X9_185 dX9_befalls_53 ?_
        refine bk_iload_n hX 0 dX9_befalls_56 rfl ?_
        refine bk_callS_i hX [.int (a8.2 0 19), .int a8.1] [] yk_X9_isIn ys_X9_isIn lk_X9_197 rfl rfl (Nat.le_of_ble_eq_true rfl) ⟨Nat.le_of_ble_eq_true rfl, Nat.le_of_ble_eq_true rfl⟩ dX9_befalls_57 (m_X9_isIn w) (bk_pu (fun r10 => ?_))
        refine bk_if_ne hX 137 dX9_befalls_60 rfl ?_ ?_
        · refine bk_iinc hX 0 (fun v11 => [(2, .int v11), (0, .ref (bk_r w 0)), (1, .int x1)]) dX9_befalls_137 rfl bk_ci_1 (Nat.le_of_ble_eq_true rfl) (fun _ => rfl) (fun v11 => ?_)
          refine bk_goto hX 34 dX9_befalls_140 rfl ?_
          exact bk_pick [0, 1, 2] rfl (hK7 (v11, a8.2))
        · refine bk_aload_n hX 1 dX9_befalls_63 rfl ?_
          refine bk_aload_n hX 1 dX9_befalls_64 rfl ?_
          refine bk_getr hX km_o rfl fl_X9_28 dX9_befalls_65 ?_
          refine bk_iload_n hX 0 dX9_befalls_68 rfl ?_
          refine bk_iaload hX km_10 dX9_befalls_69 ?_
          refine bk_r_if (α := Int32) (F := fun K12 => (¬ (a8.2 10 (Int32.toNatClampNeg a8.1)) = 0 → K12 (a8.2 0 20)) ∧ ((a8.2 10 (Int32.toNatClampNeg a8.1)) = 0 → K12 (1 : Int32))) (fun K12 z => ⟨fun h0 => (bk_neg (K := K12) h0 z), fun h0 => (bk_pos (K := K12) h0 z)⟩) (J := fun a => bk_At lyM w X 81 [(2, .int a8.1), (0, .ref (bk_r w 0)), (1, .int x1)] [.int a, .ref (bk_r w 0)] a8.2) (fun a13 => ?_) (fun K12 hK12 => ?_)
          · refine bk_putI hX km_o rfl fp_X9_188 dX9_befalls_81 (fun σ14 => ?_)
            refine bk_aload_n hX 1 dX9_befalls_84 rfl ?_
            refine bk_aload_n hX 1 dX9_befalls_85 rfl ?_
            refine bk_getr hX km_o rfl fl_X9_28 dX9_befalls_86 ?_
            refine bk_iload_n hX 0 dX9_befalls_89 rfl ?_
            refine bk_iaload hX km_10 dX9_befalls_90 ?_
            refine bk_iconst hX bk_ci_1 dX9_befalls_91 ?_
            refine bk_r_if (α := Int32) (F := fun K15 => (¬ (σ14 10 (Int32.toNatClampNeg a8.1)) = (1 : Int32) → K15 (σ14 0 21)) ∧ ((σ14 10 (Int32.toNatClampNeg a8.1)) = (1 : Int32) → K15 (1 : Int32))) (fun K15 z => ⟨fun h0 => (bk_neg (K := K15) h0 z), fun h0 => (bk_pos (K := K15) h0 z)⟩) (J := fun a => bk_At lyM w X 103 [(2, .int a8.1), (0, .ref (bk_r w 0)), (1, .int x1)] [.int a, .ref (bk_r w 0)] σ14) (fun a16 => ?_) (fun K15 hK15 => ?_)
            · refine bk_putI hX km_o rfl fp_X9_191 dX9_befalls_103 (fun σ17 => ?_)
              refine bk_aload_n hX 1 dX9_befalls_106 rfl ?_
              refine bk_dup hX rfl dX9_befalls_107 ?_
              refine bk_geti hX km_o rfl fl_X9_194 dX9_befalls_108 ?_
              refine bk_aload_n hX 1 dX9_befalls_111 rfl ?_
              refine bk_getr hX km_o rfl fl_X9_28 dX9_befalls_112 ?_
              refine bk_iload_n hX 0 dX9_befalls_115 rfl ?_
              refine bk_iaload hX km_10 dX9_befalls_116 ?_
              refine bk_iconst hX bk_ci_2 dX9_befalls_117 ?_
              refine bk_r_jn (α := Int32) (J := fun a => bk_At lyM w X 133 [(2, .int a8.1), (0, .ref (bk_r w 0)), (1, .int x1)] [.int a, .int (σ17 0 22), .ref (bk_r w 0)] σ17) (fun a19 => ?_) (fun K18 hK18 => ?_)
              · refine bk_ior hX dX9_befalls_133 ?_
                refine bk_putI hX km_o rfl fp_X9_194 dX9_befalls_134 (fun σ20 => ?_)
                refine bk_iinc hX 0 (fun v21 => [(2, .int v21), (0, .ref (bk_r w 0)), (1, .int x1)]) dX9_befalls_137 rfl bk_ci_1 (Nat.le_of_ble_eq_true rfl) (fun _ => rfl) (fun v21 => ?_)
                refine bk_goto hX 34 dX9_befalls_140 rfl ?_
                exact bk_pick [0, 1, 2] rfl (hK7 (v21, σ20))
              · refine bk_icmp_ne hX 132 dX9_befalls_118 rfl ?_ ?_
                · refine bk_iconst hX bk_ci_0 dX9_befalls_132 ?_
                  exact bk_pick [0, 1, 2] rfl (hK18 (0 : Int32))
                · refine bk_iconst hX bk_ci_1 dX9_befalls_121 ?_
                  refine bk_aload_n hX 1 dX9_befalls_122 rfl ?_
                  refine bk_getr hX km_o rfl fl_X9_34 dX9_befalls_123 ?_
                  refine bk_iload_n hX 0 dX9_befalls_126 rfl ?_
                  refine bk_iaload hX km_12 dX9_befalls_127 ?_
                  refine bk_ishl hX dX9_befalls_128 ?_
                  refine bk_goto hX 133 dX9_befalls_129 rfl ?_
                  exact bk_pick [0, 1, 2] rfl (hK18 ((1 : Int32) <<< ((σ17 12 (Int32.toNatClampNeg a8.1)) &&& 31)))
            · refine bk_icmp_ne hX 99 dX9_befalls_92 rfl ?_ ?_
              · refine bk_aload_n hX 1 dX9_befalls_99 rfl ?_
                refine bk_geti hX km_o rfl fl_X9_191 dX9_befalls_100 ?_
                exact bk_pick [0, 1, 2] rfl (hK15 (σ14 0 21))
              · refine bk_iconst hX bk_ci_1 dX9_befalls_95 ?_
                refine bk_goto hX 103 dX9_befalls_96 rfl ?_
                exact bk_pick [0, 1, 2] rfl (hK15 (1 : Int32))
          · refine bk_if_ne hX 77 dX9_befalls_70 rfl ?_ ?_
            · refine bk_aload_n hX 1 dX9_befalls_77 rfl ?_
              refine bk_geti hX km_o rfl fl_X9_188 dX9_befalls_78 ?_
              exact bk_pick [0, 1, 2] rfl (hK12 (a8.2 0 20))
            · refine bk_iconst hX bk_ci_1 dX9_befalls_73 ?_
              refine bk_goto hX 81 dX9_befalls_74 rfl ?_
              exact bk_pick [0, 1, 2] rfl (hK12 (1 : Int32))
  · refine bk_icmp_ne hX 28 dX9_befalls_16 rfl ?_ ?_
    · refine bk_iconst hX bk_ci_0 dX9_befalls_28 ?_
      exact bk_pick [0, 1] rfl (hK3 (0 : Int32))
    · refine bk_iconst hX bk_ci_1 dX9_befalls_19 ?_
      refine bk_aload_n hX 0 dX9_befalls_20 rfl ?_
      refine bk_geti hX km_o rfl fl_X9_182 dX9_befalls_21 ?_
      refine bk_ishl hX dX9_befalls_24 ?_
      refine bk_goto hX 29 dX9_befalls_25 rfl ?_
      exact bk_pick [0, 1] rfl (hK3 ((1 : Int32) <<< ((σ2 0 18) &&& 31)))

def w_X9_isOpen (x1 : Int32) (σ : bk_S) (post : Int32 → Prop) : Prop :=
  vp_in x1 8 ∧ (¬ (σ 36 (Int32.toNatClampNeg x1)) = (-1 : Int32) → post (0 : Int32)) ∧ ((σ 36 (Int32.toNatClampNeg x1)) = (-1 : Int32) → post (1 : Int32))
set_option maxRecDepth 20000 in
theorem m_X9_isOpen (w : bk_W) {x1 : Int32} {σ : bk_S} {post : Int32 → Prop} : w_X9_isOpen x1 σ post → bk_Mi lyM w yX9_isOpen cX9_isOpen 2 .boolean 0 0 [.ref (bk_r w 0), .int x1] σ (fun r σ1 => post r ∧ σ1 = σ) := by
  intro h0
  refine bk_mi (by decide) (Nat.le_of_ble_eq_true rfl) (fun X hX hret => ?_)
  revert h0
  unfold w_X9_isOpen
  show _ → bk_At lyM w X 0 [(0, .ref (bk_r w 0)), (1, .int x1)] [] σ
  refine bk_aload_n hX 0 dX9_isOpen_0 rfl ?_
  refine bk_getr hX km_o rfl fl_X9_55 dX9_isOpen_1 ?_
  refine bk_iload_n hX 1 dX9_isOpen_4 rfl ?_
  refine bk_iaload hX km_36 dX9_isOpen_5 ?_
  refine bk_iconst hX bk_ci_m1 dX9_isOpen_6 ?_
  refine bk_icmp_ne hX 14 dX9_isOpen_7 rfl ?_ ?_
  · refine bk_iconst hX bk_ci_0 dX9_isOpen_14 ?_
    exact fun z => hret _ _ _ _ dX9_isOpen_15 rfl ⟨z, rfl⟩
  · refine bk_iconst hX bk_ci_1 dX9_isOpen_10 ?_
    refine bk_goto hX 15 dX9_isOpen_11 rfl ?_
    exact fun z => hret _ _ _ _ dX9_isOpen_15 rfl ⟨z, rfl⟩

def w_X9_heatsUp (σ : bk_S) (post : bk_S → Prop) : Prop :=
  bk_lt (α := Int32) (0 : Int32) fun v1 =>
  bk_loop (α := Int32 × bk_S) (fun K2 a3 =>
    ((a3.2 0 12) ≤ a3.1 → post a3.2) ∧ (¬ (a3.2 0 12) ≤ a3.1 → (vp_in a3.1 8 ∧ w_X9_isOpen a3.1 a3.2 (fun r4 =>
      bk_jn (α := Int32) (fun a6 =>
        vp_in a3.1 8 ∧ bk_lt (α := bk_S) (bk_u a3.2 33 (Int32.toNatClampNeg a3.1) ((a3.2 33 (Int32.toNatClampNeg a3.1)) + a6)) fun σ9 =>
        bk_lt (α := Int32) (a3.1 + (1 : Int32)) fun v10 =>
        K2 (v10, σ9)) (fun K5 =>
        bk_jn (α := Unit) (fun a8 =>
          K5 (0 : Int32)) (fun K7 =>
          (r4 = 0 → K7 ()) ∧ (¬ r4 = 0 → (vp_in a3.1 8 ∧ ((9 : Int32) ≤ (a3.2 33 (Int32.toNatClampNeg a3.1)) → K7 ()) ∧ (¬ (9 : Int32) ≤ (a3.2 33 (Int32.toNatClampNeg a3.1)) → K5 (1 : Int32)))))))))) (v1, σ)
set_option maxRecDepth 20000 in
theorem m_X9_heatsUp (w : bk_W) {σ : bk_S} {post : bk_S → Prop} : w_X9_heatsUp σ post → bk_Mv lyM w yX9_heatsUp cX9_heatsUp 2 1 21 [.ref (bk_r w 0)] σ post := by
  intro h0
  refine bk_mv (by decide) (Nat.le_of_ble_eq_true rfl) (fun X hX hret => ?_)
  revert h0
  unfold w_X9_heatsUp
  show _ → bk_At lyM w X 0 [(0, .ref (bk_r w 0))] [] σ
  refine bk_iconst hX bk_ci_0 dX9_heatsUp_0 ?_
  refine bk_istore_n hX (fun v1 => [(1, .int v1), (0, .ref (bk_r w 0))]) dX9_heatsUp_1 (Nat.le_of_ble_eq_true rfl) (fun _ => rfl) (fun v1 => ?_)
  refine bk_pick [0, 1] rfl (bk_r_loop (α := Int32 × bk_S) (J := fun a => bk_At lyM w X 2 [(1, .int a.1), (0, .ref (bk_r w 0))] [] a.2) (v1, σ) (fun K2 hK2 a3 => ?_))
  refine bk_iload_n hX 0 dX9_heatsUp_2 rfl ?_
  refine bk_aload_n hX 1 dX9_heatsUp_3 rfl ?_
  refine bk_geti hX km_o rfl fl_X9_173 dX9_heatsUp_4 ?_
  refine bk_icmp_ge hX 49 dX9_heatsUp_7 rfl ?_ ?_
  · exact fun z => hret _ _ _ dX9_heatsUp_49 z
  · refine bk_aload_n hX 1 dX9_heatsUp_10 rfl ?_
    refine bk_getr hX km_o rfl fl_X9_46 dX9_heatsUp_11 ?_
    refine bk_iload_n hX 0 dX9_heatsUp_14 rfl ?_
    refine bk_dup2 hX rfl rfl dX9_heatsUp_15 ?_
    refine bk_iaload hX km_33 dX9_heatsUp_16 ?_
    refine bk_aload_n hX 1 dX9_heatsUp_17 rfl ?_
    refine bk_iload_n hX 0 dX9_heatsUp_18 rfl ?_
    refine bk_callV_i hX [.int a3.1] [.int (a3.2 33 (Int32.toNatClampNeg a3.1)), .int a3.1, .ref (bk_r w 33)] yk_X9_isOpen yv_X9_isOpen lk_X9_201 rfl rfl km_o rfl rfl (Nat.le_of_ble_eq_true rfl) ⟨Nat.le_of_ble_eq_true rfl, Nat.le_of_ble_eq_true rfl⟩ dX9_heatsUp_19 (m_X9_isOpen w) (bk_pu (fun r4 => ?_))
    refine bk_r_jn (α := Int32) (J := fun a => bk_At lyM w X 41 [(1, .int a3.1), (0, .ref (bk_r w 0))] [.int a, .int (a3.2 33 (Int32.toNatClampNeg a3.1)), .int a3.1, .ref (bk_r w 33)] a3.2) (fun a6 => ?_) (fun K5 hK5 => ?_)
    · refine bk_iadd hX dX9_heatsUp_41 ?_
      refine bk_iastore hX km_33 dX9_heatsUp_42 (fun σ9 => ?_)
      refine bk_iinc hX 0 (fun v10 => [(1, .int v10), (0, .ref (bk_r w 0))]) dX9_heatsUp_43 rfl bk_ci_1 (Nat.le_of_ble_eq_true rfl) (fun _ => rfl) (fun v10 => ?_)
      refine bk_goto hX 2 dX9_heatsUp_46 rfl ?_
      exact bk_pick [0, 1] rfl (hK2 (v10, σ9))
    · refine bk_r_jn (α := Unit) (J := fun a => bk_At lyM w X 40 [(1, .int a3.1), (0, .ref (bk_r w 0))] [.int (a3.2 33 (Int32.toNatClampNeg a3.1)), .int a3.1, .ref (bk_r w 33)] a3.2) (fun a8 => ?_) (fun K7 hK7 => ?_)
      · refine bk_iconst hX bk_ci_0 dX9_heatsUp_40 ?_
        exact bk_pick [0, 1] rfl (hK5 (0 : Int32))
      · refine bk_if_eq hX 40 dX9_heatsUp_22 rfl ?_ ?_
        · exact bk_pick [0, 1] rfl (hK7 ())
        · refine bk_aload_n hX 1 dX9_heatsUp_25 rfl ?_
          refine bk_getr hX km_o rfl fl_X9_46 dX9_heatsUp_26 ?_
          refine bk_iload_n hX 0 dX9_heatsUp_29 rfl ?_
          refine bk_iaload hX km_33 dX9_heatsUp_30 ?_
          refine bk_bipush hX bk_cb_9 dX9_heatsUp_31 ?_
          refine bk_icmp_ge hX 40 dX9_heatsUp_33 rfl ?_ ?_
          · exact bk_pick [0, 1] rfl (hK7 ())
          · refine bk_iconst hX bk_ci_1 dX9_heatsUp_36 ?_
            refine bk_goto hX 41 dX9_heatsUp_37 rfl ?_
            exact bk_pick [0, 1] rfl (hK5 (1 : Int32))

def w_X9_chosen (x1 : Int32) (σ : bk_S) (post : Int32 → Prop) : Prop :=
  bk_lt (α := Int32) (-1 : Int32) fun v1 =>
  bk_lt (α := Int32) (0 : Int32) fun v2 =>
  bk_lt (α := Int32) (0 : Int32) fun v3 =>
  bk_jn (α := Int32 × Int32) (fun a5 =>
    (a5.1 = (-1 : Int32) → ((¬ a5.2 = 0 → post (9 : Int32)) ∧ (a5.2 = 0 → post (8 : Int32)))) ∧ (¬ a5.1 = (-1 : Int32) → post a5.1)) (fun K4 =>
    bk_loop (α := Int32 × Int32 × Int32) (fun K6 a7 =>
      ((σ 0 12) ≤ a7.2.2 → K4 (a7.1, a7.2.1)) ∧ (¬ (σ 0 12) ≤ a7.2.2 → (w_X9_isOpen a7.2.2 σ (fun r8 =>
        (r8 = 0 → (bk_lt (α := Int32) (a7.2.2 + (1 : Int32)) fun v9 =>
        K6 (a7.1, a7.2.1, v9))) ∧ (¬ r8 = 0 → (vp_in a7.2.2 8 ∧ bk_jn (α := Int32) (fun a11 =>
          bk_lt (α := Int32) a11 fun v18 =>
          (v18 = 0 → (vp_in a7.2.2 8 ∧ bk_jn (α := Int32) (fun a20 =>
            bk_lt (α := Int32) a20 fun v23 =>
            bk_lt (α := Int32) (a7.2.1 + (1 : Int32)) fun v24 =>
            bk_lt (α := Int32) (a7.2.2 + (1 : Int32)) fun v25 =>
            K6 (v23, v24, v25)) (fun K19 =>
            bk_jn (α := Unit) (fun a22 =>
              K19 a7.1) (fun K21 =>
              (¬ (σ 14 (Int32.toNatClampNeg a7.2.2)) = (2 : Int32) → K21 ()) ∧ ((σ 14 (Int32.toNatClampNeg a7.2.2)) = (2 : Int32) → ((¬ a7.1 = (-1 : Int32) → K21 ()) ∧ (a7.1 = (-1 : Int32) → K19 a7.2.2))))))) ∧ (¬ v18 = 0 → post a7.2.2)) (fun K10 =>
          bk_jn (α := Unit) (fun a13 =>
            K10 (1 : Int32)) (fun K12 =>
            bk_jn (α := Unit) (fun a15 =>
              vp_in a7.2.2 8 ∧ bk_jn (α := Unit) (fun a17 =>
                K10 (0 : Int32)) (fun K16 =>
                (¬ (σ 14 (Int32.toNatClampNeg a7.2.2)) = (1 : Int32) → K16 ()) ∧ ((σ 14 (Int32.toNatClampNeg a7.2.2)) = (1 : Int32) → (vp_in a7.2.2 8 ∧ (x1 < (σ 16 (Int32.toNatClampNeg a7.2.2)) → K16 ()) ∧ (¬ x1 < (σ 16 (Int32.toNatClampNeg a7.2.2)) → K12 ()))))) (fun K14 =>
              (¬ (σ 14 (Int32.toNatClampNeg a7.2.2)) = 0 → K14 ()) ∧ ((σ 14 (Int32.toNatClampNeg a7.2.2)) = 0 → (vp_in a7.2.2 8 ∧ (x1 ≤ (σ 16 (Int32.toNatClampNeg a7.2.2)) → K12 ()) ∧ (¬ x1 ≤ (σ 16 (Int32.toNatClampNeg a7.2.2)) → K14 ())))))))))))) (v1, v2, v3))
set_option maxRecDepth 20000 in
theorem m_X9_chosen (w : bk_W) {x1 : Int32} {σ : bk_S} {post : Int32 → Prop} : w_X9_chosen x1 σ post → bk_Mi lyM w yX9_chosen cX9_chosen 6 .int 1 21 [.ref (bk_r w 0), .int x1] σ (fun r σ1 => post r ∧ σ1 = σ) := by
  intro h0
  refine bk_mi (by decide) (Nat.le_of_ble_eq_true rfl) (fun X hX hret => ?_)
  revert h0
  unfold w_X9_chosen
  show _ → bk_At lyM w X 0 [(0, .ref (bk_r w 0)), (1, .int x1)] [] σ
  refine bk_iconst hX bk_ci_m1 dX9_chosen_0 ?_
  refine bk_istore_n hX (fun v1 => [(2, .int v1), (0, .ref (bk_r w 0)), (1, .int x1)]) dX9_chosen_1 (Nat.le_of_ble_eq_true rfl) (fun _ => rfl) (fun v1 => ?_)
  refine bk_iconst hX bk_ci_0 dX9_chosen_2 ?_
  refine bk_istore_n hX (fun v2 => [(3, .int v2), (2, .int v1), (0, .ref (bk_r w 0)), (1, .int x1)]) dX9_chosen_3 (Nat.le_of_ble_eq_true rfl) (fun _ => rfl) (fun v2 => ?_)
  refine bk_iconst hX bk_ci_0 dX9_chosen_4 ?_
  refine bk_istore hX (fun v3 => [(4, .int v3), (3, .int v2), (2, .int v1), (0, .ref (bk_r w 0)), (1, .int x1)]) dX9_chosen_5 (Nat.le_of_ble_eq_true rfl) (fun _ => rfl) (fun v3 => ?_)
  refine bk_r_jn (α := Int32 × Int32) (J := fun a => bk_At lyM w X 115 [(3, .int a.2), (2, .int a.1), (0, .ref (bk_r w 0)), (1, .int x1)] [] σ) (fun a5 => ?_) (fun K4 hK4 => ?_)
  · refine bk_iload_n hX 1 dX9_chosen_115 rfl ?_
    refine bk_iconst hX bk_ci_m1 dX9_chosen_116 ?_
    refine bk_icmp_eq hX 124 dX9_chosen_117 rfl ?_ ?_
    · refine bk_iload_n hX 0 dX9_chosen_124 rfl ?_
      refine bk_if_ne hX 133 dX9_chosen_125 rfl ?_ ?_
      · refine bk_bipush hX bk_cb_9 dX9_chosen_133 ?_
        exact fun z => hret _ _ _ _ dX9_chosen_135 rfl ⟨z, rfl⟩
      · refine bk_bipush hX bk_cb_8 dX9_chosen_128 ?_
        refine bk_goto hX 135 dX9_chosen_130 rfl ?_
        exact fun z => hret _ _ _ _ dX9_chosen_135 rfl ⟨z, rfl⟩
    · refine bk_iload_n hX 1 dX9_chosen_120 rfl ?_
      refine bk_goto hX 135 dX9_chosen_121 rfl ?_
      exact fun z => hret _ _ _ _ dX9_chosen_135 rfl ⟨z, rfl⟩
  · refine bk_pick [0, 1, 2, 3, 4] rfl (bk_r_loop (α := Int32 × Int32 × Int32) (J := fun a => bk_At lyM w X 7 [(4, .int a.2.2), (3, .int a.2.1), (2, .int a.1), (0, .ref (bk_r w 0)), (1, .int x1)] [] σ) (v1, v2, v3) (fun K6 hK6 a7 => ?_))
    refine bk_iload hX 0 dX9_chosen_7 rfl ?_
    refine bk_aload_n hX 3 dX9_chosen_9 rfl ?_
    refine bk_geti hX km_o rfl fl_X9_173 dX9_chosen_10 ?_
    refine bk_icmp_ge hX 115 dX9_chosen_13 rfl ?_ ?_
    · exact bk_pick [1, 2, 3, 4] rfl (hK4 (a7.1, a7.2.1))
    · refine bk_aload_n hX 3 dX9_chosen_16 rfl ?_
      refine bk_iload hX 0 dX9_chosen_17 rfl ?_
      refine bk_callV_i hX [.int a7.2.2] [] yk_X9_isOpen yv_X9_isOpen lk_X9_201 rfl rfl km_o rfl rfl (Nat.le_of_ble_eq_true rfl) ⟨Nat.le_of_ble_eq_true rfl, Nat.le_of_ble_eq_true rfl⟩ dX9_chosen_19 (m_X9_isOpen w) (bk_pu (fun r8 => ?_))
      refine bk_if_eq hX 109 dX9_chosen_22 rfl ?_ ?_
      · refine bk_iinc hX 0 (fun v9 => [(4, .int v9), (3, .int a7.2.1), (2, .int a7.1), (0, .ref (bk_r w 0)), (1, .int x1)]) dX9_chosen_109 rfl bk_ci_1 (Nat.le_of_ble_eq_true rfl) (fun _ => rfl) (fun v9 => ?_)
        refine bk_goto hX 7 dX9_chosen_112 rfl ?_
        exact bk_pick [0, 1, 2, 3, 4] rfl (hK6 (a7.1, a7.2.1, v9))
      · refine bk_aload_n hX 3 dX9_chosen_25 rfl ?_
        refine bk_getr hX km_o rfl fl_X9_37 dX9_chosen_26 ?_
        refine bk_iload hX 0 dX9_chosen_29 rfl ?_
        refine bk_iaload hX km_14 dX9_chosen_31 ?_
        refine bk_r_jn (α := Int32) (J := fun a => bk_At lyM w X 73 [(4, .int a7.2.2), (3, .int a7.2.1), (2, .int a7.1), (0, .ref (bk_r w 0)), (1, .int x1)] [.int a] σ) (fun a11 => ?_) (fun K10 hK10 => ?_)
        · refine bk_istore hX (fun v18 => [(5, .int v18), (4, .int a7.2.2), (3, .int a7.2.1), (2, .int a7.1), (0, .ref (bk_r w 0)), (1, .int x1)]) dX9_chosen_73 (Nat.le_of_ble_eq_true rfl) (fun _ => rfl) (fun v18 => ?_)
          refine bk_iload hX 0 dX9_chosen_75 rfl ?_
          refine bk_if_eq hX 83 dX9_chosen_77 rfl ?_ ?_
          · refine bk_aload_n hX 4 dX9_chosen_83 rfl ?_
            refine bk_getr hX km_o rfl fl_X9_37 dX9_chosen_84 ?_
            refine bk_iload hX 1 dX9_chosen_87 rfl ?_
            refine bk_iaload hX km_14 dX9_chosen_89 ?_
            refine bk_iconst hX bk_ci_2 dX9_chosen_90 ?_
            refine bk_r_jn (α := Int32) (J := fun a => bk_At lyM w X 105 [(5, .int v18), (4, .int a7.2.2), (3, .int a7.2.1), (2, .int a7.1), (0, .ref (bk_r w 0)), (1, .int x1)] [.int a] σ) (fun a20 => ?_) (fun K19 hK19 => ?_)
            · refine bk_istore_n hX (fun v23 => [(2, .int v23), (5, .int v18), (4, .int a7.2.2), (3, .int a7.2.1), (0, .ref (bk_r w 0)), (1, .int x1)]) dX9_chosen_105 (Nat.le_of_ble_eq_true rfl) (fun _ => rfl) (fun v23 => ?_)
              refine bk_iinc hX 3 (fun v24 => [(3, .int v24), (2, .int v23), (5, .int v18), (4, .int a7.2.2), (0, .ref (bk_r w 0)), (1, .int x1)]) dX9_chosen_106 rfl bk_ci_1 (Nat.le_of_ble_eq_true rfl) (fun _ => rfl) (fun v24 => ?_)
              refine bk_iinc hX 3 (fun v25 => [(4, .int v25), (3, .int v24), (2, .int v23), (5, .int v18), (0, .ref (bk_r w 0)), (1, .int x1)]) dX9_chosen_109 rfl bk_ci_1 (Nat.le_of_ble_eq_true rfl) (fun _ => rfl) (fun v25 => ?_)
              refine bk_goto hX 7 dX9_chosen_112 rfl ?_
              exact bk_pick [0, 1, 2, 4, 5] rfl (hK6 (v23, v24, v25))
            · refine bk_r_jn (α := Unit) (J := fun a => bk_At lyM w X 104 [(5, .int v18), (4, .int a7.2.2), (3, .int a7.2.1), (2, .int a7.1), (0, .ref (bk_r w 0)), (1, .int x1)] [] σ) (fun a22 => ?_) (fun K21 hK21 => ?_)
              · refine bk_iload_n hX 3 dX9_chosen_104 rfl ?_
                exact bk_pick [0, 1, 2, 3, 4, 5] rfl (hK19 a7.1)
              · refine bk_icmp_ne hX 104 dX9_chosen_91 rfl ?_ ?_
                · exact bk_pick [0, 1, 2, 3, 4, 5] rfl (hK21 ())
                · refine bk_iload_n hX 3 dX9_chosen_94 rfl ?_
                  refine bk_iconst hX bk_ci_m1 dX9_chosen_95 ?_
                  refine bk_icmp_ne hX 104 dX9_chosen_96 rfl ?_ ?_
                  · exact bk_pick [0, 1, 2, 3, 4, 5] rfl (hK21 ())
                  · refine bk_iload hX 1 dX9_chosen_99 rfl ?_
                    refine bk_goto hX 105 dX9_chosen_101 rfl ?_
                    exact bk_pick [0, 1, 2, 3, 4, 5] rfl (hK19 a7.2.2)
          · refine bk_iload hX 1 dX9_chosen_80 rfl ?_
            exact fun z => hret _ _ _ _ dX9_chosen_82 rfl ⟨z, rfl⟩
        · refine bk_r_jn (α := Unit) (J := fun a => bk_At lyM w X 68 [(4, .int a7.2.2), (3, .int a7.2.1), (2, .int a7.1), (0, .ref (bk_r w 0)), (1, .int x1)] [] σ) (fun a13 => ?_) (fun K12 hK12 => ?_)
          · refine bk_iconst hX bk_ci_1 dX9_chosen_68 ?_
            refine bk_goto hX 73 dX9_chosen_69 rfl ?_
            exact bk_pick [0, 1, 2, 3, 4] rfl (hK10 (1 : Int32))
          · refine bk_r_jn (α := Unit) (J := fun a => bk_At lyM w X 46 [(4, .int a7.2.2), (3, .int a7.2.1), (2, .int a7.1), (0, .ref (bk_r w 0)), (1, .int x1)] [] σ) (fun a15 => ?_) (fun K14 hK14 => ?_)
            · refine bk_aload_n hX 3 dX9_chosen_46 rfl ?_
              refine bk_getr hX km_o rfl fl_X9_37 dX9_chosen_47 ?_
              refine bk_iload hX 0 dX9_chosen_50 rfl ?_
              refine bk_iaload hX km_14 dX9_chosen_52 ?_
              refine bk_iconst hX bk_ci_1 dX9_chosen_53 ?_
              refine bk_r_jn (α := Unit) (J := fun a => bk_At lyM w X 72 [(4, .int a7.2.2), (3, .int a7.2.1), (2, .int a7.1), (0, .ref (bk_r w 0)), (1, .int x1)] [] σ) (fun a17 => ?_) (fun K16 hK16 => ?_)
              · refine bk_iconst hX bk_ci_0 dX9_chosen_72 ?_
                exact bk_pick [0, 1, 2, 3, 4] rfl (hK10 (0 : Int32))
              · refine bk_icmp_ne hX 72 dX9_chosen_54 rfl ?_ ?_
                · exact bk_pick [0, 1, 2, 3, 4] rfl (hK16 ())
                · refine bk_iload_n hX 4 dX9_chosen_57 rfl ?_
                  refine bk_aload_n hX 3 dX9_chosen_58 rfl ?_
                  refine bk_getr hX km_o rfl fl_X9_43 dX9_chosen_59 ?_
                  refine bk_iload hX 0 dX9_chosen_62 rfl ?_
                  refine bk_iaload hX km_16 dX9_chosen_64 ?_
                  refine bk_icmp_lt hX 72 dX9_chosen_65 rfl ?_ ?_
                  · exact bk_pick [0, 1, 2, 3, 4] rfl (hK16 ())
                  · exact bk_pick [0, 1, 2, 3, 4] rfl (hK12 ())
            · refine bk_if_ne hX 46 dX9_chosen_32 rfl ?_ ?_
              · exact bk_pick [0, 1, 2, 3, 4] rfl (hK14 ())
              · refine bk_iload_n hX 4 dX9_chosen_35 rfl ?_
                refine bk_aload_n hX 3 dX9_chosen_36 rfl ?_
                refine bk_getr hX km_o rfl fl_X9_43 dX9_chosen_37 ?_
                refine bk_iload hX 0 dX9_chosen_40 rfl ?_
                refine bk_iaload hX km_16 dX9_chosen_42 ?_
                refine bk_icmp_le hX 68 dX9_chosen_43 rfl ?_ ?_
                · exact bk_pick [0, 1, 2, 3, 4] rfl (hK12 ())
                · exact bk_pick [0, 1, 2, 3, 4] rfl (hK14 ())

def w_X9_says (x1 : Int32) (x2 : Int32) (σ : bk_S) (post : bk_S → Prop) : Prop :=
  w_X9_chosen x2 σ (fun r1 =>
    bk_lt (α := Int32) r1 fun v2 =>
    bk_lt (α := bk_S) (bk_u σ 0 25 ((σ 0 25) + (1 : Int32))) fun σ3 =>
    bk_lt (α := Int32) (if v2 = (8 : Int32) then (1 : Int32) else (0 : Int32)) fun a5 =>
    bk_lt (α := bk_S) (bk_u σ3 0 26 ((σ3 0 26) + a5)) fun σ6 =>
    bk_lt (α := Int32) (if v2 = (9 : Int32) then (1 : Int32) else (0 : Int32)) fun a8 =>
    bk_lt (α := bk_S) (bk_u σ6 0 27 ((σ6 0 27) + a8)) fun σ9 =>
    vp_in (((12 : Int32) * x1) + x2) 144 ∧ bk_lt (α := bk_S) (bk_u σ9 40 (Int32.toNatClampNeg (((12 : Int32) * x1) + x2)) v2) fun σ10 =>
    ((8 : Int32) ≤ v2 → post σ10) ∧ (¬ (8 : Int32) ≤ v2 → (vp_in v2 8 ∧ bk_jn (α := Int32) (fun a12 =>
      bk_lt (α := Int32) a12 fun v17 =>
      vp_in v2 8 ∧ vp_in v2 8 ∧ bk_lt (α := bk_S) (bk_u σ10 34 (Int32.toNatClampNeg v2) ((σ10 34 (Int32.toNatClampNeg v2)) + (1 : Int32))) fun σ18 =>
      vp_in v2 8 ∧ bk_jn (α := Int32) (fun a20 =>
        vp_in v2 8 ∧ bk_lt (α := bk_S) (bk_u σ18 37 (Int32.toNatClampNeg v2) a20) fun σ21 =>
        vp_in v2 8 ∧ bk_jn (α := Int32) (fun a23 =>
          vp_in v2 8 ∧ bk_lt (α := bk_S) (bk_u σ21 33 (Int32.toNatClampNeg v2) a23) fun σ24 =>
          vp_in v2 8 ∧ (¬ (σ24 33 (Int32.toNatClampNeg v2)) = 0 → post σ24) ∧ ((σ24 33 (Int32.toNatClampNeg v2)) = 0 → (vp_in v2 8 ∧ bk_lt (α := bk_S) (bk_u σ24 36 (Int32.toNatClampNeg v2) x1) fun σ25 =>
          bk_lt (α := bk_S) (bk_u σ25 0 24 ((σ25 0 24) + (1 : Int32))) fun σ26 =>
          post σ26))) (fun K22 =>
          (v17 ≤ (σ21 33 (Int32.toNatClampNeg v2)) → (vp_in v2 8 ∧ K22 ((σ21 33 (Int32.toNatClampNeg v2)) - v17))) ∧ (¬ v17 ≤ (σ21 33 (Int32.toNatClampNeg v2)) → K22 (0 : Int32)))) (fun K19 =>
        (x2 ≤ (σ18 37 (Int32.toNatClampNeg v2)) → (vp_in v2 8 ∧ K19 (σ18 37 (Int32.toNatClampNeg v2)))) ∧ (¬ x2 ≤ (σ18 37 (Int32.toNatClampNeg v2)) → K19 x2))) (fun K11 =>
      bk_jn (α := Unit) (fun a14 =>
        vp_in v2 8 ∧ bk_jn (α := Unit) (fun a16 =>
          K11 (1 : Int32)) (fun K15 =>
          (¬ (σ10 14 (Int32.toNatClampNeg v2)) = (2 : Int32) → K15 ()) ∧ ((σ10 14 (Int32.toNatClampNeg v2)) = (2 : Int32) → ((¬ x2 = (σ10 0 23) → K15 ()) ∧ (x2 = (σ10 0 23) → K11 (3 : Int32)))))) (fun K13 =>
        (¬ (σ10 14 (Int32.toNatClampNeg v2)) = (1 : Int32) → K13 ()) ∧ ((σ10 14 (Int32.toNatClampNeg v2)) = (1 : Int32) → (((σ10 0 24) ≤ 0 → K13 ()) ∧ (¬ (σ10 0 24) ≤ 0 → K11 (2 : Int32)))))))))
set_option maxRecDepth 20000 in
theorem m_X9_says (w : bk_W) {x1 : Int32} {x2 : Int32} {σ : bk_S} {post : bk_S → Prop} : w_X9_says x1 x2 σ post → bk_Mv lyM w yX9_says cX9_says 5 2 46 [.ref (bk_r w 0), .int x1, .int x2] σ post := by
  intro h0
  refine bk_mv (by decide) (Nat.le_of_ble_eq_true rfl) (fun X hX hret => ?_)
  revert h0
  unfold w_X9_says
  show _ → bk_At lyM w X 0 [(0, .ref (bk_r w 0)), (1, .int x1), (2, .int x2)] [] σ
  refine bk_aload_n hX 0 dX9_says_0 rfl ?_
  refine bk_iload_n hX 2 dX9_says_1 rfl ?_
  refine bk_callV_i hX [.int x2] [] yk_X9_chosen yv_X9_chosen lk_X9_204 rfl rfl km_o rfl rfl (Nat.le_of_ble_eq_true rfl) ⟨Nat.le_of_ble_eq_true rfl, Nat.le_of_ble_eq_true rfl⟩ dX9_says_2 (m_X9_chosen w) (bk_pu (fun r1 => ?_))
  refine bk_istore_n hX (fun v2 => [(3, .int v2), (0, .ref (bk_r w 0)), (1, .int x1), (2, .int x2)]) dX9_says_5 (Nat.le_of_ble_eq_true rfl) (fun _ => rfl) (fun v2 => ?_)
  refine bk_aload_n hX 1 dX9_says_6 rfl ?_
  refine bk_dup hX rfl dX9_says_7 ?_
  refine bk_geti hX km_o rfl fl_X9_207 dX9_says_8 ?_
  refine bk_iconst hX bk_ci_1 dX9_says_11 ?_
  refine bk_iadd hX dX9_says_12 ?_
  refine bk_putI hX km_o rfl fp_X9_207 dX9_says_13 (fun σ3 => ?_)
  refine bk_aload_n hX 1 dX9_says_16 rfl ?_
  refine bk_dup hX rfl dX9_says_17 ?_
  refine bk_geti hX km_o rfl fl_X9_210 dX9_says_18 ?_
  refine bk_iload_n hX 0 dX9_says_21 rfl ?_
  refine bk_bipush hX bk_cb_8 dX9_says_22 ?_
  refine bk_r_if (α := Int32) (F := fun K4 => (¬ v2 = (8 : Int32) → K4 (0 : Int32)) ∧ (v2 = (8 : Int32) → K4 (1 : Int32))) (fun K4 z => ⟨fun h0 => (bk_neg (K := K4) h0 z), fun h0 => (bk_pos (K := K4) h0 z)⟩) (J := fun a => bk_At lyM w X 32 [(3, .int v2), (0, .ref (bk_r w 0)), (1, .int x1), (2, .int x2)] [.int a, .int (σ3 0 26), .ref (bk_r w 0)] σ3) (fun a5 => ?_) (fun K4 hK4 => ?_)
  · refine bk_iadd hX dX9_says_32 ?_
    refine bk_putI hX km_o rfl fp_X9_210 dX9_says_33 (fun σ6 => ?_)
    refine bk_aload_n hX 1 dX9_says_36 rfl ?_
    refine bk_dup hX rfl dX9_says_37 ?_
    refine bk_geti hX km_o rfl fl_X9_213 dX9_says_38 ?_
    refine bk_iload_n hX 0 dX9_says_41 rfl ?_
    refine bk_bipush hX bk_cb_9 dX9_says_42 ?_
    refine bk_r_if (α := Int32) (F := fun K7 => (¬ v2 = (9 : Int32) → K7 (0 : Int32)) ∧ (v2 = (9 : Int32) → K7 (1 : Int32))) (fun K7 z => ⟨fun h0 => (bk_neg (K := K7) h0 z), fun h0 => (bk_pos (K := K7) h0 z)⟩) (J := fun a => bk_At lyM w X 52 [(3, .int v2), (0, .ref (bk_r w 0)), (1, .int x1), (2, .int x2)] [.int a, .int (σ6 0 27), .ref (bk_r w 0)] σ6) (fun a8 => ?_) (fun K7 hK7 => ?_)
    · refine bk_iadd hX dX9_says_52 ?_
      refine bk_putI hX km_o rfl fp_X9_213 dX9_says_53 (fun σ9 => ?_)
      refine bk_aload_n hX 1 dX9_says_56 rfl ?_
      refine bk_getr hX km_o rfl fl_X9_67 dX9_says_57 ?_
      refine bk_bipush hX bk_cb_12 dX9_says_60 ?_
      refine bk_iload_n hX 2 dX9_says_62 rfl ?_
      refine bk_imul hX dX9_says_63 ?_
      refine bk_iload_n hX 3 dX9_says_64 rfl ?_
      refine bk_iadd hX dX9_says_65 ?_
      refine bk_iload_n hX 0 dX9_says_66 rfl ?_
      refine bk_iastore hX km_40 dX9_says_67 (fun σ10 => ?_)
      refine bk_iload_n hX 0 dX9_says_68 rfl ?_
      refine bk_bipush hX bk_cb_8 dX9_says_69 ?_
      refine bk_icmp_ge hX 212 dX9_says_71 rfl ?_ ?_
      · exact fun z => hret _ _ _ dX9_says_212 z
      · refine bk_aload_n hX 1 dX9_says_74 rfl ?_
        refine bk_getr hX km_o rfl fl_X9_37 dX9_says_75 ?_
        refine bk_iload_n hX 0 dX9_says_78 rfl ?_
        refine bk_iaload hX km_14 dX9_says_79 ?_
        refine bk_iconst hX bk_ci_1 dX9_says_80 ?_
        refine bk_r_jn (α := Int32) (J := fun a => bk_At lyM w X 118 [(3, .int v2), (0, .ref (bk_r w 0)), (1, .int x1), (2, .int x2)] [.int a] σ10) (fun a12 => ?_) (fun K11 hK11 => ?_)
        · refine bk_istore hX (fun v17 => [(4, .int v17), (3, .int v2), (0, .ref (bk_r w 0)), (1, .int x1), (2, .int x2)]) dX9_says_118 (Nat.le_of_ble_eq_true rfl) (fun _ => rfl) (fun v17 => ?_)
          refine bk_aload_n hX 2 dX9_says_120 rfl ?_
          refine bk_getr hX km_o rfl fl_X9_49 dX9_says_121 ?_
          refine bk_iload_n hX 1 dX9_says_124 rfl ?_
          refine bk_dup2 hX rfl rfl dX9_says_125 ?_
          refine bk_iaload hX km_34 dX9_says_126 ?_
          refine bk_iconst hX bk_ci_1 dX9_says_127 ?_
          refine bk_iadd hX dX9_says_128 ?_
          refine bk_iastore hX km_34 dX9_says_129 (fun σ18 => ?_)
          refine bk_aload_n hX 2 dX9_says_130 rfl ?_
          refine bk_getr hX km_o rfl fl_X9_58 dX9_says_131 ?_
          refine bk_iload_n hX 1 dX9_says_134 rfl ?_
          refine bk_iload_n hX 4 dX9_says_135 rfl ?_
          refine bk_aload_n hX 2 dX9_says_136 rfl ?_
          refine bk_getr hX km_o rfl fl_X9_58 dX9_says_137 ?_
          refine bk_iload_n hX 1 dX9_says_140 rfl ?_
          refine bk_iaload hX km_37 dX9_says_141 ?_
          refine bk_r_jn (α := Int32) (J := fun a => bk_At lyM w X 155 [(4, .int v17), (3, .int v2), (0, .ref (bk_r w 0)), (1, .int x1), (2, .int x2)] [.int a, .int v2, .ref (bk_r w 37)] σ18) (fun a20 => ?_) (fun K19 hK19 => ?_)
          · refine bk_iastore hX km_37 dX9_says_155 (fun σ21 => ?_)
            refine bk_aload_n hX 2 dX9_says_156 rfl ?_
            refine bk_getr hX km_o rfl fl_X9_46 dX9_says_157 ?_
            refine bk_iload_n hX 1 dX9_says_160 rfl ?_
            refine bk_aload_n hX 2 dX9_says_161 rfl ?_
            refine bk_getr hX km_o rfl fl_X9_46 dX9_says_162 ?_
            refine bk_iload_n hX 1 dX9_says_165 rfl ?_
            refine bk_iaload hX km_33 dX9_says_166 ?_
            refine bk_iload hX 0 dX9_says_167 rfl ?_
            refine bk_r_jn (α := Int32) (J := fun a => bk_At lyM w X 185 [(4, .int v17), (3, .int v2), (0, .ref (bk_r w 0)), (1, .int x1), (2, .int x2)] [.int a, .int v2, .ref (bk_r w 33)] σ21) (fun a23 => ?_) (fun K22 hK22 => ?_)
            · refine bk_iastore hX km_33 dX9_says_185 (fun σ24 => ?_)
              refine bk_aload_n hX 2 dX9_says_186 rfl ?_
              refine bk_getr hX km_o rfl fl_X9_46 dX9_says_187 ?_
              refine bk_iload_n hX 1 dX9_says_190 rfl ?_
              refine bk_iaload hX km_33 dX9_says_191 ?_
              refine bk_if_ne hX 212 dX9_says_192 rfl ?_ ?_
              · exact fun z => hret _ _ _ dX9_says_212 z
              · refine bk_aload_n hX 2 dX9_says_195 rfl ?_
                refine bk_getr hX km_o rfl fl_X9_55 dX9_says_196 ?_
                refine bk_iload_n hX 1 dX9_says_199 rfl ?_
                refine bk_iload_n hX 3 dX9_says_200 rfl ?_
                refine bk_iastore hX km_36 dX9_says_201 (fun σ25 => ?_)
                refine bk_aload_n hX 2 dX9_says_202 rfl ?_
                refine bk_dup hX rfl dX9_says_203 ?_
                refine bk_geti hX km_o rfl fl_X9_216 dX9_says_204 ?_
                refine bk_iconst hX bk_ci_1 dX9_says_207 ?_
                refine bk_iadd hX dX9_says_208 ?_
                refine bk_putI hX km_o rfl fp_X9_216 dX9_says_209 (fun σ26 => ?_)
                exact fun z => hret _ _ _ dX9_says_212 z
            · refine bk_icmp_ge hX 176 dX9_says_169 rfl ?_ ?_
              · refine bk_aload_n hX 2 dX9_says_176 rfl ?_
                refine bk_getr hX km_o rfl fl_X9_46 dX9_says_177 ?_
                refine bk_iload_n hX 1 dX9_says_180 rfl ?_
                refine bk_iaload hX km_33 dX9_says_181 ?_
                refine bk_iload hX 0 dX9_says_182 rfl ?_
                refine bk_isub hX dX9_says_184 ?_
                exact bk_pick [0, 1, 2, 3, 4] rfl (hK22 ((σ21 33 (Int32.toNatClampNeg v2)) - v17))
              · refine bk_iconst hX bk_ci_0 dX9_says_172 ?_
                refine bk_goto hX 185 dX9_says_173 rfl ?_
                exact bk_pick [0, 1, 2, 3, 4] rfl (hK22 (0 : Int32))
          · refine bk_icmp_le hX 149 dX9_says_142 rfl ?_ ?_
            · refine bk_aload_n hX 2 dX9_says_149 rfl ?_
              refine bk_getr hX km_o rfl fl_X9_58 dX9_says_150 ?_
              refine bk_iload_n hX 1 dX9_says_153 rfl ?_
              refine bk_iaload hX km_37 dX9_says_154 ?_
              exact bk_pick [0, 1, 2, 3, 4] rfl (hK19 (σ18 37 (Int32.toNatClampNeg v2)))
            · refine bk_iload_n hX 4 dX9_says_145 rfl ?_
              refine bk_goto hX 155 dX9_says_146 rfl ?_
              exact bk_pick [0, 1, 2, 3, 4] rfl (hK19 x2)
        · refine bk_r_jn (α := Unit) (J := fun a => bk_At lyM w X 95 [(3, .int v2), (0, .ref (bk_r w 0)), (1, .int x1), (2, .int x2)] [] σ10) (fun a14 => ?_) (fun K13 hK13 => ?_)
          · refine bk_aload_n hX 1 dX9_says_95 rfl ?_
            refine bk_getr hX km_o rfl fl_X9_37 dX9_says_96 ?_
            refine bk_iload_n hX 0 dX9_says_99 rfl ?_
            refine bk_iaload hX km_14 dX9_says_100 ?_
            refine bk_iconst hX bk_ci_2 dX9_says_101 ?_
            refine bk_r_jn (α := Unit) (J := fun a => bk_At lyM w X 117 [(3, .int v2), (0, .ref (bk_r w 0)), (1, .int x1), (2, .int x2)] [] σ10) (fun a16 => ?_) (fun K15 hK15 => ?_)
            · refine bk_iconst hX bk_ci_1 dX9_says_117 ?_
              exact bk_pick [0, 1, 2, 3] rfl (hK11 (1 : Int32))
            · refine bk_icmp_ne hX 117 dX9_says_102 rfl ?_ ?_
              · exact bk_pick [0, 1, 2, 3] rfl (hK15 ())
              · refine bk_iload_n hX 3 dX9_says_105 rfl ?_
                refine bk_aload_n hX 1 dX9_says_106 rfl ?_
                refine bk_geti hX km_o rfl fl_X9_219 dX9_says_107 ?_
                refine bk_icmp_ne hX 117 dX9_says_110 rfl ?_ ?_
                · exact bk_pick [0, 1, 2, 3] rfl (hK15 ())
                · refine bk_iconst hX bk_ci_3 dX9_says_113 ?_
                  refine bk_goto hX 118 dX9_says_114 rfl ?_
                  exact bk_pick [0, 1, 2, 3] rfl (hK11 (3 : Int32))
          · refine bk_icmp_ne hX 95 dX9_says_81 rfl ?_ ?_
            · exact bk_pick [0, 1, 2, 3] rfl (hK13 ())
            · refine bk_aload_n hX 1 dX9_says_84 rfl ?_
              refine bk_geti hX km_o rfl fl_X9_216 dX9_says_85 ?_
              refine bk_if_le hX 95 dX9_says_88 rfl ?_ ?_
              · exact bk_pick [0, 1, 2, 3] rfl (hK13 ())
              · refine bk_iconst hX bk_ci_2 dX9_says_91 ?_
                refine bk_goto hX 118 dX9_says_92 rfl ?_
                exact bk_pick [0, 1, 2, 3] rfl (hK11 (2 : Int32))
    · refine bk_icmp_ne hX 51 dX9_says_44 rfl ?_ ?_
      · refine bk_iconst hX bk_ci_0 dX9_says_51 ?_
        exact bk_pick [0, 1, 2, 3] rfl (hK7 (0 : Int32))
      · refine bk_iconst hX bk_ci_1 dX9_says_47 ?_
        refine bk_goto hX 52 dX9_says_48 rfl ?_
        exact bk_pick [0, 1, 2, 3] rfl (hK7 (1 : Int32))
  · refine bk_icmp_ne hX 31 dX9_says_24 rfl ?_ ?_
    · refine bk_iconst hX bk_ci_0 dX9_says_31 ?_
      exact bk_pick [0, 1, 2, 3] rfl (hK4 (0 : Int32))
    · refine bk_iconst hX bk_ci_1 dX9_says_27 ?_
      refine bk_goto hX 32 dX9_says_28 rfl ?_
      exact bk_pick [0, 1, 2, 3] rfl (hK4 (1 : Int32))

def w_X9_takes (x1 : Int32) (σ : bk_S) (post : Int32 → Prop) : Prop :=
  vp_in x1 12 ∧ w_X9_isIn (σ 0 22) x1 (fun r1 =>
    (r1 = 0 → post ((σ 4 (Int32.toNatClampNeg x1)) + (0 : Int32))) ∧ (¬ r1 = 0 → post ((σ 4 (Int32.toNatClampNeg x1)) + (1 : Int32))))
set_option maxRecDepth 20000 in
theorem m_X9_takes (w : bk_W) {x1 : Int32} {σ : bk_S} {post : Int32 → Prop} : w_X9_takes x1 σ post → bk_Mi lyM w yX9_takes cX9_takes 2 .int 1 21 [.ref (bk_r w 0), .int x1] σ (fun r σ1 => post r ∧ σ1 = σ) := by
  intro h0
  refine bk_mi (by decide) (Nat.le_of_ble_eq_true rfl) (fun X hX hret => ?_)
  revert h0
  unfold w_X9_takes
  show _ → bk_At lyM w X 0 [(0, .ref (bk_r w 0)), (1, .int x1)] [] σ
  refine bk_aload_n hX 0 dX9_takes_0 rfl ?_
  refine bk_getr hX km_o rfl fl_X9_16 dX9_takes_1 ?_
  refine bk_iload_n hX 1 dX9_takes_4 rfl ?_
  refine bk_iaload hX km_4 dX9_takes_5 ?_
  refine bk_aload_n hX 0 dX9_takes_6 rfl ?_
  refine bk_geti hX km_o rfl fl_X9_194 dX9_takes_7 ?_
  refine bk_iload_n hX 1 dX9_takes_10 rfl ?_
  refine bk_callS_i hX [.int (σ 0 22), .int x1] [.int (σ 4 (Int32.toNatClampNeg x1))] yk_X9_isIn ys_X9_isIn lk_X9_197 rfl rfl (Nat.le_of_ble_eq_true rfl) ⟨Nat.le_of_ble_eq_true rfl, Nat.le_of_ble_eq_true rfl⟩ dX9_takes_11 (m_X9_isIn w) (bk_pu (fun r1 => ?_))
  refine bk_if_eq hX 21 dX9_takes_14 rfl ?_ ?_
  · refine bk_iconst hX bk_ci_0 dX9_takes_21 ?_
    refine bk_iadd hX dX9_takes_22 ?_
    exact fun z => hret _ _ _ _ dX9_takes_23 rfl ⟨z, rfl⟩
  · refine bk_iconst hX bk_ci_1 dX9_takes_17 ?_
    refine bk_goto hX 22 dX9_takes_18 rfl ?_
    refine bk_iadd hX dX9_takes_22 ?_
    exact fun z => hret _ _ _ _ dX9_takes_23 rfl ⟨z, rfl⟩

def w_X9_lastOf (σ : bk_S) (post : Int32 → Prop) : Prop :=
  bk_lt (α := Int32) (-1 : Int32) fun v1 =>
  bk_lt (α := Int32) (0 : Int32) fun v2 =>
  bk_jn (α := Int32) (fun a4 =>
    bk_lt (α := Int32) (0 : Int32) fun v15 =>
    bk_loop (α := Int32 × Int32) (fun K16 a17 =>
      ((σ 0 16) ≤ a17.2 → post a17.1) ∧ (¬ (σ 0 16) ≤ a17.2 → (w_X9_isIn (σ 0 22) a17.2 (fun r18 =>
        bk_jn (α := Unit) (fun a20 =>
          bk_lt (α := Int32) a17.1 fun v24 =>
          bk_lt (α := Int32) (a17.2 + (1 : Int32)) fun v25 =>
          K16 (v24, v25)) (fun K19 =>
          (r18 = 0 → K19 ()) ∧ (¬ r18 = 0 → (w_X9_takes a17.2 σ (fun r21 =>
            (r21 ≤ 0 → K19 ()) ∧ (¬ r21 ≤ 0 → (bk_lt (α := Int32) a17.2 fun v22 =>
            bk_lt (α := Int32) (a17.2 + (1 : Int32)) fun v23 =>
            K16 (v22, v23))))))))))) (a4, v15)) (fun K3 =>
    bk_loop (α := Int32 × Int32) (fun K5 a6 =>
      ((σ 0 16) ≤ a6.2 → K3 a6.1) ∧ (¬ (σ 0 16) ≤ a6.2 → (w_X9_isIn (σ 0 22) a6.2 (fun r7 =>
        bk_jn (α := Unit) (fun a9 =>
          bk_lt (α := Int32) a6.1 fun v13 =>
          bk_lt (α := Int32) (a6.2 + (1 : Int32)) fun v14 =>
          K5 (v13, v14)) (fun K8 =>
          (¬ r7 = 0 → K8 ()) ∧ (r7 = 0 → (w_X9_takes a6.2 σ (fun r10 =>
            (r10 ≤ 0 → K8 ()) ∧ (¬ r10 ≤ 0 → (bk_lt (α := Int32) a6.2 fun v11 =>
            bk_lt (α := Int32) (a6.2 + (1 : Int32)) fun v12 =>
            K5 (v11, v12))))))))))) (v1, v2))
set_option maxRecDepth 20000 in
theorem m_X9_lastOf (w : bk_W) {σ : bk_S} {post : Int32 → Prop} : w_X9_lastOf σ post → bk_Mi lyM w yX9_lastOf cX9_lastOf 3 .int 2 42 [.ref (bk_r w 0)] σ (fun r σ1 => post r ∧ σ1 = σ) := by
  intro h0
  refine bk_mi (by decide) (Nat.le_of_ble_eq_true rfl) (fun X hX hret => ?_)
  revert h0
  unfold w_X9_lastOf
  show _ → bk_At lyM w X 0 [(0, .ref (bk_r w 0))] [] σ
  refine bk_iconst hX bk_ci_m1 dX9_lastOf_0 ?_
  refine bk_istore_n hX (fun v1 => [(1, .int v1), (0, .ref (bk_r w 0))]) dX9_lastOf_1 (Nat.le_of_ble_eq_true rfl) (fun _ => rfl) (fun v1 => ?_)
  refine bk_iconst hX bk_ci_0 dX9_lastOf_2 ?_
  refine bk_istore_n hX (fun v2 => [(2, .int v2), (1, .int v1), (0, .ref (bk_r w 0))]) dX9_lastOf_3 (Nat.le_of_ble_eq_true rfl) (fun _ => rfl) (fun v2 => ?_)
  refine bk_r_jn (α := Int32) (J := fun a => bk_At lyM w X 43 [(1, .int a), (0, .ref (bk_r w 0))] [] σ) (fun a4 => ?_) (fun K3 hK3 => ?_)
  · refine bk_iconst hX bk_ci_0 dX9_lastOf_43 ?_
    refine bk_istore_n hX (fun v15 => [(2, .int v15), (1, .int a4), (0, .ref (bk_r w 0))]) dX9_lastOf_44 (Nat.le_of_ble_eq_true rfl) (fun _ => rfl) (fun v15 => ?_)
    refine bk_pick [0, 1, 2] rfl (bk_r_loop (α := Int32 × Int32) (J := fun a => bk_At lyM w X 45 [(2, .int a.2), (1, .int a.1), (0, .ref (bk_r w 0))] [] σ) (a4, v15) (fun K16 hK16 a17 => ?_))
    refine bk_iload_n hX 0 dX9_lastOf_45 rfl ?_
    refine bk_aload_n hX 2 dX9_lastOf_46 rfl ?_
    refine bk_geti hX km_o rfl fl_X9_176 dX9_lastOf_47 ?_
    refine bk_icmp_ge hX 84 dX9_lastOf_50 rfl ?_ ?_
    · refine bk_iload_n hX 1 dX9_lastOf_84 rfl ?_
      exact fun z => hret _ _ _ _ dX9_lastOf_85 rfl ⟨z, rfl⟩
    · refine bk_aload_n hX 2 dX9_lastOf_53 rfl ?_
      refine bk_geti hX km_o rfl fl_X9_194 dX9_lastOf_54 ?_
      refine bk_iload_n hX 0 dX9_lastOf_57 rfl ?_
      refine bk_callS_i hX [.int (σ 0 22), .int a17.2] [] yk_X9_isIn ys_X9_isIn lk_X9_197 rfl rfl (Nat.le_of_ble_eq_true rfl) ⟨Nat.le_of_ble_eq_true rfl, Nat.le_of_ble_eq_true rfl⟩ dX9_lastOf_58 (m_X9_isIn w) (bk_pu (fun r18 => ?_))
      refine bk_r_jn (α := Unit) (J := fun a => bk_At lyM w X 76 [(2, .int a17.2), (1, .int a17.1), (0, .ref (bk_r w 0))] [] σ) (fun a20 => ?_) (fun K19 hK19 => ?_)
      · refine bk_iload_n hX 1 dX9_lastOf_76 rfl ?_
        refine bk_istore_n hX (fun v24 => [(1, .int v24), (2, .int a17.2), (0, .ref (bk_r w 0))]) dX9_lastOf_77 (Nat.le_of_ble_eq_true rfl) (fun _ => rfl) (fun v24 => ?_)
        refine bk_iinc hX 1 (fun v25 => [(2, .int v25), (1, .int v24), (0, .ref (bk_r w 0))]) dX9_lastOf_78 rfl bk_ci_1 (Nat.le_of_ble_eq_true rfl) (fun _ => rfl) (fun v25 => ?_)
        refine bk_goto hX 45 dX9_lastOf_81 rfl ?_
        exact bk_pick [0, 1, 2] rfl (hK16 (v24, v25))
      · refine bk_if_eq hX 76 dX9_lastOf_61 rfl ?_ ?_
        · exact bk_pick [0, 1, 2] rfl (hK19 ())
        · refine bk_aload_n hX 2 dX9_lastOf_64 rfl ?_
          refine bk_iload_n hX 0 dX9_lastOf_65 rfl ?_
          refine bk_callV_i hX [.int a17.2] [] yk_X9_takes yv_X9_takes lk_X9_222 rfl rfl km_o rfl rfl (Nat.le_of_ble_eq_true rfl) ⟨Nat.le_of_ble_eq_true rfl, Nat.le_of_ble_eq_true rfl⟩ dX9_lastOf_66 (m_X9_takes w) (bk_pu (fun r21 => ?_))
          refine bk_if_le hX 76 dX9_lastOf_69 rfl ?_ ?_
          · exact bk_pick [0, 1, 2] rfl (hK19 ())
          · refine bk_iload_n hX 0 dX9_lastOf_72 rfl ?_
            refine bk_goto hX 77 dX9_lastOf_73 rfl ?_
            refine bk_istore_n hX (fun v22 => [(1, .int v22), (2, .int a17.2), (0, .ref (bk_r w 0))]) dX9_lastOf_77 (Nat.le_of_ble_eq_true rfl) (fun _ => rfl) (fun v22 => ?_)
            refine bk_iinc hX 1 (fun v23 => [(2, .int v23), (1, .int v22), (0, .ref (bk_r w 0))]) dX9_lastOf_78 rfl bk_ci_1 (Nat.le_of_ble_eq_true rfl) (fun _ => rfl) (fun v23 => ?_)
            refine bk_goto hX 45 dX9_lastOf_81 rfl ?_
            exact bk_pick [0, 1, 2] rfl (hK16 (v22, v23))
  · refine bk_pick [0, 1, 2] rfl (bk_r_loop (α := Int32 × Int32) (J := fun a => bk_At lyM w X 4 [(2, .int a.2), (1, .int a.1), (0, .ref (bk_r w 0))] [] σ) (v1, v2) (fun K5 hK5 a6 => ?_))
    refine bk_iload_n hX 0 dX9_lastOf_4 rfl ?_
    refine bk_aload_n hX 2 dX9_lastOf_5 rfl ?_
    refine bk_geti hX km_o rfl fl_X9_176 dX9_lastOf_6 ?_
    refine bk_icmp_ge hX 43 dX9_lastOf_9 rfl ?_ ?_
    · exact bk_pick [1, 2] rfl (hK3 a6.1)
    · refine bk_aload_n hX 2 dX9_lastOf_12 rfl ?_
      refine bk_geti hX km_o rfl fl_X9_194 dX9_lastOf_13 ?_
      refine bk_iload_n hX 0 dX9_lastOf_16 rfl ?_
      refine bk_callS_i hX [.int (σ 0 22), .int a6.2] [] yk_X9_isIn ys_X9_isIn lk_X9_197 rfl rfl (Nat.le_of_ble_eq_true rfl) ⟨Nat.le_of_ble_eq_true rfl, Nat.le_of_ble_eq_true rfl⟩ dX9_lastOf_17 (m_X9_isIn w) (bk_pu (fun r7 => ?_))
      refine bk_r_jn (α := Unit) (J := fun a => bk_At lyM w X 35 [(2, .int a6.2), (1, .int a6.1), (0, .ref (bk_r w 0))] [] σ) (fun a9 => ?_) (fun K8 hK8 => ?_)
      · refine bk_iload_n hX 1 dX9_lastOf_35 rfl ?_
        refine bk_istore_n hX (fun v13 => [(1, .int v13), (2, .int a6.2), (0, .ref (bk_r w 0))]) dX9_lastOf_36 (Nat.le_of_ble_eq_true rfl) (fun _ => rfl) (fun v13 => ?_)
        refine bk_iinc hX 1 (fun v14 => [(2, .int v14), (1, .int v13), (0, .ref (bk_r w 0))]) dX9_lastOf_37 rfl bk_ci_1 (Nat.le_of_ble_eq_true rfl) (fun _ => rfl) (fun v14 => ?_)
        refine bk_goto hX 4 dX9_lastOf_40 rfl ?_
        exact bk_pick [0, 1, 2] rfl (hK5 (v13, v14))
      · refine bk_if_ne hX 35 dX9_lastOf_20 rfl ?_ ?_
        · exact bk_pick [0, 1, 2] rfl (hK8 ())
        · refine bk_aload_n hX 2 dX9_lastOf_23 rfl ?_
          refine bk_iload_n hX 0 dX9_lastOf_24 rfl ?_
          refine bk_callV_i hX [.int a6.2] [] yk_X9_takes yv_X9_takes lk_X9_222 rfl rfl km_o rfl rfl (Nat.le_of_ble_eq_true rfl) ⟨Nat.le_of_ble_eq_true rfl, Nat.le_of_ble_eq_true rfl⟩ dX9_lastOf_25 (m_X9_takes w) (bk_pu (fun r10 => ?_))
          refine bk_if_le hX 35 dX9_lastOf_28 rfl ?_ ?_
          · exact bk_pick [0, 1, 2] rfl (hK8 ())
          · refine bk_iload_n hX 0 dX9_lastOf_31 rfl ?_
            refine bk_goto hX 36 dX9_lastOf_32 rfl ?_
            refine bk_istore_n hX (fun v11 => [(1, .int v11), (2, .int a6.2), (0, .ref (bk_r w 0))]) dX9_lastOf_36 (Nat.le_of_ble_eq_true rfl) (fun _ => rfl) (fun v11 => ?_)
            refine bk_iinc hX 1 (fun v12 => [(2, .int v12), (1, .int v11), (0, .ref (bk_r w 0))]) dX9_lastOf_37 rfl bk_ci_1 (Nat.le_of_ble_eq_true rfl) (fun _ => rfl) (fun v12 => ?_)
            refine bk_goto hX 4 dX9_lastOf_40 rfl ?_
            exact bk_pick [0, 1, 2] rfl (hK5 (v11, v12))

def w_X9_does (x1 : Int32) (x2 : Int32) (σ : bk_S) (post : bk_S → Prop) : Prop :=
  bk_lt (α := Int32) (0 : Int32) fun v1 =>
  bk_loop (α := Int32 × bk_S) (fun K2 a3 =>
    ((a3.2 0 16) ≤ a3.1 → post a3.2) ∧ (¬ (a3.2 0 16) ≤ a3.1 → (w_X9_isIn (a3.2 0 22) a3.1 (fun r4 =>
      (¬ r4 = x2 → (bk_lt (α := Int32) (a3.1 + (1 : Int32)) fun v5 =>
      K2 (v5, a3.2))) ∧ (r4 = x2 → (w_X9_takes a3.1 a3.2 (fun r6 =>
        bk_lt (α := Int32) r6 fun v7 =>
        bk_loop (α := Int32 × bk_S) (fun K8 a9 =>
          (a9.1 ≤ 0 → (bk_lt (α := Int32) (a3.1 + (1 : Int32)) fun v10 =>
          K2 (v10, a9.2))) ∧ (¬ a9.1 ≤ 0 → (w_X9_says x1 a3.1 a9.2 (fun σ11 =>
            bk_lt (α := Int32) (a9.1 + (-1 : Int32)) fun v12 =>
            K8 (v12, σ11))))) (v7, a3.2)))))))) (v1, σ)
set_option maxRecDepth 20000 in
theorem m_X9_does (w : bk_W) {x1 : Int32} {x2 : Int32} {σ : bk_S} {post : bk_S → Prop} : w_X9_does x1 x2 σ post → bk_Mv lyM w yX9_does cX9_does 5 3 70 [.ref (bk_r w 0), .int x1, .int x2] σ post := by
  intro h0
  refine bk_mv (by decide) (Nat.le_of_ble_eq_true rfl) (fun X hX hret => ?_)
  revert h0
  unfold w_X9_does
  show _ → bk_At lyM w X 0 [(0, .ref (bk_r w 0)), (1, .int x1), (2, .int x2)] [] σ
  refine bk_iconst hX bk_ci_0 dX9_does_0 ?_
  refine bk_istore_n hX (fun v1 => [(3, .int v1), (0, .ref (bk_r w 0)), (1, .int x1), (2, .int x2)]) dX9_does_1 (Nat.le_of_ble_eq_true rfl) (fun _ => rfl) (fun v1 => ?_)
  refine bk_pick [0, 1, 2, 3] rfl (bk_r_loop (α := Int32 × bk_S) (J := fun a => bk_At lyM w X 2 [(3, .int a.1), (0, .ref (bk_r w 0)), (1, .int x1), (2, .int x2)] [] a.2) (v1, σ) (fun K2 hK2 a3 => ?_))
  refine bk_iload_n hX 0 dX9_does_2 rfl ?_
  refine bk_aload_n hX 1 dX9_does_3 rfl ?_
  refine bk_geti hX km_o rfl fl_X9_176 dX9_does_4 ?_
  refine bk_icmp_ge hX 52 dX9_does_7 rfl ?_ ?_
  · exact fun z => hret _ _ _ dX9_does_52 z
  · refine bk_aload_n hX 1 dX9_does_10 rfl ?_
    refine bk_geti hX km_o rfl fl_X9_194 dX9_does_11 ?_
    refine bk_iload_n hX 0 dX9_does_14 rfl ?_
    refine bk_callS_i hX [.int (a3.2 0 22), .int a3.1] [] yk_X9_isIn ys_X9_isIn lk_X9_197 rfl rfl (Nat.le_of_ble_eq_true rfl) ⟨Nat.le_of_ble_eq_true rfl, Nat.le_of_ble_eq_true rfl⟩ dX9_does_15 (m_X9_isIn w) (bk_pu (fun r4 => ?_))
    refine bk_iload_n hX 3 dX9_does_18 rfl ?_
    refine bk_icmp_ne hX 46 dX9_does_19 rfl ?_ ?_
    · refine bk_iinc hX 0 (fun v5 => [(3, .int v5), (0, .ref (bk_r w 0)), (1, .int x1), (2, .int x2)]) dX9_does_46 rfl bk_ci_1 (Nat.le_of_ble_eq_true rfl) (fun _ => rfl) (fun v5 => ?_)
      refine bk_goto hX 2 dX9_does_49 rfl ?_
      exact bk_pick [0, 1, 2, 3] rfl (hK2 (v5, a3.2))
    · refine bk_aload_n hX 1 dX9_does_22 rfl ?_
      refine bk_iload_n hX 0 dX9_does_23 rfl ?_
      refine bk_callV_i hX [.int a3.1] [] yk_X9_takes yv_X9_takes lk_X9_222 rfl rfl km_o rfl rfl (Nat.le_of_ble_eq_true rfl) ⟨Nat.le_of_ble_eq_true rfl, Nat.le_of_ble_eq_true rfl⟩ dX9_does_24 (m_X9_takes w) (bk_pu (fun r6 => ?_))
      refine bk_istore hX (fun v7 => [(4, .int v7), (3, .int a3.1), (0, .ref (bk_r w 0)), (1, .int x1), (2, .int x2)]) dX9_does_27 (Nat.le_of_ble_eq_true rfl) (fun _ => rfl) (fun v7 => ?_)
      refine bk_pick [0, 1, 2, 3, 4] rfl (bk_r_loop (α := Int32 × bk_S) (J := fun a => bk_At lyM w X 29 [(4, .int a.1), (3, .int a3.1), (0, .ref (bk_r w 0)), (1, .int x1), (2, .int x2)] [] a.2) (v7, a3.2) (fun K8 hK8 a9 => ?_))
      refine bk_iload hX 0 dX9_does_29 rfl ?_
      refine bk_if_le hX 46 dX9_does_31 rfl ?_ ?_
      · refine bk_iinc hX 1 (fun v10 => [(3, .int v10), (4, .int a9.1), (0, .ref (bk_r w 0)), (1, .int x1), (2, .int x2)]) dX9_does_46 rfl bk_ci_1 (Nat.le_of_ble_eq_true rfl) (fun _ => rfl) (fun v10 => ?_)
        refine bk_goto hX 2 dX9_does_49 rfl ?_
        exact bk_pick [0, 2, 3, 4] rfl (hK2 (v10, a9.2))
      · refine bk_aload_n hX 2 dX9_does_34 rfl ?_
        refine bk_iload_n hX 3 dX9_does_35 rfl ?_
        refine bk_iload_n hX 1 dX9_does_36 rfl ?_
        refine bk_callV_v hX [.int x1, .int a3.1] [] yk_X9_says yv_X9_says lk_X9_225 rfl rfl km_o rfl rfl (Nat.le_of_ble_eq_true rfl) ⟨Nat.le_of_ble_eq_true rfl, Nat.le_of_ble_eq_true rfl⟩ dX9_does_37 (m_X9_says w) (fun σ11 => ?_)
        refine bk_iinc hX 0 (fun v12 => [(4, .int v12), (3, .int a3.1), (0, .ref (bk_r w 0)), (1, .int x1), (2, .int x2)]) dX9_does_40 rfl bk_ci_m1 (Nat.le_of_ble_eq_true rfl) (fun _ => rfl) (fun v12 => ?_)
        refine bk_goto hX 29 dX9_does_43 rfl ?_
        exact bk_pick [0, 1, 2, 3, 4] rfl (hK8 (v12, σ11))

def w_X9_goesBy (x1 : Int32) (σ : bk_S) (post : bk_S → Prop) : Prop :=
  w_X9_befalls x1 σ (fun σ1 =>
    bk_lt (α := bk_S) (bk_u σ1 0 24 (0 : Int32)) fun σ2 =>
    bk_lt (α := bk_S) (bk_u σ2 0 25 (0 : Int32)) fun σ3 =>
    bk_lt (α := bk_S) (bk_u σ3 0 26 (0 : Int32)) fun σ4 =>
    bk_lt (α := bk_S) (bk_u σ4 0 27 (0 : Int32)) fun σ5 =>
    bk_lt (α := Int32) (0 : Int32) fun v6 =>
    bk_jn (α := bk_S) (fun a8 =>
      bk_lt (α := Int32) (0 : Int32) fun v13 =>
      bk_jn (α := bk_S) (fun a15 =>
        bk_jn (α := bk_S) (fun a21 =>
          (¬ (a21 0 20) = 0 → post a21) ∧ ((a21 0 20) = 0 → ((¬ (a21 0 21) = 0 → post a21) ∧ ((a21 0 21) = 0 → (w_X9_lastOf a21 (fun r23 =>
            bk_lt (α := bk_S) (bk_u a21 0 23 r23) fun σ24 =>
            w_X9_does x1 (0 : Int32) σ24 (fun σ25 =>
              w_X9_does x1 (1 : Int32) σ25 (fun σ26 =>
                post σ26)))))))) (fun K20 =>
          (¬ (a15 0 21) = (1 : Int32) → K20 a15) ∧ ((a15 0 21) = (1 : Int32) → (w_X9_heatsUp a15 (fun σ22 =>
            K20 σ22))))) (fun K14 =>
        bk_loop (α := Int32 × bk_S) (fun K16 a17 =>
          ((12 : Int32) ≤ a17.1 → K14 a17.2) ∧ (¬ (12 : Int32) ≤ a17.1 → (vp_in (((12 : Int32) * x1) + a17.1) 144 ∧ bk_lt (α := bk_S) (bk_u a17.2 40 (Int32.toNatClampNeg (((12 : Int32) * x1) + a17.1)) (-1 : Int32)) fun σ18 =>
          bk_lt (α := Int32) (a17.1 + (1 : Int32)) fun v19 =>
          K16 (v19, σ18)))) (v13, a8))) (fun K7 =>
      bk_loop (α := Int32 × bk_S) (fun K9 a10 =>
        ((8 : Int32) ≤ a10.1 → K7 a10.2) ∧ (¬ (8 : Int32) ≤ a10.1 → (vp_in a10.1 8 ∧ bk_lt (α := bk_S) (bk_u a10.2 34 (Int32.toNatClampNeg a10.1) (0 : Int32)) fun σ11 =>
        bk_lt (α := Int32) (a10.1 + (1 : Int32)) fun v12 =>
        K9 (v12, σ11)))) (v6, σ5)))
set_option maxRecDepth 20000 in
theorem m_X9_goesBy (w : bk_W) {x1 : Int32} {σ : bk_S} {post : bk_S → Prop} : w_X9_goesBy x1 σ post → bk_Mv lyM w yX9_goesBy cX9_goesBy 3 4 94 [.ref (bk_r w 0), .int x1] σ post := by
  intro h0
  refine bk_mv (by decide) (Nat.le_of_ble_eq_true rfl) (fun X hX hret => ?_)
  revert h0
  unfold w_X9_goesBy
  show _ → bk_At lyM w X 0 [(0, .ref (bk_r w 0)), (1, .int x1)] [] σ
  refine bk_aload_n hX 0 dX9_goesBy_0 rfl ?_
  refine bk_iload_n hX 1 dX9_goesBy_1 rfl ?_
  refine bk_callV_v hX [.int x1] [] yk_X9_befalls yv_X9_befalls lk_X9_229 rfl rfl km_o rfl rfl (Nat.le_of_ble_eq_true rfl) ⟨Nat.le_of_ble_eq_true rfl, Nat.le_of_ble_eq_true rfl⟩ dX9_goesBy_2 (m_X9_befalls w) (fun σ1 => ?_)
  refine bk_aload_n hX 0 dX9_goesBy_5 rfl ?_
  refine bk_iconst hX bk_ci_0 dX9_goesBy_6 ?_
  refine bk_putI hX km_o rfl fp_X9_216 dX9_goesBy_7 (fun σ2 => ?_)
  refine bk_aload_n hX 0 dX9_goesBy_10 rfl ?_
  refine bk_iconst hX bk_ci_0 dX9_goesBy_11 ?_
  refine bk_putI hX km_o rfl fp_X9_207 dX9_goesBy_12 (fun σ3 => ?_)
  refine bk_aload_n hX 0 dX9_goesBy_15 rfl ?_
  refine bk_iconst hX bk_ci_0 dX9_goesBy_16 ?_
  refine bk_putI hX km_o rfl fp_X9_210 dX9_goesBy_17 (fun σ4 => ?_)
  refine bk_aload_n hX 0 dX9_goesBy_20 rfl ?_
  refine bk_iconst hX bk_ci_0 dX9_goesBy_21 ?_
  refine bk_putI hX km_o rfl fp_X9_213 dX9_goesBy_22 (fun σ5 => ?_)
  refine bk_iconst hX bk_ci_0 dX9_goesBy_25 ?_
  refine bk_istore_n hX (fun v6 => [(2, .int v6), (0, .ref (bk_r w 0)), (1, .int x1)]) dX9_goesBy_26 (Nat.le_of_ble_eq_true rfl) (fun _ => rfl) (fun v6 => ?_)
  refine bk_r_jn (α := bk_S) (J := fun a => bk_At lyM w X 46 [(0, .ref (bk_r w 0)), (1, .int x1)] [] a) (fun a8 => ?_) (fun K7 hK7 => ?_)
  · refine bk_iconst hX bk_ci_0 dX9_goesBy_46 ?_
    refine bk_istore_n hX (fun v13 => [(2, .int v13), (0, .ref (bk_r w 0)), (1, .int x1)]) dX9_goesBy_47 (Nat.le_of_ble_eq_true rfl) (fun _ => rfl) (fun v13 => ?_)
    refine bk_r_jn (α := bk_S) (J := fun a => bk_At lyM w X 72 [(0, .ref (bk_r w 0)), (1, .int x1)] [] a) (fun a15 => ?_) (fun K14 hK14 => ?_)
    · refine bk_aload_n hX 0 dX9_goesBy_72 rfl ?_
      refine bk_geti hX km_o rfl fl_X9_191 dX9_goesBy_73 ?_
      refine bk_iconst hX bk_ci_1 dX9_goesBy_76 ?_
      refine bk_r_jn (α := bk_S) (J := fun a => bk_At lyM w X 84 [(0, .ref (bk_r w 0)), (1, .int x1)] [] a) (fun a21 => ?_) (fun K20 hK20 => ?_)
      · refine bk_aload_n hX 0 dX9_goesBy_84 rfl ?_
        refine bk_geti hX km_o rfl fl_X9_188 dX9_goesBy_85 ?_
        refine bk_if_ne hX 118 dX9_goesBy_88 rfl ?_ ?_
        · exact fun z => hret _ _ _ dX9_goesBy_118 z
        · refine bk_aload_n hX 0 dX9_goesBy_91 rfl ?_
          refine bk_geti hX km_o rfl fl_X9_191 dX9_goesBy_92 ?_
          refine bk_if_ne hX 118 dX9_goesBy_95 rfl ?_ ?_
          · exact fun z => hret _ _ _ dX9_goesBy_118 z
          · refine bk_aload_n hX 0 dX9_goesBy_98 rfl ?_
            refine bk_aload_n hX 0 dX9_goesBy_99 rfl ?_
            refine bk_callV_i hX [] [.ref (bk_r w 0)] yk_X9_lastOf yv_X9_lastOf lk_X9_236 rfl rfl km_o rfl rfl (Nat.le_of_ble_eq_true rfl) ⟨Nat.le_of_ble_eq_true rfl, Nat.le_of_ble_eq_true rfl⟩ dX9_goesBy_100 (m_X9_lastOf w) (bk_pu (fun r23 => ?_))
            refine bk_putI hX km_o rfl fp_X9_219 dX9_goesBy_103 (fun σ24 => ?_)
            refine bk_aload_n hX 0 dX9_goesBy_106 rfl ?_
            refine bk_iload_n hX 1 dX9_goesBy_107 rfl ?_
            refine bk_iconst hX bk_ci_0 dX9_goesBy_108 ?_
            refine bk_callV_v hX [.int x1, .int (0 : Int32)] [] yk_X9_does yv_X9_does lk_X9_239 rfl rfl km_o rfl rfl (Nat.le_of_ble_eq_true rfl) ⟨Nat.le_of_ble_eq_true rfl, Nat.le_of_ble_eq_true rfl⟩ dX9_goesBy_109 (m_X9_does w) (fun σ25 => ?_)
            refine bk_aload_n hX 0 dX9_goesBy_112 rfl ?_
            refine bk_iload_n hX 1 dX9_goesBy_113 rfl ?_
            refine bk_iconst hX bk_ci_1 dX9_goesBy_114 ?_
            refine bk_callV_v hX [.int x1, .int (1 : Int32)] [] yk_X9_does yv_X9_does lk_X9_239 rfl rfl km_o rfl rfl (Nat.le_of_ble_eq_true rfl) ⟨Nat.le_of_ble_eq_true rfl, Nat.le_of_ble_eq_true rfl⟩ dX9_goesBy_115 (m_X9_does w) (fun σ26 => ?_)
            exact fun z => hret _ _ _ dX9_goesBy_118 z
      · refine bk_icmp_ne hX 84 dX9_goesBy_77 rfl ?_ ?_
        · exact bk_pick [0, 1] rfl (hK20 a15)
        · refine bk_aload_n hX 0 dX9_goesBy_80 rfl ?_
          refine bk_callV_v hX [] [] yk_X9_heatsUp yv_X9_heatsUp lk_X9_233 rfl rfl km_o rfl rfl (Nat.le_of_ble_eq_true rfl) ⟨Nat.le_of_ble_eq_true rfl, Nat.le_of_ble_eq_true rfl⟩ dX9_goesBy_81 (m_X9_heatsUp w) (fun σ22 => ?_)
          exact bk_pick [0, 1] rfl (hK20 σ22)
    · refine bk_pick [0, 1, 2] rfl (bk_r_loop (α := Int32 × bk_S) (J := fun a => bk_At lyM w X 48 [(2, .int a.1), (0, .ref (bk_r w 0)), (1, .int x1)] [] a.2) (v13, a8) (fun K16 hK16 a17 => ?_))
      refine bk_iload_n hX 0 dX9_goesBy_48 rfl ?_
      refine bk_bipush hX bk_cb_12 dX9_goesBy_49 ?_
      refine bk_icmp_ge hX 72 dX9_goesBy_51 rfl ?_ ?_
      · exact bk_pick [1, 2] rfl (hK14 a17.2)
      · refine bk_aload_n hX 1 dX9_goesBy_54 rfl ?_
        refine bk_getr hX km_o rfl fl_X9_67 dX9_goesBy_55 ?_
        refine bk_bipush hX bk_cb_12 dX9_goesBy_58 ?_
        refine bk_iload_n hX 2 dX9_goesBy_60 rfl ?_
        refine bk_imul hX dX9_goesBy_61 ?_
        refine bk_iload_n hX 0 dX9_goesBy_62 rfl ?_
        refine bk_iadd hX dX9_goesBy_63 ?_
        refine bk_iconst hX bk_ci_m1 dX9_goesBy_64 ?_
        refine bk_iastore hX km_40 dX9_goesBy_65 (fun σ18 => ?_)
        refine bk_iinc hX 0 (fun v19 => [(2, .int v19), (0, .ref (bk_r w 0)), (1, .int x1)]) dX9_goesBy_66 rfl bk_ci_1 (Nat.le_of_ble_eq_true rfl) (fun _ => rfl) (fun v19 => ?_)
        refine bk_goto hX 48 dX9_goesBy_69 rfl ?_
        exact bk_pick [0, 1, 2] rfl (hK16 (v19, σ18))
  · refine bk_pick [0, 1, 2] rfl (bk_r_loop (α := Int32 × bk_S) (J := fun a => bk_At lyM w X 27 [(2, .int a.1), (0, .ref (bk_r w 0)), (1, .int x1)] [] a.2) (v6, σ5) (fun K9 hK9 a10 => ?_))
    refine bk_iload_n hX 0 dX9_goesBy_27 rfl ?_
    refine bk_bipush hX bk_cb_8 dX9_goesBy_28 ?_
    refine bk_icmp_ge hX 46 dX9_goesBy_30 rfl ?_ ?_
    · exact bk_pick [1, 2] rfl (hK7 a10.2)
    · refine bk_aload_n hX 1 dX9_goesBy_33 rfl ?_
      refine bk_getr hX km_o rfl fl_X9_49 dX9_goesBy_34 ?_
      refine bk_iload_n hX 0 dX9_goesBy_37 rfl ?_
      refine bk_iconst hX bk_ci_0 dX9_goesBy_38 ?_
      refine bk_iastore hX km_34 dX9_goesBy_39 (fun σ11 => ?_)
      refine bk_iinc hX 0 (fun v12 => [(2, .int v12), (0, .ref (bk_r w 0)), (1, .int x1)]) dX9_goesBy_40 rfl bk_ci_1 (Nat.le_of_ble_eq_true rfl) (fun _ => rfl) (fun v12 => ?_)
      refine bk_goto hX 27 dX9_goesBy_43 rfl ?_
      exact bk_pick [0, 1, 2] rfl (hK9 (v12, σ11))

def w_X9_notes (x1 : Int32) (σ : bk_S) (post : bk_S → Prop) : Prop :=
  bk_lt (α := Int32) (0 : Int32) fun v1 =>
  vp_in x1 12 ∧ bk_lt (α := bk_S) (bk_u σ 42 (Int32.toNatClampNeg x1) (0 : Int32)) fun σ2 =>
  bk_lt (α := Int32) (0 : Int32) fun v3 =>
  bk_jn (α := Int32 × bk_S) (fun a5 =>
    vp_in ((4 : Int32) * x1) 48 ∧ bk_lt (α := bk_S) (bk_u a5.2 41 (Int32.toNatClampNeg ((4 : Int32) * x1)) (a5.2 0 25)) fun σ20 =>
    vp_in (((4 : Int32) * x1) + (1 : Int32)) 48 ∧ bk_lt (α := bk_S) (bk_u σ20 41 (Int32.toNatClampNeg (((4 : Int32) * x1) + (1 : Int32))) (σ20 0 26)) fun σ21 =>
    vp_in (((4 : Int32) * x1) + (2 : Int32)) 48 ∧ bk_lt (α := bk_S) (bk_u σ21 41 (Int32.toNatClampNeg (((4 : Int32) * x1) + (2 : Int32))) (σ21 0 27)) fun σ22 =>
    vp_in (((4 : Int32) * x1) + (3 : Int32)) 48 ∧ bk_lt (α := bk_S) (bk_u σ22 41 (Int32.toNatClampNeg (((4 : Int32) * x1) + (3 : Int32))) (σ22 0 24)) fun σ23 =>
    bk_lt (α := bk_S) (bk_u σ23 0 28 ((σ23 0 28) + (σ23 0 25))) fun σ24 =>
    bk_lt (α := bk_S) (bk_u σ24 0 29 ((σ24 0 29) + (σ24 0 26))) fun σ25 =>
    bk_lt (α := bk_S) (bk_u σ25 0 30 ((σ25 0 30) + (σ25 0 27))) fun σ26 =>
    bk_jn (α := Int32) (fun a28 =>
      bk_lt (α := bk_S) (bk_u σ26 0 31 a28) fun σ31 =>
      post σ31) (fun K27 =>
      bk_jn (α := Unit) (fun a30 =>
        K27 (σ26 0 31)) (fun K29 =>
        (¬ a5.1 = 0 → K29 ()) ∧ (a5.1 = 0 → ((¬ (σ26 0 31) = (-1 : Int32) → K29 ()) ∧ ((σ26 0 31) = (-1 : Int32) → K27 x1)))))) (fun K4 =>
    bk_loop (α := Int32 × Int32 × bk_S) (fun K6 a7 =>
      ((a7.2.2 0 12) ≤ a7.2.1 → K4 (a7.1, a7.2.2)) ∧ (¬ (a7.2.2 0 12) ≤ a7.2.1 → (vp_in a7.2.1 8 ∧ vp_in (((8 : Int32) * x1) + a7.2.1) 96 ∧ bk_lt (α := bk_S) (bk_u a7.2.2 38 (Int32.toNatClampNeg (((8 : Int32) * x1) + a7.2.1)) (a7.2.2 33 (Int32.toNatClampNeg a7.2.1))) fun σ8 =>
      vp_in a7.2.1 8 ∧ vp_in (((8 : Int32) * x1) + a7.2.1) 96 ∧ bk_lt (α := bk_S) (bk_u σ8 39 (Int32.toNatClampNeg (((8 : Int32) * x1) + a7.2.1)) (σ8 34 (Int32.toNatClampNeg a7.2.1))) fun σ9 =>
      vp_in a7.2.1 8 ∧ vp_in a7.2.1 8 ∧ vp_in a7.2.1 8 ∧ bk_lt (α := bk_S) (bk_u σ9 35 (Int32.toNatClampNeg a7.2.1) ((σ9 35 (Int32.toNatClampNeg a7.2.1)) + (σ9 34 (Int32.toNatClampNeg a7.2.1)))) fun σ10 =>
      w_X9_isOpen a7.2.1 σ10 (fun r11 =>
        bk_lt (α := Int32) (if r11 = 0 then (0 : Int32) else (1 : Int32)) fun a13 =>
        bk_lt (α := Int32) (a7.1 + a13) fun v14 =>
        vp_in x1 12 ∧ w_X9_isOpen a7.2.1 σ10 (fun r15 =>
          bk_lt (α := Int32) (if r15 = 0 then ((1 : Int32) <<< (a7.2.1 &&& 31)) else (0 : Int32)) fun a17 =>
          vp_in x1 12 ∧ bk_lt (α := bk_S) (bk_u σ10 42 (Int32.toNatClampNeg x1) ((σ10 42 (Int32.toNatClampNeg x1)) ||| a17)) fun σ18 =>
          bk_lt (α := Int32) (a7.2.1 + (1 : Int32)) fun v19 =>
          K6 (v14, v19, σ18)))))) (v1, v3, σ2))
set_option maxRecDepth 20000 in
theorem m_X9_notes (w : bk_W) {x1 : Int32} {σ : bk_S} {post : bk_S → Prop} : w_X9_notes x1 σ post → bk_Mv lyM w yX9_notes cX9_notes 4 1 21 [.ref (bk_r w 0), .int x1] σ post := by
  intro h0
  refine bk_mv (by decide) (Nat.le_of_ble_eq_true rfl) (fun X hX hret => ?_)
  revert h0
  unfold w_X9_notes
  show _ → bk_At lyM w X 0 [(0, .ref (bk_r w 0)), (1, .int x1)] [] σ
  refine bk_iconst hX bk_ci_0 dX9_notes_0 ?_
  refine bk_istore_n hX (fun v1 => [(2, .int v1), (0, .ref (bk_r w 0)), (1, .int x1)]) dX9_notes_1 (Nat.le_of_ble_eq_true rfl) (fun _ => rfl) (fun v1 => ?_)
  refine bk_aload_n hX 1 dX9_notes_2 rfl ?_
  refine bk_getr hX km_o rfl fl_X9_73 dX9_notes_3 ?_
  refine bk_iload_n hX 2 dX9_notes_6 rfl ?_
  refine bk_iconst hX bk_ci_0 dX9_notes_7 ?_
  refine bk_iastore hX km_42 dX9_notes_8 (fun σ2 => ?_)
  refine bk_iconst hX bk_ci_0 dX9_notes_9 ?_
  refine bk_istore_n hX (fun v3 => [(3, .int v3), (2, .int v1), (0, .ref (bk_r w 0)), (1, .int x1)]) dX9_notes_10 (Nat.le_of_ble_eq_true rfl) (fun _ => rfl) (fun v3 => ?_)
  refine bk_r_jn (α := Int32 × bk_S) (J := fun a => bk_At lyM w X 114 [(2, .int a.1), (0, .ref (bk_r w 0)), (1, .int x1)] [] a.2) (fun a5 => ?_) (fun K4 hK4 => ?_)
  · refine bk_aload_n hX 1 dX9_notes_114 rfl ?_
    refine bk_getr hX km_o rfl fl_X9_70 dX9_notes_115 ?_
    refine bk_iconst hX bk_ci_4 dX9_notes_118 ?_
    refine bk_iload_n hX 2 dX9_notes_119 rfl ?_
    refine bk_imul hX dX9_notes_120 ?_
    refine bk_aload_n hX 1 dX9_notes_121 rfl ?_
    refine bk_geti hX km_o rfl fl_X9_207 dX9_notes_122 ?_
    refine bk_iastore hX km_41 dX9_notes_125 (fun σ20 => ?_)
    refine bk_aload_n hX 1 dX9_notes_126 rfl ?_
    refine bk_getr hX km_o rfl fl_X9_70 dX9_notes_127 ?_
    refine bk_iconst hX bk_ci_4 dX9_notes_130 ?_
    refine bk_iload_n hX 2 dX9_notes_131 rfl ?_
    refine bk_imul hX dX9_notes_132 ?_
    refine bk_iconst hX bk_ci_1 dX9_notes_133 ?_
    refine bk_iadd hX dX9_notes_134 ?_
    refine bk_aload_n hX 1 dX9_notes_135 rfl ?_
    refine bk_geti hX km_o rfl fl_X9_210 dX9_notes_136 ?_
    refine bk_iastore hX km_41 dX9_notes_139 (fun σ21 => ?_)
    refine bk_aload_n hX 1 dX9_notes_140 rfl ?_
    refine bk_getr hX km_o rfl fl_X9_70 dX9_notes_141 ?_
    refine bk_iconst hX bk_ci_4 dX9_notes_144 ?_
    refine bk_iload_n hX 2 dX9_notes_145 rfl ?_
    refine bk_imul hX dX9_notes_146 ?_
    refine bk_iconst hX bk_ci_2 dX9_notes_147 ?_
    refine bk_iadd hX dX9_notes_148 ?_
    refine bk_aload_n hX 1 dX9_notes_149 rfl ?_
    refine bk_geti hX km_o rfl fl_X9_213 dX9_notes_150 ?_
    refine bk_iastore hX km_41 dX9_notes_153 (fun σ22 => ?_)
    refine bk_aload_n hX 1 dX9_notes_154 rfl ?_
    refine bk_getr hX km_o rfl fl_X9_70 dX9_notes_155 ?_
    refine bk_iconst hX bk_ci_4 dX9_notes_158 ?_
    refine bk_iload_n hX 2 dX9_notes_159 rfl ?_
    refine bk_imul hX dX9_notes_160 ?_
    refine bk_iconst hX bk_ci_3 dX9_notes_161 ?_
    refine bk_iadd hX dX9_notes_162 ?_
    refine bk_aload_n hX 1 dX9_notes_163 rfl ?_
    refine bk_geti hX km_o rfl fl_X9_216 dX9_notes_164 ?_
    refine bk_iastore hX km_41 dX9_notes_167 (fun σ23 => ?_)
    refine bk_aload_n hX 1 dX9_notes_168 rfl ?_
    refine bk_dup hX rfl dX9_notes_169 ?_
    refine bk_geti hX km_o rfl fl_X9_243 dX9_notes_170 ?_
    refine bk_aload_n hX 1 dX9_notes_173 rfl ?_
    refine bk_geti hX km_o rfl fl_X9_207 dX9_notes_174 ?_
    refine bk_iadd hX dX9_notes_177 ?_
    refine bk_putI hX km_o rfl fp_X9_243 dX9_notes_178 (fun σ24 => ?_)
    refine bk_aload_n hX 1 dX9_notes_181 rfl ?_
    refine bk_dup hX rfl dX9_notes_182 ?_
    refine bk_geti hX km_o rfl fl_X9_246 dX9_notes_183 ?_
    refine bk_aload_n hX 1 dX9_notes_186 rfl ?_
    refine bk_geti hX km_o rfl fl_X9_210 dX9_notes_187 ?_
    refine bk_iadd hX dX9_notes_190 ?_
    refine bk_putI hX km_o rfl fp_X9_246 dX9_notes_191 (fun σ25 => ?_)
    refine bk_aload_n hX 1 dX9_notes_194 rfl ?_
    refine bk_dup hX rfl dX9_notes_195 ?_
    refine bk_geti hX km_o rfl fl_X9_249 dX9_notes_196 ?_
    refine bk_aload_n hX 1 dX9_notes_199 rfl ?_
    refine bk_geti hX km_o rfl fl_X9_213 dX9_notes_200 ?_
    refine bk_iadd hX dX9_notes_203 ?_
    refine bk_putI hX km_o rfl fp_X9_249 dX9_notes_204 (fun σ26 => ?_)
    refine bk_aload_n hX 1 dX9_notes_207 rfl ?_
    refine bk_iload_n hX 0 dX9_notes_208 rfl ?_
    refine bk_r_jn (α := Int32) (J := fun a => bk_At lyM w X 228 [(2, .int a5.1), (0, .ref (bk_r w 0)), (1, .int x1)] [.int a, .ref (bk_r w 0)] σ26) (fun a28 => ?_) (fun K27 hK27 => ?_)
    · refine bk_putI hX km_o rfl fp_X9_252 dX9_notes_228 (fun σ31 => ?_)
      exact fun z => hret _ _ _ dX9_notes_231 z
    · refine bk_r_jn (α := Unit) (J := fun a => bk_At lyM w X 224 [(2, .int a5.1), (0, .ref (bk_r w 0)), (1, .int x1)] [.ref (bk_r w 0)] σ26) (fun a30 => ?_) (fun K29 hK29 => ?_)
      · refine bk_aload_n hX 1 dX9_notes_224 rfl ?_
        refine bk_geti hX km_o rfl fl_X9_252 dX9_notes_225 ?_
        exact bk_pick [0, 1, 2] rfl (hK27 (σ26 0 31))
      · refine bk_if_ne hX 224 dX9_notes_209 rfl ?_ ?_
        · exact bk_pick [0, 1, 2] rfl (hK29 ())
        · refine bk_aload_n hX 1 dX9_notes_212 rfl ?_
          refine bk_geti hX km_o rfl fl_X9_252 dX9_notes_213 ?_
          refine bk_iconst hX bk_ci_m1 dX9_notes_216 ?_
          refine bk_icmp_ne hX 224 dX9_notes_217 rfl ?_ ?_
          · exact bk_pick [0, 1, 2] rfl (hK29 ())
          · refine bk_iload_n hX 2 dX9_notes_220 rfl ?_
            refine bk_goto hX 228 dX9_notes_221 rfl ?_
            exact bk_pick [0, 1, 2] rfl (hK27 x1)
  · refine bk_pick [0, 1, 2, 3] rfl (bk_r_loop (α := Int32 × Int32 × bk_S) (J := fun a => bk_At lyM w X 11 [(3, .int a.2.1), (2, .int a.1), (0, .ref (bk_r w 0)), (1, .int x1)] [] a.2.2) (v1, v3, σ2) (fun K6 hK6 a7 => ?_))
    refine bk_iload_n hX 0 dX9_notes_11 rfl ?_
    refine bk_aload_n hX 2 dX9_notes_12 rfl ?_
    refine bk_geti hX km_o rfl fl_X9_173 dX9_notes_13 ?_
    refine bk_icmp_ge hX 114 dX9_notes_16 rfl ?_ ?_
    · exact bk_pick [1, 2, 3] rfl (hK4 (a7.1, a7.2.2))
    · refine bk_aload_n hX 2 dX9_notes_19 rfl ?_
      refine bk_getr hX km_o rfl fl_X9_61 dX9_notes_20 ?_
      refine bk_bipush hX bk_cb_8 dX9_notes_23 ?_
      refine bk_iload_n hX 3 dX9_notes_25 rfl ?_
      refine bk_imul hX dX9_notes_26 ?_
      refine bk_iload_n hX 0 dX9_notes_27 rfl ?_
      refine bk_iadd hX dX9_notes_28 ?_
      refine bk_aload_n hX 2 dX9_notes_29 rfl ?_
      refine bk_getr hX km_o rfl fl_X9_46 dX9_notes_30 ?_
      refine bk_iload_n hX 0 dX9_notes_33 rfl ?_
      refine bk_iaload hX km_33 dX9_notes_34 ?_
      refine bk_iastore hX km_38 dX9_notes_35 (fun σ8 => ?_)
      refine bk_aload_n hX 2 dX9_notes_36 rfl ?_
      refine bk_getr hX km_o rfl fl_X9_64 dX9_notes_37 ?_
      refine bk_bipush hX bk_cb_8 dX9_notes_40 ?_
      refine bk_iload_n hX 3 dX9_notes_42 rfl ?_
      refine bk_imul hX dX9_notes_43 ?_
      refine bk_iload_n hX 0 dX9_notes_44 rfl ?_
      refine bk_iadd hX dX9_notes_45 ?_
      refine bk_aload_n hX 2 dX9_notes_46 rfl ?_
      refine bk_getr hX km_o rfl fl_X9_49 dX9_notes_47 ?_
      refine bk_iload_n hX 0 dX9_notes_50 rfl ?_
      refine bk_iaload hX km_34 dX9_notes_51 ?_
      refine bk_iastore hX km_39 dX9_notes_52 (fun σ9 => ?_)
      refine bk_aload_n hX 2 dX9_notes_53 rfl ?_
      refine bk_getr hX km_o rfl fl_X9_52 dX9_notes_54 ?_
      refine bk_iload_n hX 0 dX9_notes_57 rfl ?_
      refine bk_dup2 hX rfl rfl dX9_notes_58 ?_
      refine bk_iaload hX km_35 dX9_notes_59 ?_
      refine bk_aload_n hX 2 dX9_notes_60 rfl ?_
      refine bk_getr hX km_o rfl fl_X9_49 dX9_notes_61 ?_
      refine bk_iload_n hX 0 dX9_notes_64 rfl ?_
      refine bk_iaload hX km_34 dX9_notes_65 ?_
      refine bk_iadd hX dX9_notes_66 ?_
      refine bk_iastore hX km_35 dX9_notes_67 (fun σ10 => ?_)
      refine bk_iload_n hX 1 dX9_notes_68 rfl ?_
      refine bk_aload_n hX 2 dX9_notes_69 rfl ?_
      refine bk_iload_n hX 0 dX9_notes_70 rfl ?_
      refine bk_callV_i hX [.int a7.2.1] [.int a7.1] yk_X9_isOpen yv_X9_isOpen lk_X9_201 rfl rfl km_o rfl rfl (Nat.le_of_ble_eq_true rfl) ⟨Nat.le_of_ble_eq_true rfl, Nat.le_of_ble_eq_true rfl⟩ dX9_notes_71 (m_X9_isOpen w) (bk_pu (fun r11 => ?_))
      refine bk_r_if (α := Int32) (F := fun K12 => (r11 = 0 → K12 (0 : Int32)) ∧ (¬ r11 = 0 → K12 (1 : Int32))) (fun K12 z => ⟨fun h0 => (bk_pos (K := K12) h0 z), fun h0 => (bk_neg (K := K12) h0 z)⟩) (J := fun a => bk_At lyM w X 82 [(3, .int a7.2.1), (2, .int a7.1), (0, .ref (bk_r w 0)), (1, .int x1)] [.int a, .int a7.1] σ10) (fun a13 => ?_) (fun K12 hK12 => ?_)
      · refine bk_iadd hX dX9_notes_82 ?_
        refine bk_istore_n hX (fun v14 => [(2, .int v14), (3, .int a7.2.1), (0, .ref (bk_r w 0)), (1, .int x1)]) dX9_notes_83 (Nat.le_of_ble_eq_true rfl) (fun _ => rfl) (fun v14 => ?_)
        refine bk_aload_n hX 2 dX9_notes_84 rfl ?_
        refine bk_getr hX km_o rfl fl_X9_73 dX9_notes_85 ?_
        refine bk_iload_n hX 3 dX9_notes_88 rfl ?_
        refine bk_dup2 hX rfl rfl dX9_notes_89 ?_
        refine bk_iaload hX km_42 dX9_notes_90 ?_
        refine bk_aload_n hX 2 dX9_notes_91 rfl ?_
        refine bk_iload_n hX 1 dX9_notes_92 rfl ?_
        refine bk_callV_i hX [.int a7.2.1] [.int (σ10 42 (Int32.toNatClampNeg x1)), .int x1, .ref (bk_r w 42)] yk_X9_isOpen yv_X9_isOpen lk_X9_201 rfl rfl km_o rfl rfl (Nat.le_of_ble_eq_true rfl) ⟨Nat.le_of_ble_eq_true rfl, Nat.le_of_ble_eq_true rfl⟩ dX9_notes_93 (m_X9_isOpen w) (bk_pu (fun r15 => ?_))
        refine bk_r_if (α := Int32) (F := fun K16 => (r15 = 0 → K16 ((1 : Int32) <<< (a7.2.1 &&& 31))) ∧ (¬ r15 = 0 → K16 (0 : Int32))) (fun K16 z => ⟨fun h0 => (bk_pos (K := K16) h0 z), fun h0 => (bk_neg (K := K16) h0 z)⟩) (J := fun a => bk_At lyM w X 106 [(2, .int v14), (3, .int a7.2.1), (0, .ref (bk_r w 0)), (1, .int x1)] [.int a, .int (σ10 42 (Int32.toNatClampNeg x1)), .int x1, .ref (bk_r w 42)] σ10) (fun a17 => ?_) (fun K16 hK16 => ?_)
        · refine bk_ior hX dX9_notes_106 ?_
          refine bk_iastore hX km_42 dX9_notes_107 (fun σ18 => ?_)
          refine bk_iinc hX 1 (fun v19 => [(3, .int v19), (2, .int v14), (0, .ref (bk_r w 0)), (1, .int x1)]) dX9_notes_108 rfl bk_ci_1 (Nat.le_of_ble_eq_true rfl) (fun _ => rfl) (fun v19 => ?_)
          refine bk_goto hX 11 dX9_notes_111 rfl ?_
          exact bk_pick [0, 1, 2, 3] rfl (hK6 (v14, v19, σ18))
        · refine bk_if_eq hX 103 dX9_notes_96 rfl ?_ ?_
          · refine bk_iconst hX bk_ci_1 dX9_notes_103 ?_
            refine bk_iload_n hX 1 dX9_notes_104 rfl ?_
            refine bk_ishl hX dX9_notes_105 ?_
            exact bk_pick [0, 1, 2, 3] rfl (hK16 ((1 : Int32) <<< (a7.2.1 &&& 31)))
          · refine bk_iconst hX bk_ci_0 dX9_notes_99 ?_
            refine bk_goto hX 106 dX9_notes_100 rfl ?_
            exact bk_pick [0, 1, 2, 3] rfl (hK16 (0 : Int32))
      · refine bk_if_eq hX 81 dX9_notes_74 rfl ?_ ?_
        · refine bk_iconst hX bk_ci_0 dX9_notes_81 ?_
          exact bk_pick [0, 1, 2, 3] rfl (hK12 (0 : Int32))
        · refine bk_iconst hX bk_ci_1 dX9_notes_77 ?_
          refine bk_goto hX 82 dX9_notes_78 rfl ?_
          exact bk_pick [0, 1, 2, 3] rfl (hK12 (1 : Int32))

def w_X9_runs (σ : bk_S) (post : bk_S → Prop) : Prop :=
  bk_lt (α := bk_S) (bk_u σ 0 28 (0 : Int32)) fun σ1 =>
  bk_lt (α := bk_S) (bk_u σ1 0 29 (0 : Int32)) fun σ2 =>
  bk_lt (α := bk_S) (bk_u σ2 0 30 (0 : Int32)) fun σ3 =>
  bk_lt (α := bk_S) (bk_u σ3 0 31 (-1 : Int32)) fun σ4 =>
  bk_lt (α := Int32) (0 : Int32) fun v5 =>
  bk_jn (α := bk_S) (fun a7 =>
    bk_lt (α := Int32) (0 : Int32) fun v17 =>
    bk_loop (α := Int32 × bk_S) (fun K18 a19 =>
      ((12 : Int32) ≤ a19.1 → post a19.2) ∧ (¬ (12 : Int32) ≤ a19.1 → (w_X9_goesBy a19.1 a19.2 (fun σ20 =>
        w_X9_notes a19.1 σ20 (fun σ21 =>
          w_X9_heatsUp σ21 (fun σ22 =>
            bk_lt (α := Int32) (a19.1 + (1 : Int32)) fun v23 =>
            K18 (v23, σ22))))))) (v17, a7)) (fun K6 =>
    bk_loop (α := Int32 × bk_S) (fun K8 a9 =>
      ((8 : Int32) ≤ a9.1 → K6 a9.2) ∧ (¬ (8 : Int32) ≤ a9.1 → (bk_jn (α := Int32) (fun a11 =>
        vp_in a9.1 8 ∧ bk_lt (α := bk_S) (bk_u a9.2 33 (Int32.toNatClampNeg a9.1) a11) fun σ12 =>
        vp_in a9.1 8 ∧ bk_lt (α := bk_S) (bk_u σ12 35 (Int32.toNatClampNeg a9.1) (0 : Int32)) fun σ13 =>
        vp_in a9.1 8 ∧ bk_lt (α := bk_S) (bk_u σ13 36 (Int32.toNatClampNeg a9.1) (-1 : Int32)) fun σ14 =>
        vp_in a9.1 8 ∧ bk_lt (α := bk_S) (bk_u σ14 37 (Int32.toNatClampNeg a9.1) (-1 : Int32)) fun σ15 =>
        bk_lt (α := Int32) (a9.1 + (1 : Int32)) fun v16 =>
        K8 (v16, σ15)) (fun K10 =>
        ((a9.2 0 12) ≤ a9.1 → K10 (0 : Int32)) ∧ (¬ (a9.2 0 12) ≤ a9.1 → (vp_in a9.1 8 ∧ K10 (a9.2 15 (Int32.toNatClampNeg a9.1)))))))) (v5, σ4))
set_option maxRecDepth 20000 in
theorem m_X9_runs (w : bk_W) {σ : bk_S} {post : bk_S → Prop} : w_X9_runs σ post → bk_Mv lyM w yX9_runs cX9_runs 2 5 116 [.ref (bk_r w 0)] σ post := by
  intro h0
  refine bk_mv (by decide) (Nat.le_of_ble_eq_true rfl) (fun X hX hret => ?_)
  revert h0
  unfold w_X9_runs
  show _ → bk_At lyM w X 0 [(0, .ref (bk_r w 0))] [] σ
  refine bk_aload_n hX 0 dX9_runs_0 rfl ?_
  refine bk_iconst hX bk_ci_0 dX9_runs_1 ?_
  refine bk_putI hX km_o rfl fp_X9_243 dX9_runs_2 (fun σ1 => ?_)
  refine bk_aload_n hX 0 dX9_runs_5 rfl ?_
  refine bk_iconst hX bk_ci_0 dX9_runs_6 ?_
  refine bk_putI hX km_o rfl fp_X9_246 dX9_runs_7 (fun σ2 => ?_)
  refine bk_aload_n hX 0 dX9_runs_10 rfl ?_
  refine bk_iconst hX bk_ci_0 dX9_runs_11 ?_
  refine bk_putI hX km_o rfl fp_X9_249 dX9_runs_12 (fun σ3 => ?_)
  refine bk_aload_n hX 0 dX9_runs_15 rfl ?_
  refine bk_iconst hX bk_ci_m1 dX9_runs_16 ?_
  refine bk_putI hX km_o rfl fp_X9_252 dX9_runs_17 (fun σ4 => ?_)
  refine bk_iconst hX bk_ci_0 dX9_runs_20 ?_
  refine bk_istore_n hX (fun v5 => [(1, .int v5), (0, .ref (bk_r w 0))]) dX9_runs_21 (Nat.le_of_ble_eq_true rfl) (fun _ => rfl) (fun v5 => ?_)
  refine bk_r_jn (α := bk_S) (J := fun a => bk_At lyM w X 79 [(0, .ref (bk_r w 0))] [] a) (fun a7 => ?_) (fun K6 hK6 => ?_)
  · refine bk_iconst hX bk_ci_0 dX9_runs_79 ?_
    refine bk_istore_n hX (fun v17 => [(1, .int v17), (0, .ref (bk_r w 0))]) dX9_runs_80 (Nat.le_of_ble_eq_true rfl) (fun _ => rfl) (fun v17 => ?_)
    refine bk_pick [0, 1] rfl (bk_r_loop (α := Int32 × bk_S) (J := fun a => bk_At lyM w X 81 [(1, .int a.1), (0, .ref (bk_r w 0))] [] a.2) (v17, a7) (fun K18 hK18 a19 => ?_))
    refine bk_iload_n hX 0 dX9_runs_81 rfl ?_
    refine bk_bipush hX bk_cb_12 dX9_runs_82 ?_
    refine bk_icmp_ge hX 107 dX9_runs_84 rfl ?_ ?_
    · exact fun z => hret _ _ _ dX9_runs_107 z
    · refine bk_aload_n hX 1 dX9_runs_87 rfl ?_
      refine bk_iload_n hX 0 dX9_runs_88 rfl ?_
      refine bk_callV_v hX [.int a19.1] [] yk_X9_goesBy yv_X9_goesBy lk_X9_255 rfl rfl km_o rfl rfl (Nat.le_of_ble_eq_true rfl) ⟨Nat.le_of_ble_eq_true rfl, Nat.le_of_ble_eq_true rfl⟩ dX9_runs_89 (m_X9_goesBy w) (fun σ20 => ?_)
      refine bk_aload_n hX 1 dX9_runs_92 rfl ?_
      refine bk_iload_n hX 0 dX9_runs_93 rfl ?_
      refine bk_callV_v hX [.int a19.1] [] yk_X9_notes yv_X9_notes lk_X9_258 rfl rfl km_o rfl rfl (Nat.le_of_ble_eq_true rfl) ⟨Nat.le_of_ble_eq_true rfl, Nat.le_of_ble_eq_true rfl⟩ dX9_runs_94 (m_X9_notes w) (fun σ21 => ?_)
      refine bk_aload_n hX 1 dX9_runs_97 rfl ?_
      refine bk_callV_v hX [] [] yk_X9_heatsUp yv_X9_heatsUp lk_X9_233 rfl rfl km_o rfl rfl (Nat.le_of_ble_eq_true rfl) ⟨Nat.le_of_ble_eq_true rfl, Nat.le_of_ble_eq_true rfl⟩ dX9_runs_98 (m_X9_heatsUp w) (fun σ22 => ?_)
      refine bk_iinc hX 0 (fun v23 => [(1, .int v23), (0, .ref (bk_r w 0))]) dX9_runs_101 rfl bk_ci_1 (Nat.le_of_ble_eq_true rfl) (fun _ => rfl) (fun v23 => ?_)
      refine bk_goto hX 81 dX9_runs_104 rfl ?_
      exact bk_pick [0, 1] rfl (hK18 (v23, σ22))
  · refine bk_pick [0, 1] rfl (bk_r_loop (α := Int32 × bk_S) (J := fun a => bk_At lyM w X 22 [(1, .int a.1), (0, .ref (bk_r w 0))] [] a.2) (v5, σ4) (fun K8 hK8 a9 => ?_))
    refine bk_iload_n hX 0 dX9_runs_22 rfl ?_
    refine bk_bipush hX bk_cb_8 dX9_runs_23 ?_
    refine bk_icmp_ge hX 79 dX9_runs_25 rfl ?_ ?_
    · exact bk_pick [1] rfl (hK6 a9.2)
    · refine bk_aload_n hX 1 dX9_runs_28 rfl ?_
      refine bk_getr hX km_o rfl fl_X9_46 dX9_runs_29 ?_
      refine bk_iload_n hX 0 dX9_runs_32 rfl ?_
      refine bk_iload_n hX 0 dX9_runs_33 rfl ?_
      refine bk_aload_n hX 1 dX9_runs_34 rfl ?_
      refine bk_geti hX km_o rfl fl_X9_173 dX9_runs_35 ?_
      refine bk_r_jn (α := Int32) (J := fun a => bk_At lyM w X 51 [(1, .int a9.1), (0, .ref (bk_r w 0))] [.int a, .int a9.1, .ref (bk_r w 33)] a9.2) (fun a11 => ?_) (fun K10 hK10 => ?_)
      · refine bk_iastore hX km_33 dX9_runs_51 (fun σ12 => ?_)
        refine bk_aload_n hX 1 dX9_runs_52 rfl ?_
        refine bk_getr hX km_o rfl fl_X9_52 dX9_runs_53 ?_
        refine bk_iload_n hX 0 dX9_runs_56 rfl ?_
        refine bk_iconst hX bk_ci_0 dX9_runs_57 ?_
        refine bk_iastore hX km_35 dX9_runs_58 (fun σ13 => ?_)
        refine bk_aload_n hX 1 dX9_runs_59 rfl ?_
        refine bk_getr hX km_o rfl fl_X9_55 dX9_runs_60 ?_
        refine bk_iload_n hX 0 dX9_runs_63 rfl ?_
        refine bk_iconst hX bk_ci_m1 dX9_runs_64 ?_
        refine bk_iastore hX km_36 dX9_runs_65 (fun σ14 => ?_)
        refine bk_aload_n hX 1 dX9_runs_66 rfl ?_
        refine bk_getr hX km_o rfl fl_X9_58 dX9_runs_67 ?_
        refine bk_iload_n hX 0 dX9_runs_70 rfl ?_
        refine bk_iconst hX bk_ci_m1 dX9_runs_71 ?_
        refine bk_iastore hX km_37 dX9_runs_72 (fun σ15 => ?_)
        refine bk_iinc hX 0 (fun v16 => [(1, .int v16), (0, .ref (bk_r w 0))]) dX9_runs_73 rfl bk_ci_1 (Nat.le_of_ble_eq_true rfl) (fun _ => rfl) (fun v16 => ?_)
        refine bk_goto hX 22 dX9_runs_76 rfl ?_
        exact bk_pick [0, 1] rfl (hK8 (v16, σ15))
      · refine bk_icmp_ge hX 50 dX9_runs_38 rfl ?_ ?_
        · refine bk_iconst hX bk_ci_0 dX9_runs_50 ?_
          exact bk_pick [0, 1] rfl (hK10 (0 : Int32))
        · refine bk_aload_n hX 1 dX9_runs_41 rfl ?_
          refine bk_getr hX km_o rfl fl_X9_40 dX9_runs_42 ?_
          refine bk_iload_n hX 0 dX9_runs_45 rfl ?_
          refine bk_iaload hX km_15 dX9_runs_46 ?_
          refine bk_goto hX 51 dX9_runs_47 rfl ?_
          exact bk_pick [0, 1] rfl (hK10 (a9.2 15 (Int32.toNatClampNeg a9.1)))

def w_X9_runsTold (σ : bk_S) (post : bk_S → Prop) : Prop :=
  w_X9_asTold σ (fun σ1 =>
    w_X9_runs σ1 (fun σ2 =>
      post σ2))
set_option maxRecDepth 20000 in
theorem m_X9_runsTold (w : bk_W) {σ : bk_S} {post : bk_S → Prop} : w_X9_runsTold σ post → bk_Mv lyM w yX9_runsTold cX9_runsTold 1 6 137 [.ref (bk_r w 0)] σ post := by
  intro h0
  refine bk_mv (by decide) (Nat.le_of_ble_eq_true rfl) (fun X hX hret => ?_)
  revert h0
  unfold w_X9_runsTold
  show _ → bk_At lyM w X 0 [(0, .ref (bk_r w 0))] [] σ
  refine bk_aload_n hX 0 dX9_runsTold_0 rfl ?_
  refine bk_callV_v hX [] [] yk_X9_asTold yv_X9_asTold lk_X9_261 rfl rfl km_o rfl rfl (Nat.le_of_ble_eq_true rfl) ⟨Nat.le_of_ble_eq_true rfl, Nat.le_of_ble_eq_true rfl⟩ dX9_runsTold_1 (m_X9_asTold w) (fun σ1 => ?_)
  refine bk_aload_n hX 0 dX9_runsTold_4 rfl ?_
  refine bk_callV_v hX [] [] yk_X9_runs yv_X9_runs lk_X9_264 rfl rfl km_o rfl rfl (Nat.le_of_ble_eq_true rfl) ⟨Nat.le_of_ble_eq_true rfl, Nat.le_of_ble_eq_true rfl⟩ dX9_runsTold_5 (m_X9_runs w) (fun σ2 => ?_)
  exact fun z => hret _ _ _ dX9_runsTold_8 z

def w_X9_heatOf (x1 : Int32) (x2 : Int32) (x3 : Int32) (σ : bk_S) (post : Int32 → bk_S → Prop) : Prop :=
  w_X9_runsTold σ (fun σ1 =>
    (¬ x3 = 0 → (vp_in (((8 : Int32) * x1) + x2) 96 ∧ post (σ1 39 (Int32.toNatClampNeg (((8 : Int32) * x1) + x2))) σ1)) ∧ (x3 = 0 → (vp_in (((8 : Int32) * x1) + x2) 96 ∧ post (σ1 38 (Int32.toNatClampNeg (((8 : Int32) * x1) + x2))) σ1)))
set_option maxRecDepth 20000 in
theorem m_X9_heatOf (w : bk_W) {x1 : Int32} {x2 : Int32} {x3 : Int32} {σ : bk_S} {post : Int32 → bk_S → Prop} : w_X9_heatOf x1 x2 x3 σ post → bk_Mi lyM w yX9_heatOf cX9_heatOf 4 .int 7 157 [.ref (bk_r w 0), .int x1, .int x2, .int x3] σ post := by
  intro h0
  refine bk_mi (by decide) (Nat.le_of_ble_eq_true rfl) (fun X hX hret => ?_)
  revert h0
  unfold w_X9_heatOf
  show _ → bk_At lyM w X 0 [(0, .ref (bk_r w 0)), (1, .int x1), (2, .int x2), (3, .int x3)] [] σ
  refine bk_aload_n hX 0 dX9_heatOf_0 rfl ?_
  refine bk_callV_v hX [] [] yk_X9_runsTold yv_X9_runsTold lk_X9_267 rfl rfl km_o rfl rfl (Nat.le_of_ble_eq_true rfl) ⟨Nat.le_of_ble_eq_true rfl, Nat.le_of_ble_eq_true rfl⟩ dX9_heatOf_1 (m_X9_runsTold w) (fun σ1 => ?_)
  refine bk_iload_n hX 3 dX9_heatOf_4 rfl ?_
  refine bk_if_ne hX 22 dX9_heatOf_5 rfl ?_ ?_
  · refine bk_aload_n hX 0 dX9_heatOf_22 rfl ?_
    refine bk_getr hX km_o rfl fl_X9_64 dX9_heatOf_23 ?_
    refine bk_bipush hX bk_cb_8 dX9_heatOf_26 ?_
    refine bk_iload_n hX 1 dX9_heatOf_28 rfl ?_
    refine bk_imul hX dX9_heatOf_29 ?_
    refine bk_iload_n hX 2 dX9_heatOf_30 rfl ?_
    refine bk_iadd hX dX9_heatOf_31 ?_
    refine bk_iaload hX km_39 dX9_heatOf_32 ?_
    exact fun z => hret _ _ _ _ dX9_heatOf_33 rfl z
  · refine bk_aload_n hX 0 dX9_heatOf_8 rfl ?_
    refine bk_getr hX km_o rfl fl_X9_61 dX9_heatOf_9 ?_
    refine bk_bipush hX bk_cb_8 dX9_heatOf_12 ?_
    refine bk_iload_n hX 1 dX9_heatOf_14 rfl ?_
    refine bk_imul hX dX9_heatOf_15 ?_
    refine bk_iload_n hX 2 dX9_heatOf_16 rfl ?_
    refine bk_iadd hX dX9_heatOf_17 ?_
    refine bk_iaload hX km_38 dX9_heatOf_18 ?_
    refine bk_goto hX 33 dX9_heatOf_19 rfl ?_
    exact fun z => hret _ _ _ _ dX9_heatOf_33 rfl z

def w_X9_heat (x1 : Int32) (x2 : Int32) (x3 : Int32) (σ : bk_S) (post : Int32 → bk_S → Prop) : Prop :=
  w_X9_isTwelve x1 (fun r1 =>
    bk_jn (α := bk_S) (fun a3 =>
      post (-2 : Int32) a3) (fun K2 =>
      (r1 = 0 → K2 σ) ∧ (¬ r1 = 0 → (w_X9_isThing x2 σ (fun r4 σ5 =>
        (r4 = 0 → K2 σ5) ∧ (¬ r4 = 0 → (w_X9_isTwo x3 (fun r6 =>
          (r6 = 0 → K2 σ5) ∧ (¬ r6 = 0 → (w_X9_heatOf x1 x2 x3 σ5 (fun r7 σ8 =>
            post r7 σ8)))))))))))
set_option maxRecDepth 20000 in
theorem m_X9_heat (w : bk_W) {x1 : Int32} {x2 : Int32} {x3 : Int32} {σ : bk_S} {post : Int32 → bk_S → Prop} : w_X9_heat x1 x2 x3 σ post → bk_Mi lyM w yX9_heat cX9_heat 4 .int 8 180 [.ref (bk_r w 0), .int x1, .int x2, .int x3] σ post := by
  intro h0
  refine bk_mi (by decide) (Nat.le_of_ble_eq_true rfl) (fun X hX hret => ?_)
  revert h0
  unfold w_X9_heat
  show _ → bk_At lyM w X 0 [(0, .ref (bk_r w 0)), (1, .int x1), (2, .int x2), (3, .int x3)] [] σ
  refine bk_iload_n hX 1 dX9_heat_0 rfl ?_
  refine bk_callS_i hX [.int x1] [] yk_X9_isTwelve ys_X9_isTwelve lk_X9_157 rfl rfl (Nat.le_of_ble_eq_true rfl) ⟨Nat.le_of_ble_eq_true rfl, Nat.le_of_ble_eq_true rfl⟩ dX9_heat_1 (m_X9_isTwelve w) (bk_pu (fun r1 => ?_))
  refine bk_r_jn (α := bk_S) (J := fun a => bk_At lyM w X 32 [(0, .ref (bk_r w 0)), (1, .int x1), (2, .int x2), (3, .int x3)] [] a) (fun a3 => ?_) (fun K2 hK2 => ?_)
  · refine bk_bipush hX bk_cb_m2 dX9_heat_32 ?_
    exact fun z => hret _ _ _ _ dX9_heat_34 rfl z
  · refine bk_if_eq hX 32 dX9_heat_4 rfl ?_ ?_
    · exact bk_pick [0, 1, 2, 3] rfl (hK2 σ)
    · refine bk_aload_n hX 0 dX9_heat_7 rfl ?_
      refine bk_iload_n hX 2 dX9_heat_8 rfl ?_
      refine bk_callV_i hX [.int x2] [] yk_X9_isThing yv_X9_isThing lk_X9_148 rfl rfl km_o rfl rfl (Nat.le_of_ble_eq_true rfl) ⟨Nat.le_of_ble_eq_true rfl, Nat.le_of_ble_eq_true rfl⟩ dX9_heat_9 (m_X9_isThing w) (fun r4 σ5 => ?_)
      refine bk_if_eq hX 32 dX9_heat_12 rfl ?_ ?_
      · exact bk_pick [0, 1, 2, 3] rfl (hK2 σ5)
      · refine bk_iload_n hX 3 dX9_heat_15 rfl ?_
        refine bk_callS_i hX [.int x3] [] yk_X9_isTwo ys_X9_isTwo lk_X9_113 rfl rfl (Nat.le_of_ble_eq_true rfl) ⟨Nat.le_of_ble_eq_true rfl, Nat.le_of_ble_eq_true rfl⟩ dX9_heat_16 (m_X9_isTwo w) (bk_pu (fun r6 => ?_))
        refine bk_if_eq hX 32 dX9_heat_19 rfl ?_ ?_
        · exact bk_pick [0, 1, 2, 3] rfl (hK2 σ5)
        · refine bk_aload_n hX 0 dX9_heat_22 rfl ?_
          refine bk_iload_n hX 1 dX9_heat_23 rfl ?_
          refine bk_iload_n hX 2 dX9_heat_24 rfl ?_
          refine bk_iload_n hX 3 dX9_heat_25 rfl ?_
          refine bk_callV_i hX [.int x1, .int x2, .int x3] [] yk_X9_heatOf yv_X9_heatOf lk_X9_270 rfl rfl km_o rfl rfl (Nat.le_of_ble_eq_true rfl) ⟨Nat.le_of_ble_eq_true rfl, Nat.le_of_ble_eq_true rfl⟩ dX9_heat_26 (m_X9_heatOf w) (fun r7 σ8 => ?_)
          refine bk_goto hX 34 dX9_heat_29 rfl ?_
          exact fun z => hret _ _ _ _ dX9_heat_34 rfl z

def w_X9_saidOf (x1 : Int32) (x2 : Int32) (σ : bk_S) (post : Int32 → bk_S → Prop) : Prop :=
  w_X9_runsTold σ (fun σ1 =>
    vp_in (((12 : Int32) * x1) + x2) 144 ∧ post (σ1 40 (Int32.toNatClampNeg (((12 : Int32) * x1) + x2))) σ1)
set_option maxRecDepth 20000 in
theorem m_X9_saidOf (w : bk_W) {x1 : Int32} {x2 : Int32} {σ : bk_S} {post : Int32 → bk_S → Prop} : w_X9_saidOf x1 x2 σ post → bk_Mi lyM w yX9_saidOf cX9_saidOf 3 .int 7 157 [.ref (bk_r w 0), .int x1, .int x2] σ post := by
  intro h0
  refine bk_mi (by decide) (Nat.le_of_ble_eq_true rfl) (fun X hX hret => ?_)
  revert h0
  unfold w_X9_saidOf
  show _ → bk_At lyM w X 0 [(0, .ref (bk_r w 0)), (1, .int x1), (2, .int x2)] [] σ
  refine bk_aload_n hX 0 dX9_saidOf_0 rfl ?_
  refine bk_callV_v hX [] [] yk_X9_runsTold yv_X9_runsTold lk_X9_267 rfl rfl km_o rfl rfl (Nat.le_of_ble_eq_true rfl) ⟨Nat.le_of_ble_eq_true rfl, Nat.le_of_ble_eq_true rfl⟩ dX9_saidOf_1 (m_X9_runsTold w) (fun σ1 => ?_)
  refine bk_aload_n hX 0 dX9_saidOf_4 rfl ?_
  refine bk_getr hX km_o rfl fl_X9_67 dX9_saidOf_5 ?_
  refine bk_bipush hX bk_cb_12 dX9_saidOf_8 ?_
  refine bk_iload_n hX 1 dX9_saidOf_10 rfl ?_
  refine bk_imul hX dX9_saidOf_11 ?_
  refine bk_iload_n hX 2 dX9_saidOf_12 rfl ?_
  refine bk_iadd hX dX9_saidOf_13 ?_
  refine bk_iaload hX km_40 dX9_saidOf_14 ?_
  exact fun z => hret _ _ _ _ dX9_saidOf_15 rfl z

def w_X9_said (x1 : Int32) (x2 : Int32) (σ : bk_S) (post : Int32 → bk_S → Prop) : Prop :=
  w_X9_isTwelve x1 (fun r1 =>
    bk_jn (α := bk_S) (fun a3 =>
      post (-2 : Int32) a3) (fun K2 =>
      (r1 = 0 → K2 σ) ∧ (¬ r1 = 0 → (w_X9_isHook x2 σ (fun r4 σ5 =>
        (r4 = 0 → K2 σ5) ∧ (¬ r4 = 0 → (w_X9_saidOf x1 x2 σ5 (fun r6 σ7 =>
          post r6 σ7))))))))
set_option maxRecDepth 20000 in
theorem m_X9_said (w : bk_W) {x1 : Int32} {x2 : Int32} {σ : bk_S} {post : Int32 → bk_S → Prop} : w_X9_said x1 x2 σ post → bk_Mi lyM w yX9_said cX9_said 3 .int 8 179 [.ref (bk_r w 0), .int x1, .int x2] σ post := by
  intro h0
  refine bk_mi (by decide) (Nat.le_of_ble_eq_true rfl) (fun X hX hret => ?_)
  revert h0
  unfold w_X9_said
  show _ → bk_At lyM w X 0 [(0, .ref (bk_r w 0)), (1, .int x1), (2, .int x2)] [] σ
  refine bk_iload_n hX 1 dX9_said_0 rfl ?_
  refine bk_callS_i hX [.int x1] [] yk_X9_isTwelve ys_X9_isTwelve lk_X9_157 rfl rfl (Nat.le_of_ble_eq_true rfl) ⟨Nat.le_of_ble_eq_true rfl, Nat.le_of_ble_eq_true rfl⟩ dX9_said_1 (m_X9_isTwelve w) (bk_pu (fun r1 => ?_))
  refine bk_r_jn (α := bk_S) (J := fun a => bk_At lyM w X 24 [(0, .ref (bk_r w 0)), (1, .int x1), (2, .int x2)] [] a) (fun a3 => ?_) (fun K2 hK2 => ?_)
  · refine bk_bipush hX bk_cb_m2 dX9_said_24 ?_
    exact fun z => hret _ _ _ _ dX9_said_26 rfl z
  · refine bk_if_eq hX 24 dX9_said_4 rfl ?_ ?_
    · exact bk_pick [0, 1, 2] rfl (hK2 σ)
    · refine bk_aload_n hX 0 dX9_said_7 rfl ?_
      refine bk_iload_n hX 2 dX9_said_8 rfl ?_
      refine bk_callV_i hX [.int x2] [] yk_X9_isHook yv_X9_isHook lk_X9_145 rfl rfl km_o rfl rfl (Nat.le_of_ble_eq_true rfl) ⟨Nat.le_of_ble_eq_true rfl, Nat.le_of_ble_eq_true rfl⟩ dX9_said_9 (m_X9_isHook w) (fun r4 σ5 => ?_)
      refine bk_if_eq hX 24 dX9_said_12 rfl ?_ ?_
      · exact bk_pick [0, 1, 2] rfl (hK2 σ5)
      · refine bk_aload_n hX 0 dX9_said_15 rfl ?_
        refine bk_iload_n hX 1 dX9_said_16 rfl ?_
        refine bk_iload_n hX 2 dX9_said_17 rfl ?_
        refine bk_callV_i hX [.int x1, .int x2] [] yk_X9_saidOf yv_X9_saidOf lk_X9_273 rfl rfl km_o rfl rfl (Nat.le_of_ble_eq_true rfl) ⟨Nat.le_of_ble_eq_true rfl, Nat.le_of_ble_eq_true rfl⟩ dX9_said_18 (m_X9_saidOf w) (fun r6 σ7 => ?_)
        refine bk_goto hX 26 dX9_said_21 rfl ?_
        exact fun z => hret _ _ _ _ dX9_said_26 rfl z

def w_X9_atOf (x1 : Int32) (x2 : Int32) (σ : bk_S) (post : Int32 → bk_S → Prop) : Prop :=
  w_X9_runsTold σ (fun σ1 =>
    vp_in (((4 : Int32) * x1) + x2) 48 ∧ post (σ1 41 (Int32.toNatClampNeg (((4 : Int32) * x1) + x2))) σ1)
set_option maxRecDepth 20000 in
theorem m_X9_atOf (w : bk_W) {x1 : Int32} {x2 : Int32} {σ : bk_S} {post : Int32 → bk_S → Prop} : w_X9_atOf x1 x2 σ post → bk_Mi lyM w yX9_atOf cX9_atOf 3 .int 7 157 [.ref (bk_r w 0), .int x1, .int x2] σ post := by
  intro h0
  refine bk_mi (by decide) (Nat.le_of_ble_eq_true rfl) (fun X hX hret => ?_)
  revert h0
  unfold w_X9_atOf
  show _ → bk_At lyM w X 0 [(0, .ref (bk_r w 0)), (1, .int x1), (2, .int x2)] [] σ
  refine bk_aload_n hX 0 dX9_atOf_0 rfl ?_
  refine bk_callV_v hX [] [] yk_X9_runsTold yv_X9_runsTold lk_X9_267 rfl rfl km_o rfl rfl (Nat.le_of_ble_eq_true rfl) ⟨Nat.le_of_ble_eq_true rfl, Nat.le_of_ble_eq_true rfl⟩ dX9_atOf_1 (m_X9_runsTold w) (fun σ1 => ?_)
  refine bk_aload_n hX 0 dX9_atOf_4 rfl ?_
  refine bk_getr hX km_o rfl fl_X9_70 dX9_atOf_5 ?_
  refine bk_iconst hX bk_ci_4 dX9_atOf_8 ?_
  refine bk_iload_n hX 1 dX9_atOf_9 rfl ?_
  refine bk_imul hX dX9_atOf_10 ?_
  refine bk_iload_n hX 2 dX9_atOf_11 rfl ?_
  refine bk_iadd hX dX9_atOf_12 ?_
  refine bk_iaload hX km_41 dX9_atOf_13 ?_
  exact fun z => hret _ _ _ _ dX9_atOf_14 rfl z

def w_X9_at (x1 : Int32) (x2 : Int32) (σ : bk_S) (post : Int32 → bk_S → Prop) : Prop :=
  w_X9_isTwelve x1 (fun r1 =>
    bk_jn (α := Unit) (fun a3 =>
      post (-2 : Int32) σ) (fun K2 =>
      (r1 = 0 → K2 ()) ∧ (¬ r1 = 0 → (w_X9_in x2 (0 : Int32) (3 : Int32) (fun r4 =>
        (r4 = 0 → K2 ()) ∧ (¬ r4 = 0 → (w_X9_atOf x1 x2 σ (fun r5 σ6 =>
          post r5 σ6))))))))
set_option maxRecDepth 20000 in
theorem m_X9_at (w : bk_W) {x1 : Int32} {x2 : Int32} {σ : bk_S} {post : Int32 → bk_S → Prop} : w_X9_at x1 x2 σ post → bk_Mi lyM w yX9_at cX9_at 3 .int 8 179 [.ref (bk_r w 0), .int x1, .int x2] σ post := by
  intro h0
  refine bk_mi (by decide) (Nat.le_of_ble_eq_true rfl) (fun X hX hret => ?_)
  revert h0
  unfold w_X9_at
  show _ → bk_At lyM w X 0 [(0, .ref (bk_r w 0)), (1, .int x1), (2, .int x2)] [] σ
  refine bk_iload_n hX 1 dX9_at_0 rfl ?_
  refine bk_callS_i hX [.int x1] [] yk_X9_isTwelve ys_X9_isTwelve lk_X9_157 rfl rfl (Nat.le_of_ble_eq_true rfl) ⟨Nat.le_of_ble_eq_true rfl, Nat.le_of_ble_eq_true rfl⟩ dX9_at_1 (m_X9_isTwelve w) (bk_pu (fun r1 => ?_))
  refine bk_r_jn (α := Unit) (J := fun a => bk_At lyM w X 25 [(0, .ref (bk_r w 0)), (1, .int x1), (2, .int x2)] [] σ) (fun a3 => ?_) (fun K2 hK2 => ?_)
  · refine bk_bipush hX bk_cb_m2 dX9_at_25 ?_
    exact fun z => hret _ _ _ _ dX9_at_27 rfl z
  · refine bk_if_eq hX 25 dX9_at_4 rfl ?_ ?_
    · exact bk_pick [0, 1, 2] rfl (hK2 ())
    · refine bk_iload_n hX 2 dX9_at_7 rfl ?_
      refine bk_iconst hX bk_ci_0 dX9_at_8 ?_
      refine bk_iconst hX bk_ci_3 dX9_at_9 ?_
      refine bk_callS_i hX [.int x2, .int (0 : Int32), .int (3 : Int32)] [] yk_X9_in ys_X9_in lk_X9_109 rfl rfl (Nat.le_of_ble_eq_true rfl) ⟨Nat.le_of_ble_eq_true rfl, Nat.le_of_ble_eq_true rfl⟩ dX9_at_10 (m_X9_in w) (bk_pu (fun r4 => ?_))
      refine bk_if_eq hX 25 dX9_at_13 rfl ?_ ?_
      · exact bk_pick [0, 1, 2] rfl (hK2 ())
      · refine bk_aload_n hX 0 dX9_at_16 rfl ?_
        refine bk_iload_n hX 1 dX9_at_17 rfl ?_
        refine bk_iload_n hX 2 dX9_at_18 rfl ?_
        refine bk_callV_i hX [.int x1, .int x2] [] yk_X9_atOf yv_X9_atOf lk_X9_276 rfl rfl km_o rfl rfl (Nat.le_of_ble_eq_true rfl) ⟨Nat.le_of_ble_eq_true rfl, Nat.le_of_ble_eq_true rfl⟩ dX9_at_19 (m_X9_atOf w) (fun r5 σ6 => ?_)
        refine bk_goto hX 27 dX9_at_22 rfl ?_
        exact fun z => hret _ _ _ _ dX9_at_27 rfl z

def w_X9_settledOf (x1 : Int32) (σ : bk_S) (post : Int32 → bk_S → Prop) : Prop :=
  w_X9_runsTold σ (fun σ1 =>
    vp_in x1 8 ∧ post (σ1 36 (Int32.toNatClampNeg x1)) σ1)
set_option maxRecDepth 20000 in
theorem m_X9_settledOf (w : bk_W) {x1 : Int32} {σ : bk_S} {post : Int32 → bk_S → Prop} : w_X9_settledOf x1 σ post → bk_Mi lyM w yX9_settledOf cX9_settledOf 2 .int 7 157 [.ref (bk_r w 0), .int x1] σ post := by
  intro h0
  refine bk_mi (by decide) (Nat.le_of_ble_eq_true rfl) (fun X hX hret => ?_)
  revert h0
  unfold w_X9_settledOf
  show _ → bk_At lyM w X 0 [(0, .ref (bk_r w 0)), (1, .int x1)] [] σ
  refine bk_aload_n hX 0 dX9_settledOf_0 rfl ?_
  refine bk_callV_v hX [] [] yk_X9_runsTold yv_X9_runsTold lk_X9_267 rfl rfl km_o rfl rfl (Nat.le_of_ble_eq_true rfl) ⟨Nat.le_of_ble_eq_true rfl, Nat.le_of_ble_eq_true rfl⟩ dX9_settledOf_1 (m_X9_runsTold w) (fun σ1 => ?_)
  refine bk_aload_n hX 0 dX9_settledOf_4 rfl ?_
  refine bk_getr hX km_o rfl fl_X9_55 dX9_settledOf_5 ?_
  refine bk_iload_n hX 1 dX9_settledOf_8 rfl ?_
  refine bk_iaload hX km_36 dX9_settledOf_9 ?_
  exact fun z => hret _ _ _ _ dX9_settledOf_10 rfl z

def w_X9_settled (x1 : Int32) (σ : bk_S) (post : Int32 → bk_S → Prop) : Prop :=
  w_X9_isThing x1 σ (fun r1 σ2 =>
    (r1 = 0 → post (-2 : Int32) σ2) ∧ (¬ r1 = 0 → (w_X9_settledOf x1 σ2 (fun r3 σ4 =>
      post r3 σ4))))
set_option maxRecDepth 20000 in
theorem m_X9_settled (w : bk_W) {x1 : Int32} {σ : bk_S} {post : Int32 → bk_S → Prop} : w_X9_settled x1 σ post → bk_Mi lyM w yX9_settled cX9_settled 2 .int 8 178 [.ref (bk_r w 0), .int x1] σ post := by
  intro h0
  refine bk_mi (by decide) (Nat.le_of_ble_eq_true rfl) (fun X hX hret => ?_)
  revert h0
  unfold w_X9_settled
  show _ → bk_At lyM w X 0 [(0, .ref (bk_r w 0)), (1, .int x1)] [] σ
  refine bk_aload_n hX 0 dX9_settled_0 rfl ?_
  refine bk_iload_n hX 1 dX9_settled_1 rfl ?_
  refine bk_callV_i hX [.int x1] [] yk_X9_isThing yv_X9_isThing lk_X9_148 rfl rfl km_o rfl rfl (Nat.le_of_ble_eq_true rfl) ⟨Nat.le_of_ble_eq_true rfl, Nat.le_of_ble_eq_true rfl⟩ dX9_settled_2 (m_X9_isThing w) (fun r1 σ2 => ?_)
  refine bk_if_eq hX 16 dX9_settled_5 rfl ?_ ?_
  · refine bk_bipush hX bk_cb_m2 dX9_settled_16 ?_
    exact fun z => hret _ _ _ _ dX9_settled_18 rfl z
  · refine bk_aload_n hX 0 dX9_settled_8 rfl ?_
    refine bk_iload_n hX 1 dX9_settled_9 rfl ?_
    refine bk_callV_i hX [.int x1] [] yk_X9_settledOf yv_X9_settledOf lk_X9_279 rfl rfl km_o rfl rfl (Nat.le_of_ble_eq_true rfl) ⟨Nat.le_of_ble_eq_true rfl, Nat.le_of_ble_eq_true rfl⟩ dX9_settled_10 (m_X9_settledOf w) (fun r3 σ4 => ?_)
    refine bk_goto hX 18 dX9_settled_13 rfl ?_
    exact fun z => hret _ _ _ _ dX9_settled_18 rfl z

def w_X9_manySettled (σ : bk_S) (post : Int32 → Prop) : Prop :=
  bk_lt (α := Int32) (0 : Int32) fun v1 =>
  bk_lt (α := Int32) (0 : Int32) fun v2 =>
  bk_loop (α := Int32 × Int32) (fun K3 a4 =>
    ((σ 0 12) ≤ a4.2 → post a4.1) ∧ (¬ (σ 0 12) ≤ a4.2 → (w_X9_isOpen a4.2 σ (fun r5 =>
      bk_lt (α := Int32) (if r5 = 0 then (1 : Int32) else (0 : Int32)) fun a7 =>
      bk_lt (α := Int32) (a4.1 + a7) fun v8 =>
      bk_lt (α := Int32) (a4.2 + (1 : Int32)) fun v9 =>
      K3 (v8, v9))))) (v1, v2)
set_option maxRecDepth 20000 in
theorem m_X9_manySettled (w : bk_W) {σ : bk_S} {post : Int32 → Prop} : w_X9_manySettled σ post → bk_Mi lyM w yX9_manySettled cX9_manySettled 3 .int 1 21 [.ref (bk_r w 0)] σ (fun r σ1 => post r ∧ σ1 = σ) := by
  intro h0
  refine bk_mi (by decide) (Nat.le_of_ble_eq_true rfl) (fun X hX hret => ?_)
  revert h0
  unfold w_X9_manySettled
  show _ → bk_At lyM w X 0 [(0, .ref (bk_r w 0))] [] σ
  refine bk_iconst hX bk_ci_0 dX9_manySettled_0 ?_
  refine bk_istore_n hX (fun v1 => [(1, .int v1), (0, .ref (bk_r w 0))]) dX9_manySettled_1 (Nat.le_of_ble_eq_true rfl) (fun _ => rfl) (fun v1 => ?_)
  refine bk_iconst hX bk_ci_0 dX9_manySettled_2 ?_
  refine bk_istore_n hX (fun v2 => [(2, .int v2), (1, .int v1), (0, .ref (bk_r w 0))]) dX9_manySettled_3 (Nat.le_of_ble_eq_true rfl) (fun _ => rfl) (fun v2 => ?_)
  refine bk_pick [0, 1, 2] rfl (bk_r_loop (α := Int32 × Int32) (J := fun a => bk_At lyM w X 4 [(2, .int a.2), (1, .int a.1), (0, .ref (bk_r w 0))] [] σ) (v1, v2) (fun K3 hK3 a4 => ?_))
  refine bk_iload_n hX 0 dX9_manySettled_4 rfl ?_
  refine bk_aload_n hX 2 dX9_manySettled_5 rfl ?_
  refine bk_geti hX km_o rfl fl_X9_173 dX9_manySettled_6 ?_
  refine bk_icmp_ge hX 34 dX9_manySettled_9 rfl ?_ ?_
  · refine bk_iload_n hX 1 dX9_manySettled_34 rfl ?_
    exact fun z => hret _ _ _ _ dX9_manySettled_35 rfl ⟨z, rfl⟩
  · refine bk_iload_n hX 1 dX9_manySettled_12 rfl ?_
    refine bk_aload_n hX 2 dX9_manySettled_13 rfl ?_
    refine bk_iload_n hX 0 dX9_manySettled_14 rfl ?_
    refine bk_callV_i hX [.int a4.2] [.int a4.1] yk_X9_isOpen yv_X9_isOpen lk_X9_201 rfl rfl km_o rfl rfl (Nat.le_of_ble_eq_true rfl) ⟨Nat.le_of_ble_eq_true rfl, Nat.le_of_ble_eq_true rfl⟩ dX9_manySettled_15 (m_X9_isOpen w) (bk_pu (fun r5 => ?_))
    refine bk_r_if (α := Int32) (F := fun K6 => (r5 = 0 → K6 (1 : Int32)) ∧ (¬ r5 = 0 → K6 (0 : Int32))) (fun K6 z => ⟨fun h0 => (bk_pos (K := K6) h0 z), fun h0 => (bk_neg (K := K6) h0 z)⟩) (J := fun a => bk_At lyM w X 26 [(2, .int a4.2), (1, .int a4.1), (0, .ref (bk_r w 0))] [.int a, .int a4.1] σ) (fun a7 => ?_) (fun K6 hK6 => ?_)
    · refine bk_iadd hX dX9_manySettled_26 ?_
      refine bk_istore_n hX (fun v8 => [(1, .int v8), (2, .int a4.2), (0, .ref (bk_r w 0))]) dX9_manySettled_27 (Nat.le_of_ble_eq_true rfl) (fun _ => rfl) (fun v8 => ?_)
      refine bk_iinc hX 1 (fun v9 => [(2, .int v9), (1, .int v8), (0, .ref (bk_r w 0))]) dX9_manySettled_28 rfl bk_ci_1 (Nat.le_of_ble_eq_true rfl) (fun _ => rfl) (fun v9 => ?_)
      refine bk_goto hX 4 dX9_manySettled_31 rfl ?_
      exact bk_pick [0, 1, 2] rfl (hK3 (v8, v9))
    · refine bk_if_eq hX 25 dX9_manySettled_18 rfl ?_ ?_
      · refine bk_iconst hX bk_ci_1 dX9_manySettled_25 ?_
        exact bk_pick [0, 1, 2] rfl (hK6 (1 : Int32))
      · refine bk_iconst hX bk_ci_0 dX9_manySettled_21 ?_
        refine bk_goto hX 26 dX9_manySettled_22 rfl ?_
        exact bk_pick [0, 1, 2] rfl (hK6 (0 : Int32))

def w_X9_sumOf (x1 : Int32) (σ : bk_S) (post : Int32 → bk_S → Prop) : Prop :=
  w_X9_runsTold σ (fun σ1 =>
    (¬ x1 = 0 → ((¬ x1 = (1 : Int32) → ((¬ x1 = (2 : Int32) → post (σ1 0 30) σ1) ∧ (x1 = (2 : Int32) → post (σ1 0 29) σ1))) ∧ (x1 = (1 : Int32) → post (σ1 0 28) σ1))) ∧ (x1 = 0 → (w_X9_manySettled σ1 (fun r2 =>
      post r2 σ1))))
set_option maxRecDepth 20000 in
theorem m_X9_sumOf (w : bk_W) {x1 : Int32} {σ : bk_S} {post : Int32 → bk_S → Prop} : w_X9_sumOf x1 σ post → bk_Mi lyM w yX9_sumOf cX9_sumOf 2 .int 7 157 [.ref (bk_r w 0), .int x1] σ post := by
  intro h0
  refine bk_mi (by decide) (Nat.le_of_ble_eq_true rfl) (fun X hX hret => ?_)
  revert h0
  unfold w_X9_sumOf
  show _ → bk_At lyM w X 0 [(0, .ref (bk_r w 0)), (1, .int x1)] [] σ
  refine bk_aload_n hX 0 dX9_sumOf_0 rfl ?_
  refine bk_callV_v hX [] [] yk_X9_runsTold yv_X9_runsTold lk_X9_267 rfl rfl km_o rfl rfl (Nat.le_of_ble_eq_true rfl) ⟨Nat.le_of_ble_eq_true rfl, Nat.le_of_ble_eq_true rfl⟩ dX9_sumOf_1 (m_X9_runsTold w) (fun σ1 => ?_)
  refine bk_iload_n hX 1 dX9_sumOf_4 rfl ?_
  refine bk_if_ne hX 15 dX9_sumOf_5 rfl ?_ ?_
  · refine bk_iload_n hX 1 dX9_sumOf_15 rfl ?_
    refine bk_iconst hX bk_ci_1 dX9_sumOf_16 ?_
    refine bk_icmp_ne hX 27 dX9_sumOf_17 rfl ?_ ?_
    · refine bk_iload_n hX 1 dX9_sumOf_27 rfl ?_
      refine bk_iconst hX bk_ci_2 dX9_sumOf_28 ?_
      refine bk_icmp_ne hX 39 dX9_sumOf_29 rfl ?_ ?_
      · refine bk_aload_n hX 0 dX9_sumOf_39 rfl ?_
        refine bk_geti hX km_o rfl fl_X9_249 dX9_sumOf_40 ?_
        exact fun z => hret _ _ _ _ dX9_sumOf_43 rfl z
      · refine bk_aload_n hX 0 dX9_sumOf_32 rfl ?_
        refine bk_geti hX km_o rfl fl_X9_246 dX9_sumOf_33 ?_
        refine bk_goto hX 43 dX9_sumOf_36 rfl ?_
        exact fun z => hret _ _ _ _ dX9_sumOf_43 rfl z
    · refine bk_aload_n hX 0 dX9_sumOf_20 rfl ?_
      refine bk_geti hX km_o rfl fl_X9_243 dX9_sumOf_21 ?_
      refine bk_goto hX 43 dX9_sumOf_24 rfl ?_
      exact fun z => hret _ _ _ _ dX9_sumOf_43 rfl z
  · refine bk_aload_n hX 0 dX9_sumOf_8 rfl ?_
    refine bk_callV_i hX [] [] yk_X9_manySettled yv_X9_manySettled lk_X9_282 rfl rfl km_o rfl rfl (Nat.le_of_ble_eq_true rfl) ⟨Nat.le_of_ble_eq_true rfl, Nat.le_of_ble_eq_true rfl⟩ dX9_sumOf_9 (m_X9_manySettled w) (bk_pu (fun r2 => ?_))
    refine bk_goto hX 43 dX9_sumOf_12 rfl ?_
    exact fun z => hret _ _ _ _ dX9_sumOf_43 rfl z

def w_X9_sum (x1 : Int32) (σ : bk_S) (post : Int32 → bk_S → Prop) : Prop :=
  w_X9_in x1 (0 : Int32) (3 : Int32) (fun r1 =>
    (r1 = 0 → post (-2 : Int32) σ) ∧ (¬ r1 = 0 → (w_X9_sumOf x1 σ (fun r2 σ3 =>
      post r2 σ3))))
set_option maxRecDepth 20000 in
theorem m_X9_sum (w : bk_W) {x1 : Int32} {σ : bk_S} {post : Int32 → bk_S → Prop} : w_X9_sum x1 σ post → bk_Mi lyM w yX9_sum cX9_sum 2 .int 8 178 [.ref (bk_r w 0), .int x1] σ post := by
  intro h0
  refine bk_mi (by decide) (Nat.le_of_ble_eq_true rfl) (fun X hX hret => ?_)
  revert h0
  unfold w_X9_sum
  show _ → bk_At lyM w X 0 [(0, .ref (bk_r w 0)), (1, .int x1)] [] σ
  refine bk_iload_n hX 1 dX9_sum_0 rfl ?_
  refine bk_iconst hX bk_ci_0 dX9_sum_1 ?_
  refine bk_iconst hX bk_ci_3 dX9_sum_2 ?_
  refine bk_callS_i hX [.int x1, .int (0 : Int32), .int (3 : Int32)] [] yk_X9_in ys_X9_in lk_X9_109 rfl rfl (Nat.le_of_ble_eq_true rfl) ⟨Nat.le_of_ble_eq_true rfl, Nat.le_of_ble_eq_true rfl⟩ dX9_sum_3 (m_X9_in w) (bk_pu (fun r1 => ?_))
  refine bk_if_eq hX 17 dX9_sum_6 rfl ?_ ?_
  · refine bk_bipush hX bk_cb_m2 dX9_sum_17 ?_
    exact fun z => hret _ _ _ _ dX9_sum_19 rfl z
  · refine bk_aload_n hX 0 dX9_sum_9 rfl ?_
    refine bk_iload_n hX 1 dX9_sum_10 rfl ?_
    refine bk_callV_i hX [.int x1] [] yk_X9_sumOf yv_X9_sumOf lk_X9_285 rfl rfl km_o rfl rfl (Nat.le_of_ble_eq_true rfl) ⟨Nat.le_of_ble_eq_true rfl, Nat.le_of_ble_eq_true rfl⟩ dX9_sum_11 (m_X9_sumOf w) (fun r2 σ3 => ?_)
    refine bk_goto hX 19 dX9_sum_14 rfl ?_
    exact fun z => hret _ _ _ _ dX9_sum_19 rfl z

def w_X9_peaceOf (σ : bk_S) (post : Int32 → bk_S → Prop) : Prop :=
  w_X9_runsTold σ (fun σ1 =>
    post (σ1 0 31) σ1)
set_option maxRecDepth 20000 in
theorem m_X9_peaceOf (w : bk_W) {σ : bk_S} {post : Int32 → bk_S → Prop} : w_X9_peaceOf σ post → bk_Mi lyM w yX9_peaceOf cX9_peaceOf 1 .int 7 157 [.ref (bk_r w 0)] σ post := by
  intro h0
  refine bk_mi (by decide) (Nat.le_of_ble_eq_true rfl) (fun X hX hret => ?_)
  revert h0
  unfold w_X9_peaceOf
  show _ → bk_At lyM w X 0 [(0, .ref (bk_r w 0))] [] σ
  refine bk_aload_n hX 0 dX9_peaceOf_0 rfl ?_
  refine bk_callV_v hX [] [] yk_X9_runsTold yv_X9_runsTold lk_X9_267 rfl rfl km_o rfl rfl (Nat.le_of_ble_eq_true rfl) ⟨Nat.le_of_ble_eq_true rfl, Nat.le_of_ble_eq_true rfl⟩ dX9_peaceOf_1 (m_X9_runsTold w) (fun σ1 => ?_)
  refine bk_aload_n hX 0 dX9_peaceOf_4 rfl ?_
  refine bk_geti hX km_o rfl fl_X9_252 dX9_peaceOf_5 ?_
  exact fun z => hret _ _ _ _ dX9_peaceOf_8 rfl z

def w_X9_peace (σ : bk_S) (post : Int32 → bk_S → Prop) : Prop :=
  w_X9_peaceOf σ (fun r1 σ2 =>
    post r1 σ2)
set_option maxRecDepth 20000 in
theorem m_X9_peace (w : bk_W) {σ : bk_S} {post : Int32 → bk_S → Prop} : w_X9_peace σ post → bk_Mi lyM w yX9_peace cX9_peace 1 .int 8 177 [.ref (bk_r w 0)] σ post := by
  intro h0
  refine bk_mi (by decide) (Nat.le_of_ble_eq_true rfl) (fun X hX hret => ?_)
  revert h0
  unfold w_X9_peace
  show _ → bk_At lyM w X 0 [(0, .ref (bk_r w 0))] [] σ
  refine bk_aload_n hX 0 dX9_peace_0 rfl ?_
  refine bk_callV_i hX [] [] yk_X9_peaceOf yv_X9_peaceOf lk_X9_288 rfl rfl km_o rfl rfl (Nat.le_of_ble_eq_true rfl) ⟨Nat.le_of_ble_eq_true rfl, Nat.le_of_ble_eq_true rfl⟩ dX9_peace_1 (m_X9_peaceOf w) (fun r1 σ2 => ?_)
  exact fun z => hret _ _ _ _ dX9_peace_4 rfl z

def w_X9_longestOf (σ : bk_S) (post : Int32 → bk_S → Prop) : Prop :=
  w_X9_runsTold σ (fun σ1 =>
    bk_lt (α := Int32) (-1 : Int32) fun v2 =>
    bk_lt (α := Int32) (0 : Int32) fun v3 =>
    bk_lt (α := Int32) (0 : Int32) fun v4 =>
    bk_loop (α := Int32 × Int32 × Int32) (fun K5 a6 =>
      ((σ1 0 4) ≤ a6.2.2 → post a6.1 σ1) ∧ (¬ (σ1 0 4) ≤ a6.2.2 → (vp_in a6.2.2 8 ∧ bk_lt (α := Int32) (if (σ1 35 (Int32.toNatClampNeg a6.2.2)) ≤ a6.2.1 then a6.1 else a6.2.2) fun a8 =>
      bk_lt (α := Int32) a8 fun v9 =>
      vp_in a6.2.2 8 ∧ ((σ1 35 (Int32.toNatClampNeg a6.2.2)) ≤ a6.2.1 → (bk_lt (α := Int32) a6.2.1 fun v10 =>
      bk_lt (α := Int32) (a6.2.2 + (1 : Int32)) fun v11 =>
      K5 (v9, v10, v11))) ∧ (¬ (σ1 35 (Int32.toNatClampNeg a6.2.2)) ≤ a6.2.1 → (vp_in a6.2.2 8 ∧ bk_lt (α := Int32) (σ1 35 (Int32.toNatClampNeg a6.2.2)) fun v12 =>
      bk_lt (α := Int32) (a6.2.2 + (1 : Int32)) fun v13 =>
      K5 (v9, v12, v13)))))) (v2, v3, v4))
set_option maxRecDepth 20000 in
theorem m_X9_longestOf (w : bk_W) {σ : bk_S} {post : Int32 → bk_S → Prop} : w_X9_longestOf σ post → bk_Mi lyM w yX9_longestOf cX9_longestOf 4 .int 7 157 [.ref (bk_r w 0)] σ post := by
  intro h0
  refine bk_mi (by decide) (Nat.le_of_ble_eq_true rfl) (fun X hX hret => ?_)
  revert h0
  unfold w_X9_longestOf
  show _ → bk_At lyM w X 0 [(0, .ref (bk_r w 0))] [] σ
  refine bk_aload_n hX 0 dX9_longestOf_0 rfl ?_
  refine bk_callV_v hX [] [] yk_X9_runsTold yv_X9_runsTold lk_X9_267 rfl rfl km_o rfl rfl (Nat.le_of_ble_eq_true rfl) ⟨Nat.le_of_ble_eq_true rfl, Nat.le_of_ble_eq_true rfl⟩ dX9_longestOf_1 (m_X9_runsTold w) (fun σ1 => ?_)
  refine bk_iconst hX bk_ci_m1 dX9_longestOf_4 ?_
  refine bk_istore_n hX (fun v2 => [(1, .int v2), (0, .ref (bk_r w 0))]) dX9_longestOf_5 (Nat.le_of_ble_eq_true rfl) (fun _ => rfl) (fun v2 => ?_)
  refine bk_iconst hX bk_ci_0 dX9_longestOf_6 ?_
  refine bk_istore_n hX (fun v3 => [(2, .int v3), (1, .int v2), (0, .ref (bk_r w 0))]) dX9_longestOf_7 (Nat.le_of_ble_eq_true rfl) (fun _ => rfl) (fun v3 => ?_)
  refine bk_iconst hX bk_ci_0 dX9_longestOf_8 ?_
  refine bk_istore_n hX (fun v4 => [(3, .int v4), (2, .int v3), (1, .int v2), (0, .ref (bk_r w 0))]) dX9_longestOf_9 (Nat.le_of_ble_eq_true rfl) (fun _ => rfl) (fun v4 => ?_)
  refine bk_pick [0, 1, 2, 3] rfl (bk_r_loop (α := Int32 × Int32 × Int32) (J := fun a => bk_At lyM w X 10 [(3, .int a.2.2), (2, .int a.2.1), (1, .int a.1), (0, .ref (bk_r w 0))] [] σ1) (v2, v3, v4) (fun K5 hK5 a6 => ?_))
  refine bk_iload_n hX 0 dX9_longestOf_10 rfl ?_
  refine bk_aload_n hX 3 dX9_longestOf_11 rfl ?_
  refine bk_geti hX km_o rfl fl_X9_125 dX9_longestOf_12 ?_
  refine bk_icmp_ge hX 61 dX9_longestOf_15 rfl ?_ ?_
  · refine bk_iload_n hX 2 dX9_longestOf_61 rfl ?_
    exact fun z => hret _ _ _ _ dX9_longestOf_62 rfl z
  · refine bk_aload_n hX 3 dX9_longestOf_18 rfl ?_
    refine bk_getr hX km_o rfl fl_X9_52 dX9_longestOf_19 ?_
    refine bk_iload_n hX 0 dX9_longestOf_22 rfl ?_
    refine bk_iaload hX km_35 dX9_longestOf_23 ?_
    refine bk_iload_n hX 1 dX9_longestOf_24 rfl ?_
    refine bk_r_if (α := Int32) (F := fun K7 => ((σ1 35 (Int32.toNatClampNeg a6.2.2)) ≤ a6.2.1 → K7 a6.1) ∧ (¬ (σ1 35 (Int32.toNatClampNeg a6.2.2)) ≤ a6.2.1 → K7 a6.2.2)) (fun K7 z => ⟨fun h0 => (bk_pos (K := K7) h0 z), fun h0 => (bk_neg (K := K7) h0 z)⟩) (J := fun a => bk_At lyM w X 33 [(3, .int a6.2.2), (2, .int a6.2.1), (1, .int a6.1), (0, .ref (bk_r w 0))] [.int a] σ1) (fun a8 => ?_) (fun K7 hK7 => ?_)
    · refine bk_istore_n hX (fun v9 => [(1, .int v9), (3, .int a6.2.2), (2, .int a6.2.1), (0, .ref (bk_r w 0))]) dX9_longestOf_33 (Nat.le_of_ble_eq_true rfl) (fun _ => rfl) (fun v9 => ?_)
      refine bk_aload_n hX 3 dX9_longestOf_34 rfl ?_
      refine bk_getr hX km_o rfl fl_X9_52 dX9_longestOf_35 ?_
      refine bk_iload_n hX 1 dX9_longestOf_38 rfl ?_
      refine bk_iaload hX km_35 dX9_longestOf_39 ?_
      refine bk_iload_n hX 2 dX9_longestOf_40 rfl ?_
      refine bk_icmp_le hX 53 dX9_longestOf_41 rfl ?_ ?_
      · refine bk_iload_n hX 2 dX9_longestOf_53 rfl ?_
        refine bk_istore_n hX (fun v10 => [(2, .int v10), (1, .int v9), (3, .int a6.2.2), (0, .ref (bk_r w 0))]) dX9_longestOf_54 (Nat.le_of_ble_eq_true rfl) (fun _ => rfl) (fun v10 => ?_)
        refine bk_iinc hX 2 (fun v11 => [(3, .int v11), (2, .int v10), (1, .int v9), (0, .ref (bk_r w 0))]) dX9_longestOf_55 rfl bk_ci_1 (Nat.le_of_ble_eq_true rfl) (fun _ => rfl) (fun v11 => ?_)
        refine bk_goto hX 10 dX9_longestOf_58 rfl ?_
        exact bk_pick [0, 1, 2, 3] rfl (hK5 (v9, v10, v11))
      · refine bk_aload_n hX 3 dX9_longestOf_44 rfl ?_
        refine bk_getr hX km_o rfl fl_X9_52 dX9_longestOf_45 ?_
        refine bk_iload_n hX 1 dX9_longestOf_48 rfl ?_
        refine bk_iaload hX km_35 dX9_longestOf_49 ?_
        refine bk_goto hX 54 dX9_longestOf_50 rfl ?_
        refine bk_istore_n hX (fun v12 => [(2, .int v12), (1, .int v9), (3, .int a6.2.2), (0, .ref (bk_r w 0))]) dX9_longestOf_54 (Nat.le_of_ble_eq_true rfl) (fun _ => rfl) (fun v12 => ?_)
        refine bk_iinc hX 2 (fun v13 => [(3, .int v13), (2, .int v12), (1, .int v9), (0, .ref (bk_r w 0))]) dX9_longestOf_55 rfl bk_ci_1 (Nat.le_of_ble_eq_true rfl) (fun _ => rfl) (fun v13 => ?_)
        refine bk_goto hX 10 dX9_longestOf_58 rfl ?_
        exact bk_pick [0, 1, 2, 3] rfl (hK5 (v9, v12, v13))
    · refine bk_icmp_le hX 32 dX9_longestOf_25 rfl ?_ ?_
      · refine bk_iload_n hX 2 dX9_longestOf_32 rfl ?_
        exact bk_pick [0, 1, 2, 3] rfl (hK7 a6.1)
      · refine bk_iload_n hX 0 dX9_longestOf_28 rfl ?_
        refine bk_goto hX 33 dX9_longestOf_29 rfl ?_
        exact bk_pick [0, 1, 2, 3] rfl (hK7 a6.2.2)

def w_X9_longest (σ : bk_S) (post : Int32 → bk_S → Prop) : Prop :=
  w_X9_longestOf σ (fun r1 σ2 =>
    post r1 σ2)
set_option maxRecDepth 20000 in
theorem m_X9_longest (w : bk_W) {σ : bk_S} {post : Int32 → bk_S → Prop} : w_X9_longest σ post → bk_Mi lyM w yX9_longest cX9_longest 1 .int 8 180 [.ref (bk_r w 0)] σ post := by
  intro h0
  refine bk_mi (by decide) (Nat.le_of_ble_eq_true rfl) (fun X hX hret => ?_)
  revert h0
  unfold w_X9_longest
  show _ → bk_At lyM w X 0 [(0, .ref (bk_r w 0))] [] σ
  refine bk_aload_n hX 0 dX9_longest_0 rfl ?_
  refine bk_callV_i hX [] [] yk_X9_longestOf yv_X9_longestOf lk_X9_291 rfl rfl km_o rfl rfl (Nat.le_of_ble_eq_true rfl) ⟨Nat.le_of_ble_eq_true rfl, Nat.le_of_ble_eq_true rfl⟩ dX9_longest_1 (m_X9_longestOf w) (fun r1 σ2 => ?_)
  exact fun z => hret _ _ _ _ dX9_longest_4 rfl z

def w_X9_highestOf (x1 : Int32) (σ : bk_S) (post : Int32 → bk_S → Prop) : Prop :=
  w_X9_runsTold σ (fun σ1 =>
    vp_in x1 8 ∧ post (σ1 37 (Int32.toNatClampNeg x1)) σ1)
set_option maxRecDepth 20000 in
theorem m_X9_highestOf (w : bk_W) {x1 : Int32} {σ : bk_S} {post : Int32 → bk_S → Prop} : w_X9_highestOf x1 σ post → bk_Mi lyM w yX9_highestOf cX9_highestOf 2 .int 7 157 [.ref (bk_r w 0), .int x1] σ post := by
  intro h0
  refine bk_mi (by decide) (Nat.le_of_ble_eq_true rfl) (fun X hX hret => ?_)
  revert h0
  unfold w_X9_highestOf
  show _ → bk_At lyM w X 0 [(0, .ref (bk_r w 0)), (1, .int x1)] [] σ
  refine bk_aload_n hX 0 dX9_highestOf_0 rfl ?_
  refine bk_callV_v hX [] [] yk_X9_runsTold yv_X9_runsTold lk_X9_267 rfl rfl km_o rfl rfl (Nat.le_of_ble_eq_true rfl) ⟨Nat.le_of_ble_eq_true rfl, Nat.le_of_ble_eq_true rfl⟩ dX9_highestOf_1 (m_X9_runsTold w) (fun σ1 => ?_)
  refine bk_aload_n hX 0 dX9_highestOf_4 rfl ?_
  refine bk_getr hX km_o rfl fl_X9_58 dX9_highestOf_5 ?_
  refine bk_iload_n hX 1 dX9_highestOf_8 rfl ?_
  refine bk_iaload hX km_37 dX9_highestOf_9 ?_
  exact fun z => hret _ _ _ _ dX9_highestOf_10 rfl z

def w_X9_highest (x1 : Int32) (σ : bk_S) (post : Int32 → bk_S → Prop) : Prop :=
  w_X9_isThing x1 σ (fun r1 σ2 =>
    (r1 = 0 → post (-2 : Int32) σ2) ∧ (¬ r1 = 0 → (w_X9_highestOf x1 σ2 (fun r3 σ4 =>
      post r3 σ4))))
set_option maxRecDepth 20000 in
theorem m_X9_highest (w : bk_W) {x1 : Int32} {σ : bk_S} {post : Int32 → bk_S → Prop} : w_X9_highest x1 σ post → bk_Mi lyM w yX9_highest cX9_highest 2 .int 8 178 [.ref (bk_r w 0), .int x1] σ post := by
  intro h0
  refine bk_mi (by decide) (Nat.le_of_ble_eq_true rfl) (fun X hX hret => ?_)
  revert h0
  unfold w_X9_highest
  show _ → bk_At lyM w X 0 [(0, .ref (bk_r w 0)), (1, .int x1)] [] σ
  refine bk_aload_n hX 0 dX9_highest_0 rfl ?_
  refine bk_iload_n hX 1 dX9_highest_1 rfl ?_
  refine bk_callV_i hX [.int x1] [] yk_X9_isThing yv_X9_isThing lk_X9_148 rfl rfl km_o rfl rfl (Nat.le_of_ble_eq_true rfl) ⟨Nat.le_of_ble_eq_true rfl, Nat.le_of_ble_eq_true rfl⟩ dX9_highest_2 (m_X9_isThing w) (fun r1 σ2 => ?_)
  refine bk_if_eq hX 16 dX9_highest_5 rfl ?_ ?_
  · refine bk_bipush hX bk_cb_m2 dX9_highest_16 ?_
    exact fun z => hret _ _ _ _ dX9_highest_18 rfl z
  · refine bk_aload_n hX 0 dX9_highest_8 rfl ?_
    refine bk_iload_n hX 1 dX9_highest_9 rfl ?_
    refine bk_callV_i hX [.int x1] [] yk_X9_highestOf yv_X9_highestOf lk_X9_294 rfl rfl km_o rfl rfl (Nat.le_of_ble_eq_true rfl) ⟨Nat.le_of_ble_eq_true rfl, Nat.le_of_ble_eq_true rfl⟩ dX9_highest_10 (m_X9_highestOf w) (fun r3 σ4 => ?_)
    refine bk_goto hX 18 dX9_highest_13 rfl ?_
    exact fun z => hret _ _ _ _ dX9_highest_18 rfl z

def w_X9_soreOf (σ : bk_S) (post : Int32 → bk_S → Prop) : Prop :=
  w_X9_runsTold σ (fun σ1 =>
    vp_in (11 : Int32) 12 ∧ post ((((1 : Int32) <<< ((σ1 0 4) &&& 31)) - (1 : Int32)) &&& ((σ1 42 (Int32.toNatClampNeg (11 : Int32))) ^^^ (-1 : Int32))) σ1)
set_option maxRecDepth 20000 in
theorem m_X9_soreOf (w : bk_W) {σ : bk_S} {post : Int32 → bk_S → Prop} : w_X9_soreOf σ post → bk_Mi lyM w yX9_soreOf cX9_soreOf 1 .int 7 157 [.ref (bk_r w 0)] σ post := by
  intro h0
  refine bk_mi (by decide) (Nat.le_of_ble_eq_true rfl) (fun X hX hret => ?_)
  revert h0
  unfold w_X9_soreOf
  show _ → bk_At lyM w X 0 [(0, .ref (bk_r w 0))] [] σ
  refine bk_aload_n hX 0 dX9_soreOf_0 rfl ?_
  refine bk_callV_v hX [] [] yk_X9_runsTold yv_X9_runsTold lk_X9_267 rfl rfl km_o rfl rfl (Nat.le_of_ble_eq_true rfl) ⟨Nat.le_of_ble_eq_true rfl, Nat.le_of_ble_eq_true rfl⟩ dX9_soreOf_1 (m_X9_runsTold w) (fun σ1 => ?_)
  refine bk_iconst hX bk_ci_1 dX9_soreOf_4 ?_
  refine bk_aload_n hX 0 dX9_soreOf_5 rfl ?_
  refine bk_geti hX km_o rfl fl_X9_125 dX9_soreOf_6 ?_
  refine bk_ishl hX dX9_soreOf_9 ?_
  refine bk_iconst hX bk_ci_1 dX9_soreOf_10 ?_
  refine bk_isub hX dX9_soreOf_11 ?_
  refine bk_aload_n hX 0 dX9_soreOf_12 rfl ?_
  refine bk_getr hX km_o rfl fl_X9_73 dX9_soreOf_13 ?_
  refine bk_bipush hX bk_cb_11 dX9_soreOf_16 ?_
  refine bk_iaload hX km_42 dX9_soreOf_18 ?_
  refine bk_iconst hX bk_ci_m1 dX9_soreOf_19 ?_
  refine bk_ixor hX dX9_soreOf_20 ?_
  refine bk_iand hX dX9_soreOf_21 ?_
  exact fun z => hret _ _ _ _ dX9_soreOf_22 rfl z

def w_X9_sore (σ : bk_S) (post : Int32 → bk_S → Prop) : Prop :=
  w_X9_soreOf σ (fun r1 σ2 =>
    post r1 σ2)
set_option maxRecDepth 20000 in
theorem m_X9_sore (w : bk_W) {σ : bk_S} {post : Int32 → bk_S → Prop} : w_X9_sore σ post → bk_Mi lyM w yX9_sore cX9_sore 1 .int 8 177 [.ref (bk_r w 0)] σ post := by
  intro h0
  refine bk_mi (by decide) (Nat.le_of_ble_eq_true rfl) (fun X hX hret => ?_)
  revert h0
  unfold w_X9_sore
  show _ → bk_At lyM w X 0 [(0, .ref (bk_r w 0))] [] σ
  refine bk_aload_n hX 0 dX9_sore_0 rfl ?_
  refine bk_callV_i hX [] [] yk_X9_soreOf yv_X9_soreOf lk_X9_297 rfl rfl km_o rfl rfl (Nat.le_of_ble_eq_true rfl) ⟨Nat.le_of_ble_eq_true rfl, Nat.le_of_ble_eq_true rfl⟩ dX9_sore_1 (m_X9_soreOf w) (fun r1 σ2 => ?_)
  exact fun z => hret _ _ _ _ dX9_sore_4 rfl z

def w_X9_starts (σ : bk_S) (post : bk_S → Prop) : Prop :=
  w_X9_asTold σ (fun σ1 =>
    bk_lt (α := bk_S) (bk_u σ1 0 42 (-1 : Int32)) fun σ2 =>
    bk_lt (α := bk_S) (bk_u σ2 0 43 (-1 : Int32)) fun σ3 =>
    bk_lt (α := bk_S) (bk_u σ3 0 44 (-1 : Int32)) fun σ4 =>
    post σ4)
set_option maxRecDepth 20000 in
theorem m_X9_starts (w : bk_W) {σ : bk_S} {post : bk_S → Prop} : w_X9_starts σ post → bk_Mv lyM w yX9_starts cX9_starts 1 6 136 [.ref (bk_r w 0)] σ post := by
  intro h0
  refine bk_mv (by decide) (Nat.le_of_ble_eq_true rfl) (fun X hX hret => ?_)
  revert h0
  unfold w_X9_starts
  show _ → bk_At lyM w X 0 [(0, .ref (bk_r w 0))] [] σ
  refine bk_aload_n hX 0 dX9_starts_0 rfl ?_
  refine bk_callV_v hX [] [] yk_X9_asTold yv_X9_asTold lk_X9_261 rfl rfl km_o rfl rfl (Nat.le_of_ble_eq_true rfl) ⟨Nat.le_of_ble_eq_true rfl, Nat.le_of_ble_eq_true rfl⟩ dX9_starts_1 (m_X9_asTold w) (fun σ1 => ?_)
  refine bk_aload_n hX 0 dX9_starts_4 rfl ?_
  refine bk_iconst hX bk_ci_m1 dX9_starts_5 ?_
  refine bk_putI hX km_o rfl fp_X9_300 dX9_starts_6 (fun σ2 => ?_)
  refine bk_aload_n hX 0 dX9_starts_9 rfl ?_
  refine bk_iconst hX bk_ci_m1 dX9_starts_10 ?_
  refine bk_putI hX km_o rfl fp_X9_303 dX9_starts_11 (fun σ3 => ?_)
  refine bk_aload_n hX 0 dX9_starts_14 rfl ?_
  refine bk_iconst hX bk_ci_m1 dX9_starts_15 ?_
  refine bk_putI hX km_o rfl fp_X9_306 dX9_starts_16 (fun σ4 => ?_)
  exact fun z => hret _ _ _ dX9_starts_19 z

def w_X9_tries (x1 : Int32) (σ : bk_S) (post : bk_S → Prop) : Prop :=
  w_X9_runs σ (fun σ1 =>
    w_X9_manySettled σ1 (fun r2 =>
      bk_lt (α := Int32) r2 fun v3 =>
      bk_jn (α := Unit) (fun a5 =>
        bk_lt (α := bk_S) (bk_u σ1 0 42 x1) fun σ6 =>
        bk_lt (α := bk_S) (bk_u σ6 0 43 v3) fun σ7 =>
        bk_lt (α := bk_S) (bk_u σ7 0 44 (σ7 0 29)) fun σ8 =>
        post σ8) (fun K4 =>
        ((σ1 0 43) < v3 → K4 ()) ∧ (¬ (σ1 0 43) < v3 → ((¬ v3 = (σ1 0 43) → post σ1) ∧ (v3 = (σ1 0 43) → (((σ1 0 29) ≤ (σ1 0 44) → post σ1) ∧ (¬ (σ1 0 29) ≤ (σ1 0 44) → K4 ()))))))))
set_option maxRecDepth 20000 in
theorem m_X9_tries (w : bk_W) {x1 : Int32} {σ : bk_S} {post : bk_S → Prop} : w_X9_tries x1 σ post → bk_Mv lyM w yX9_tries cX9_tries 3 6 137 [.ref (bk_r w 0), .int x1] σ post := by
  intro h0
  refine bk_mv (by decide) (Nat.le_of_ble_eq_true rfl) (fun X hX hret => ?_)
  revert h0
  unfold w_X9_tries
  show _ → bk_At lyM w X 0 [(0, .ref (bk_r w 0)), (1, .int x1)] [] σ
  refine bk_aload_n hX 0 dX9_tries_0 rfl ?_
  refine bk_callV_v hX [] [] yk_X9_runs yv_X9_runs lk_X9_264 rfl rfl km_o rfl rfl (Nat.le_of_ble_eq_true rfl) ⟨Nat.le_of_ble_eq_true rfl, Nat.le_of_ble_eq_true rfl⟩ dX9_tries_1 (m_X9_runs w) (fun σ1 => ?_)
  refine bk_aload_n hX 0 dX9_tries_4 rfl ?_
  refine bk_callV_i hX [] [] yk_X9_manySettled yv_X9_manySettled lk_X9_282 rfl rfl km_o rfl rfl (Nat.le_of_ble_eq_true rfl) ⟨Nat.le_of_ble_eq_true rfl, Nat.le_of_ble_eq_true rfl⟩ dX9_tries_5 (m_X9_manySettled w) (bk_pu (fun r2 => ?_))
  refine bk_istore_n hX (fun v3 => [(2, .int v3), (0, .ref (bk_r w 0)), (1, .int x1)]) dX9_tries_8 (Nat.le_of_ble_eq_true rfl) (fun _ => rfl) (fun v3 => ?_)
  refine bk_iload_n hX 0 dX9_tries_9 rfl ?_
  refine bk_aload_n hX 1 dX9_tries_10 rfl ?_
  refine bk_geti hX km_o rfl fl_X9_303 dX9_tries_11 ?_
  refine bk_r_jn (α := Unit) (J := fun a => bk_At lyM w X 36 [(2, .int v3), (0, .ref (bk_r w 0)), (1, .int x1)] [] σ1) (fun a5 => ?_) (fun K4 hK4 => ?_)
  · refine bk_aload_n hX 1 dX9_tries_36 rfl ?_
    refine bk_iload_n hX 2 dX9_tries_37 rfl ?_
    refine bk_putI hX km_o rfl fp_X9_300 dX9_tries_38 (fun σ6 => ?_)
    refine bk_aload_n hX 1 dX9_tries_41 rfl ?_
    refine bk_iload_n hX 0 dX9_tries_42 rfl ?_
    refine bk_putI hX km_o rfl fp_X9_303 dX9_tries_43 (fun σ7 => ?_)
    refine bk_aload_n hX 1 dX9_tries_46 rfl ?_
    refine bk_aload_n hX 1 dX9_tries_47 rfl ?_
    refine bk_geti hX km_o rfl fl_X9_246 dX9_tries_48 ?_
    refine bk_putI hX km_o rfl fp_X9_306 dX9_tries_51 (fun σ8 => ?_)
    exact fun z => hret _ _ _ dX9_tries_54 z
  · refine bk_icmp_gt hX 36 dX9_tries_14 rfl ?_ ?_
    · exact bk_pick [0, 1, 2] rfl (hK4 ())
    · refine bk_iload_n hX 0 dX9_tries_17 rfl ?_
      refine bk_aload_n hX 1 dX9_tries_18 rfl ?_
      refine bk_geti hX km_o rfl fl_X9_303 dX9_tries_19 ?_
      refine bk_icmp_ne hX 54 dX9_tries_22 rfl ?_ ?_
      · exact fun z => hret _ _ _ dX9_tries_54 z
      · refine bk_aload_n hX 1 dX9_tries_25 rfl ?_
        refine bk_geti hX km_o rfl fl_X9_246 dX9_tries_26 ?_
        refine bk_aload_n hX 1 dX9_tries_29 rfl ?_
        refine bk_geti hX km_o rfl fl_X9_306 dX9_tries_30 ?_
        refine bk_icmp_le hX 54 dX9_tries_33 rfl ?_ ?_
        · exact fun z => hret _ _ _ dX9_tries_54 z
        · exact bk_pick [0, 1, 2] rfl (hK4 ())

def w_X9_puts (x1 : Int32) (x2 : Int32) (σ : bk_S) (post : bk_S → Prop) : Prop :=
  vp_in x2 9 ∧ vp_in x1 8 ∧ bk_lt (α := bk_S) (bk_u σ 14 (Int32.toNatClampNeg x1) (σ 6 (Int32.toNatClampNeg x2))) fun σ1 =>
  vp_in x2 9 ∧ vp_in x1 8 ∧ bk_lt (α := bk_S) (bk_u σ1 15 (Int32.toNatClampNeg x1) (σ1 7 (Int32.toNatClampNeg x2))) fun σ2 =>
  vp_in x2 9 ∧ vp_in x1 8 ∧ bk_lt (α := bk_S) (bk_u σ2 16 (Int32.toNatClampNeg x1) (σ2 8 (Int32.toNatClampNeg x2))) fun σ3 =>
  post σ3
set_option maxRecDepth 20000 in
theorem m_X9_puts (w : bk_W) {x1 : Int32} {x2 : Int32} {σ : bk_S} {post : bk_S → Prop} : w_X9_puts x1 x2 σ post → bk_Mv lyM w yX9_puts cX9_puts 3 0 0 [.ref (bk_r w 0), .int x1, .int x2] σ post := by
  intro h0
  refine bk_mv (by decide) (Nat.le_of_ble_eq_true rfl) (fun X hX hret => ?_)
  revert h0
  unfold w_X9_puts
  show _ → bk_At lyM w X 0 [(0, .ref (bk_r w 0)), (1, .int x1), (2, .int x2)] [] σ
  refine bk_aload_n hX 0 dX9_puts_0 rfl ?_
  refine bk_getr hX km_o rfl fl_X9_37 dX9_puts_1 ?_
  refine bk_iload_n hX 1 dX9_puts_4 rfl ?_
  refine bk_aload_n hX 0 dX9_puts_5 rfl ?_
  refine bk_getr hX km_o rfl fl_X9_19 dX9_puts_6 ?_
  refine bk_iload_n hX 2 dX9_puts_9 rfl ?_
  refine bk_iaload hX km_6 dX9_puts_10 ?_
  refine bk_iastore hX km_14 dX9_puts_11 (fun σ1 => ?_)
  refine bk_aload_n hX 0 dX9_puts_12 rfl ?_
  refine bk_getr hX km_o rfl fl_X9_40 dX9_puts_13 ?_
  refine bk_iload_n hX 1 dX9_puts_16 rfl ?_
  refine bk_aload_n hX 0 dX9_puts_17 rfl ?_
  refine bk_getr hX km_o rfl fl_X9_22 dX9_puts_18 ?_
  refine bk_iload_n hX 2 dX9_puts_21 rfl ?_
  refine bk_iaload hX km_7 dX9_puts_22 ?_
  refine bk_iastore hX km_15 dX9_puts_23 (fun σ2 => ?_)
  refine bk_aload_n hX 0 dX9_puts_24 rfl ?_
  refine bk_getr hX km_o rfl fl_X9_43 dX9_puts_25 ?_
  refine bk_iload_n hX 1 dX9_puts_28 rfl ?_
  refine bk_aload_n hX 0 dX9_puts_29 rfl ?_
  refine bk_getr hX km_o rfl fl_X9_25 dX9_puts_30 ?_
  refine bk_iload_n hX 2 dX9_puts_33 rfl ?_
  refine bk_iaload hX km_8 dX9_puts_34 ?_
  refine bk_iastore hX km_16 dX9_puts_35 (fun σ3 => ?_)
  exact fun z => hret _ _ _ dX9_puts_36 z

def w_X9_swapOf (x1 : Int32) (σ : bk_S) (post : Int32 → bk_S → Prop) : Prop :=
  w_X9_starts σ (fun σ1 =>
    bk_lt (α := Int32) (0 : Int32) fun v2 =>
    bk_jn (α := bk_S) (fun a4 =>
      (¬ (a4 0 42) = (-1 : Int32) → ((¬ x1 = 0 → ((¬ x1 = (1 : Int32) → ((¬ x1 = (2 : Int32) → post (a4 0 44) a4) ∧ (x1 = (2 : Int32) → post (a4 0 43) a4))) ∧ (x1 = (1 : Int32) → (¬ (8 : Int32) = 0 ∧ post ((a4 0 42) - (a4 0 42) / (8 : Int32) * (8 : Int32)) a4)))) ∧ (x1 = 0 → (¬ (8 : Int32) = 0 ∧ post ((a4 0 42) / (8 : Int32)) a4)))) ∧ ((a4 0 42) = (-1 : Int32) → post (-1 : Int32) a4)) (fun K3 =>
      bk_loop (α := Int32 × bk_S) (fun K5 a6 =>
        ((a6.2 0 4) ≤ a6.1 → K3 a6.2) ∧ (¬ (a6.2 0 4) ≤ a6.1 → (bk_lt (α := Int32) (a6.1 + (1 : Int32)) fun v7 =>
        bk_loop (α := Int32 × bk_S) (fun K8 a9 =>
          ((a9.2 0 4) ≤ a9.1 → (bk_lt (α := Int32) (a6.1 + (1 : Int32)) fun v10 =>
          K5 (v10, a9.2))) ∧ (¬ (a9.2 0 4) ≤ a9.1 → (w_X9_puts a6.1 a9.1 a9.2 (fun σ11 =>
            w_X9_puts a9.1 a6.1 σ11 (fun σ12 =>
              w_X9_tries (((8 : Int32) * a6.1) + a9.1) σ12 (fun σ13 =>
                w_X9_puts a6.1 a6.1 σ13 (fun σ14 =>
                  w_X9_puts a9.1 a9.1 σ14 (fun σ15 =>
                    bk_lt (α := Int32) (a9.1 + (1 : Int32)) fun v16 =>
                    K8 (v16, σ15))))))))) (v7, a6.2)))) (v2, σ1)))
set_option maxRecDepth 20000 in
theorem m_X9_swapOf (w : bk_W) {x1 : Int32} {σ : bk_S} {post : Int32 → bk_S → Prop} : w_X9_swapOf x1 σ post → bk_Mi lyM w yX9_swapOf cX9_swapOf 4 .int 7 159 [.ref (bk_r w 0), .int x1] σ post := by
  intro h0
  refine bk_mi (by decide) (Nat.le_of_ble_eq_true rfl) (fun X hX hret => ?_)
  revert h0
  unfold w_X9_swapOf
  show _ → bk_At lyM w X 0 [(0, .ref (bk_r w 0)), (1, .int x1)] [] σ
  refine bk_aload_n hX 0 dX9_swapOf_0 rfl ?_
  refine bk_callV_v hX [] [] yk_X9_starts yv_X9_starts lk_X9_309 rfl rfl km_o rfl rfl (Nat.le_of_ble_eq_true rfl) ⟨Nat.le_of_ble_eq_true rfl, Nat.le_of_ble_eq_true rfl⟩ dX9_swapOf_1 (m_X9_starts w) (fun σ1 => ?_)
  refine bk_iconst hX bk_ci_0 dX9_swapOf_4 ?_
  refine bk_istore_n hX (fun v2 => [(2, .int v2), (0, .ref (bk_r w 0)), (1, .int x1)]) dX9_swapOf_5 (Nat.le_of_ble_eq_true rfl) (fun _ => rfl) (fun v2 => ?_)
  refine bk_r_jn (α := bk_S) (J := fun a => bk_At lyM w X 72 [(0, .ref (bk_r w 0)), (1, .int x1)] [] a) (fun a4 => ?_) (fun K3 hK3 => ?_)
  · refine bk_aload_n hX 0 dX9_swapOf_72 rfl ?_
    refine bk_geti hX km_o rfl fl_X9_300 dX9_swapOf_73 ?_
    refine bk_iconst hX bk_ci_m1 dX9_swapOf_76 ?_
    refine bk_icmp_ne hX 84 dX9_swapOf_77 rfl ?_ ?_
    · refine bk_iload_n hX 1 dX9_swapOf_84 rfl ?_
      refine bk_if_ne hX 98 dX9_swapOf_85 rfl ?_ ?_
      · refine bk_iload_n hX 1 dX9_swapOf_98 rfl ?_
        refine bk_iconst hX bk_ci_1 dX9_swapOf_99 ?_
        refine bk_icmp_ne hX 113 dX9_swapOf_100 rfl ?_ ?_
        · refine bk_iload_n hX 1 dX9_swapOf_113 rfl ?_
          refine bk_iconst hX bk_ci_2 dX9_swapOf_114 ?_
          refine bk_icmp_ne hX 125 dX9_swapOf_115 rfl ?_ ?_
          · refine bk_aload_n hX 0 dX9_swapOf_125 rfl ?_
            refine bk_geti hX km_o rfl fl_X9_306 dX9_swapOf_126 ?_
            exact fun z => hret _ _ _ _ dX9_swapOf_129 rfl z
          · refine bk_aload_n hX 0 dX9_swapOf_118 rfl ?_
            refine bk_geti hX km_o rfl fl_X9_303 dX9_swapOf_119 ?_
            refine bk_goto hX 129 dX9_swapOf_122 rfl ?_
            exact fun z => hret _ _ _ _ dX9_swapOf_129 rfl z
        · refine bk_aload_n hX 0 dX9_swapOf_103 rfl ?_
          refine bk_geti hX km_o rfl fl_X9_300 dX9_swapOf_104 ?_
          refine bk_bipush hX bk_cb_8 dX9_swapOf_107 ?_
          refine bk_irem hX dX9_swapOf_109 ?_
          refine bk_goto hX 129 dX9_swapOf_110 rfl ?_
          exact fun z => hret _ _ _ _ dX9_swapOf_129 rfl z
      · refine bk_aload_n hX 0 dX9_swapOf_88 rfl ?_
        refine bk_geti hX km_o rfl fl_X9_300 dX9_swapOf_89 ?_
        refine bk_bipush hX bk_cb_8 dX9_swapOf_92 ?_
        refine bk_idiv hX dX9_swapOf_94 ?_
        refine bk_goto hX 129 dX9_swapOf_95 rfl ?_
        exact fun z => hret _ _ _ _ dX9_swapOf_129 rfl z
    · refine bk_iconst hX bk_ci_m1 dX9_swapOf_80 ?_
      refine bk_goto hX 129 dX9_swapOf_81 rfl ?_
      exact fun z => hret _ _ _ _ dX9_swapOf_129 rfl z
  · refine bk_pick [0, 1, 2] rfl (bk_r_loop (α := Int32 × bk_S) (J := fun a => bk_At lyM w X 6 [(2, .int a.1), (0, .ref (bk_r w 0)), (1, .int x1)] [] a.2) (v2, σ1) (fun K5 hK5 a6 => ?_))
    refine bk_iload_n hX 0 dX9_swapOf_6 rfl ?_
    refine bk_aload_n hX 1 dX9_swapOf_7 rfl ?_
    refine bk_geti hX km_o rfl fl_X9_125 dX9_swapOf_8 ?_
    refine bk_icmp_ge hX 72 dX9_swapOf_11 rfl ?_ ?_
    · exact bk_pick [1, 2] rfl (hK3 a6.2)
    · refine bk_iload_n hX 0 dX9_swapOf_14 rfl ?_
      refine bk_iconst hX bk_ci_1 dX9_swapOf_15 ?_
      refine bk_iadd hX dX9_swapOf_16 ?_
      refine bk_istore_n hX (fun v7 => [(3, .int v7), (2, .int a6.1), (0, .ref (bk_r w 0)), (1, .int x1)]) dX9_swapOf_17 (Nat.le_of_ble_eq_true rfl) (fun _ => rfl) (fun v7 => ?_)
      refine bk_pick [0, 1, 2, 3] rfl (bk_r_loop (α := Int32 × bk_S) (J := fun a => bk_At lyM w X 18 [(3, .int a.1), (2, .int a6.1), (0, .ref (bk_r w 0)), (1, .int x1)] [] a.2) (v7, a6.2) (fun K8 hK8 a9 => ?_))
      refine bk_iload_n hX 0 dX9_swapOf_18 rfl ?_
      refine bk_aload_n hX 2 dX9_swapOf_19 rfl ?_
      refine bk_geti hX km_o rfl fl_X9_125 dX9_swapOf_20 ?_
      refine bk_icmp_ge hX 66 dX9_swapOf_23 rfl ?_ ?_
      · refine bk_iinc hX 1 (fun v10 => [(2, .int v10), (3, .int a9.1), (0, .ref (bk_r w 0)), (1, .int x1)]) dX9_swapOf_66 rfl bk_ci_1 (Nat.le_of_ble_eq_true rfl) (fun _ => rfl) (fun v10 => ?_)
        refine bk_goto hX 6 dX9_swapOf_69 rfl ?_
        exact bk_pick [0, 2, 3] rfl (hK5 (v10, a9.2))
      · refine bk_aload_n hX 2 dX9_swapOf_26 rfl ?_
        refine bk_iload_n hX 1 dX9_swapOf_27 rfl ?_
        refine bk_iload_n hX 0 dX9_swapOf_28 rfl ?_
        refine bk_callV_v hX [.int a6.1, .int a9.1] [] yk_X9_puts yv_X9_puts lk_X9_312 rfl rfl km_o rfl rfl (Nat.le_of_ble_eq_true rfl) ⟨Nat.le_of_ble_eq_true rfl, Nat.le_of_ble_eq_true rfl⟩ dX9_swapOf_29 (m_X9_puts w) (fun σ11 => ?_)
        refine bk_aload_n hX 2 dX9_swapOf_32 rfl ?_
        refine bk_iload_n hX 0 dX9_swapOf_33 rfl ?_
        refine bk_iload_n hX 1 dX9_swapOf_34 rfl ?_
        refine bk_callV_v hX [.int a9.1, .int a6.1] [] yk_X9_puts yv_X9_puts lk_X9_312 rfl rfl km_o rfl rfl (Nat.le_of_ble_eq_true rfl) ⟨Nat.le_of_ble_eq_true rfl, Nat.le_of_ble_eq_true rfl⟩ dX9_swapOf_35 (m_X9_puts w) (fun σ12 => ?_)
        refine bk_aload_n hX 2 dX9_swapOf_38 rfl ?_
        refine bk_bipush hX bk_cb_8 dX9_swapOf_39 ?_
        refine bk_iload_n hX 1 dX9_swapOf_41 rfl ?_
        refine bk_imul hX dX9_swapOf_42 ?_
        refine bk_iload_n hX 0 dX9_swapOf_43 rfl ?_
        refine bk_iadd hX dX9_swapOf_44 ?_
        refine bk_callV_v hX [.int (((8 : Int32) * a6.1) + a9.1)] [] yk_X9_tries yv_X9_tries lk_X9_315 rfl rfl km_o rfl rfl (Nat.le_of_ble_eq_true rfl) ⟨Nat.le_of_ble_eq_true rfl, Nat.le_of_ble_eq_true rfl⟩ dX9_swapOf_45 (m_X9_tries w) (fun σ13 => ?_)
        refine bk_aload_n hX 2 dX9_swapOf_48 rfl ?_
        refine bk_iload_n hX 1 dX9_swapOf_49 rfl ?_
        refine bk_iload_n hX 1 dX9_swapOf_50 rfl ?_
        refine bk_callV_v hX [.int a6.1, .int a6.1] [] yk_X9_puts yv_X9_puts lk_X9_312 rfl rfl km_o rfl rfl (Nat.le_of_ble_eq_true rfl) ⟨Nat.le_of_ble_eq_true rfl, Nat.le_of_ble_eq_true rfl⟩ dX9_swapOf_51 (m_X9_puts w) (fun σ14 => ?_)
        refine bk_aload_n hX 2 dX9_swapOf_54 rfl ?_
        refine bk_iload_n hX 0 dX9_swapOf_55 rfl ?_
        refine bk_iload_n hX 0 dX9_swapOf_56 rfl ?_
        refine bk_callV_v hX [.int a9.1, .int a9.1] [] yk_X9_puts yv_X9_puts lk_X9_312 rfl rfl km_o rfl rfl (Nat.le_of_ble_eq_true rfl) ⟨Nat.le_of_ble_eq_true rfl, Nat.le_of_ble_eq_true rfl⟩ dX9_swapOf_57 (m_X9_puts w) (fun σ15 => ?_)
        refine bk_iinc hX 0 (fun v16 => [(3, .int v16), (2, .int a6.1), (0, .ref (bk_r w 0)), (1, .int x1)]) dX9_swapOf_60 rfl bk_ci_1 (Nat.le_of_ble_eq_true rfl) (fun _ => rfl) (fun v16 => ?_)
        refine bk_goto hX 18 dX9_swapOf_63 rfl ?_
        exact bk_pick [0, 1, 2, 3] rfl (hK8 (v16, σ15))

def w_X9_swap (x1 : Int32) (σ : bk_S) (post : Int32 → bk_S → Prop) : Prop :=
  w_X9_in x1 (0 : Int32) (3 : Int32) (fun r1 =>
    (r1 = 0 → post (-2 : Int32) σ) ∧ (¬ r1 = 0 → (w_X9_swapOf x1 σ (fun r2 σ3 =>
      post r2 σ3))))
set_option maxRecDepth 20000 in
theorem m_X9_swap (w : bk_W) {x1 : Int32} {σ : bk_S} {post : Int32 → bk_S → Prop} : w_X9_swap x1 σ post → bk_Mi lyM w yX9_swap cX9_swap 2 .int 8 182 [.ref (bk_r w 0), .int x1] σ post := by
  intro h0
  refine bk_mi (by decide) (Nat.le_of_ble_eq_true rfl) (fun X hX hret => ?_)
  revert h0
  unfold w_X9_swap
  show _ → bk_At lyM w X 0 [(0, .ref (bk_r w 0)), (1, .int x1)] [] σ
  refine bk_iload_n hX 1 dX9_swap_0 rfl ?_
  refine bk_iconst hX bk_ci_0 dX9_swap_1 ?_
  refine bk_iconst hX bk_ci_3 dX9_swap_2 ?_
  refine bk_callS_i hX [.int x1, .int (0 : Int32), .int (3 : Int32)] [] yk_X9_in ys_X9_in lk_X9_109 rfl rfl (Nat.le_of_ble_eq_true rfl) ⟨Nat.le_of_ble_eq_true rfl, Nat.le_of_ble_eq_true rfl⟩ dX9_swap_3 (m_X9_in w) (bk_pu (fun r1 => ?_))
  refine bk_if_eq hX 17 dX9_swap_6 rfl ?_ ?_
  · refine bk_bipush hX bk_cb_m2 dX9_swap_17 ?_
    exact fun z => hret _ _ _ _ dX9_swap_19 rfl z
  · refine bk_aload_n hX 0 dX9_swap_9 rfl ?_
    refine bk_iload_n hX 1 dX9_swap_10 rfl ?_
    refine bk_callV_i hX [.int x1] [] yk_X9_swapOf yv_X9_swapOf lk_X9_318 rfl rfl km_o rfl rfl (Nat.le_of_ble_eq_true rfl) ⟨Nat.le_of_ble_eq_true rfl, Nat.le_of_ble_eq_true rfl⟩ dX9_swap_11 (m_X9_swapOf w) (fun r2 σ3 => ?_)
    refine bk_goto hX 19 dX9_swap_14 rfl ?_
    exact fun z => hret _ _ _ _ dX9_swap_19 rfl z

def w_X9_fitOf (σ : bk_S) (post : Int32 → bk_S → Prop) : Prop :=
  w_X9_asTold σ (fun σ1 =>
    bk_lt (α := Int32) (0 : Int32) fun v2 =>
    bk_loop (α := Int32 × bk_S) (fun K3 a4 =>
      ((a4.2 0 2) < a4.1 → post (-1 : Int32) a4.2) ∧ (¬ (a4.2 0 2) < a4.1 → (bk_lt (α := bk_S) (bk_u a4.2 0 16 a4.1) fun σ5 =>
      w_X9_runs σ5 (fun σ6 =>
        w_X9_manySettled σ6 (fun r7 =>
          (¬ r7 = (σ6 0 4) → (bk_lt (α := Int32) (a4.1 + (1 : Int32)) fun v8 =>
          K3 (v8, σ6))) ∧ (r7 = (σ6 0 4) → post a4.1 σ6)))))) (v2, σ1))
set_option maxRecDepth 20000 in
theorem m_X9_fitOf (w : bk_W) {σ : bk_S} {post : Int32 → bk_S → Prop} : w_X9_fitOf σ post → bk_Mi lyM w yX9_fitOf cX9_fitOf 2 .int 6 137 [.ref (bk_r w 0)] σ post := by
  intro h0
  refine bk_mi (by decide) (Nat.le_of_ble_eq_true rfl) (fun X hX hret => ?_)
  revert h0
  unfold w_X9_fitOf
  show _ → bk_At lyM w X 0 [(0, .ref (bk_r w 0))] [] σ
  refine bk_aload_n hX 0 dX9_fitOf_0 rfl ?_
  refine bk_callV_v hX [] [] yk_X9_asTold yv_X9_asTold lk_X9_261 rfl rfl km_o rfl rfl (Nat.le_of_ble_eq_true rfl) ⟨Nat.le_of_ble_eq_true rfl, Nat.le_of_ble_eq_true rfl⟩ dX9_fitOf_1 (m_X9_asTold w) (fun σ1 => ?_)
  refine bk_iconst hX bk_ci_0 dX9_fitOf_4 ?_
  refine bk_istore_n hX (fun v2 => [(1, .int v2), (0, .ref (bk_r w 0))]) dX9_fitOf_5 (Nat.le_of_ble_eq_true rfl) (fun _ => rfl) (fun v2 => ?_)
  refine bk_pick [0, 1] rfl (bk_r_loop (α := Int32 × bk_S) (J := fun a => bk_At lyM w X 6 [(1, .int a.1), (0, .ref (bk_r w 0))] [] a.2) (v2, σ1) (fun K3 hK3 a4 => ?_))
  refine bk_iload_n hX 0 dX9_fitOf_6 rfl ?_
  refine bk_aload_n hX 1 dX9_fitOf_7 rfl ?_
  refine bk_geti hX km_o rfl fl_X9_117 dX9_fitOf_8 ?_
  refine bk_icmp_gt hX 42 dX9_fitOf_11 rfl ?_ ?_
  · refine bk_iconst hX bk_ci_m1 dX9_fitOf_42 ?_
    exact fun z => hret _ _ _ _ dX9_fitOf_43 rfl z
  · refine bk_aload_n hX 1 dX9_fitOf_14 rfl ?_
    refine bk_iload_n hX 0 dX9_fitOf_15 rfl ?_
    refine bk_putI hX km_o rfl fp_X9_176 dX9_fitOf_16 (fun σ5 => ?_)
    refine bk_aload_n hX 1 dX9_fitOf_19 rfl ?_
    refine bk_callV_v hX [] [] yk_X9_runs yv_X9_runs lk_X9_264 rfl rfl km_o rfl rfl (Nat.le_of_ble_eq_true rfl) ⟨Nat.le_of_ble_eq_true rfl, Nat.le_of_ble_eq_true rfl⟩ dX9_fitOf_20 (m_X9_runs w) (fun σ6 => ?_)
    refine bk_aload_n hX 1 dX9_fitOf_23 rfl ?_
    refine bk_callV_i hX [] [] yk_X9_manySettled yv_X9_manySettled lk_X9_282 rfl rfl km_o rfl rfl (Nat.le_of_ble_eq_true rfl) ⟨Nat.le_of_ble_eq_true rfl, Nat.le_of_ble_eq_true rfl⟩ dX9_fitOf_24 (m_X9_manySettled w) (bk_pu (fun r7 => ?_))
    refine bk_aload_n hX 1 dX9_fitOf_27 rfl ?_
    refine bk_geti hX km_o rfl fl_X9_125 dX9_fitOf_28 ?_
    refine bk_icmp_ne hX 36 dX9_fitOf_31 rfl ?_ ?_
    · refine bk_iinc hX 0 (fun v8 => [(1, .int v8), (0, .ref (bk_r w 0))]) dX9_fitOf_36 rfl bk_ci_1 (Nat.le_of_ble_eq_true rfl) (fun _ => rfl) (fun v8 => ?_)
      refine bk_goto hX 6 dX9_fitOf_39 rfl ?_
      exact bk_pick [0, 1] rfl (hK3 (v8, σ6))
    · refine bk_iload_n hX 0 dX9_fitOf_34 rfl ?_
      exact fun z => hret _ _ _ _ dX9_fitOf_35 rfl z

def w_X9_fit (σ : bk_S) (post : Int32 → bk_S → Prop) : Prop :=
  w_X9_fitOf σ (fun r1 σ2 =>
    post r1 σ2)
set_option maxRecDepth 20000 in
theorem m_X9_fit (w : bk_W) {σ : bk_S} {post : Int32 → bk_S → Prop} : w_X9_fit σ post → bk_Mi lyM w yX9_fit cX9_fit 1 .int 7 158 [.ref (bk_r w 0)] σ post := by
  intro h0
  refine bk_mi (by decide) (Nat.le_of_ble_eq_true rfl) (fun X hX hret => ?_)
  revert h0
  unfold w_X9_fit
  show _ → bk_At lyM w X 0 [(0, .ref (bk_r w 0))] [] σ
  refine bk_aload_n hX 0 dX9_fit_0 rfl ?_
  refine bk_callV_i hX [] [] yk_X9_fitOf yv_X9_fitOf lk_X9_321 rfl rfl km_o rfl rfl (Nat.le_of_ble_eq_true rfl) ⟨Nat.le_of_ble_eq_true rfl, Nat.le_of_ble_eq_true rfl⟩ dX9_fit_1 (m_X9_fitOf w) (fun r1 σ2 => ?_)
  exact fun z => hret _ _ _ _ dX9_fit_4 rfl z

def w_X9_leaveOf (x1 : Int32) (x2 : Int32) (σ : bk_S) (post : Int32 → bk_S → Prop) : Prop :=
  w_X9_starts σ (fun σ1 =>
    bk_lt (α := bk_S) (bk_u σ1 0 17 x1) fun σ2 =>
    bk_lt (α := Int32) (0 : Int32) fun v3 =>
    bk_jn (α := bk_S) (fun a5 =>
      (¬ x2 = 0 → ((¬ x2 = (1 : Int32) → post (a5 0 44) a5) ∧ (x2 = (1 : Int32) → post (a5 0 43) a5))) ∧ (x2 = 0 → post (a5 0 42) a5)) (fun K4 =>
      bk_loop (α := Int32 × bk_S) (fun K6 a7 =>
        ((a7.2 0 2) ≤ a7.1 → K4 a7.2) ∧ (¬ (a7.2 0 2) ≤ a7.1 → (bk_lt (α := bk_S) (bk_u a7.2 0 18 a7.1) fun σ8 =>
        w_X9_tries a7.1 σ8 (fun σ9 =>
          bk_lt (α := Int32) (a7.1 + (1 : Int32)) fun v10 =>
          K6 (v10, σ9))))) (v3, σ2)))
set_option maxRecDepth 20000 in
theorem m_X9_leaveOf (w : bk_W) {x1 : Int32} {x2 : Int32} {σ : bk_S} {post : Int32 → bk_S → Prop} : w_X9_leaveOf x1 x2 σ post → bk_Mi lyM w yX9_leaveOf cX9_leaveOf 4 .int 7 159 [.ref (bk_r w 0), .int x1, .int x2] σ post := by
  intro h0
  refine bk_mi (by decide) (Nat.le_of_ble_eq_true rfl) (fun X hX hret => ?_)
  revert h0
  unfold w_X9_leaveOf
  show _ → bk_At lyM w X 0 [(0, .ref (bk_r w 0)), (1, .int x1), (2, .int x2)] [] σ
  refine bk_aload_n hX 0 dX9_leaveOf_0 rfl ?_
  refine bk_callV_v hX [] [] yk_X9_starts yv_X9_starts lk_X9_309 rfl rfl km_o rfl rfl (Nat.le_of_ble_eq_true rfl) ⟨Nat.le_of_ble_eq_true rfl, Nat.le_of_ble_eq_true rfl⟩ dX9_leaveOf_1 (m_X9_starts w) (fun σ1 => ?_)
  refine bk_aload_n hX 0 dX9_leaveOf_4 rfl ?_
  refine bk_iload_n hX 1 dX9_leaveOf_5 rfl ?_
  refine bk_putI hX km_o rfl fp_X9_179 dX9_leaveOf_6 (fun σ2 => ?_)
  refine bk_iconst hX bk_ci_0 dX9_leaveOf_9 ?_
  refine bk_istore_n hX (fun v3 => [(3, .int v3), (0, .ref (bk_r w 0)), (1, .int x1), (2, .int x2)]) dX9_leaveOf_10 (Nat.le_of_ble_eq_true rfl) (fun _ => rfl) (fun v3 => ?_)
  refine bk_r_jn (α := bk_S) (J := fun a => bk_At lyM w X 35 [(0, .ref (bk_r w 0)), (1, .int x1), (2, .int x2)] [] a) (fun a5 => ?_) (fun K4 hK4 => ?_)
  · refine bk_iload_n hX 2 dX9_leaveOf_35 rfl ?_
    refine bk_if_ne hX 46 dX9_leaveOf_36 rfl ?_ ?_
    · refine bk_iload_n hX 2 dX9_leaveOf_46 rfl ?_
      refine bk_iconst hX bk_ci_1 dX9_leaveOf_47 ?_
      refine bk_icmp_ne hX 58 dX9_leaveOf_48 rfl ?_ ?_
      · refine bk_aload_n hX 0 dX9_leaveOf_58 rfl ?_
        refine bk_geti hX km_o rfl fl_X9_306 dX9_leaveOf_59 ?_
        exact fun z => hret _ _ _ _ dX9_leaveOf_62 rfl z
      · refine bk_aload_n hX 0 dX9_leaveOf_51 rfl ?_
        refine bk_geti hX km_o rfl fl_X9_303 dX9_leaveOf_52 ?_
        refine bk_goto hX 62 dX9_leaveOf_55 rfl ?_
        exact fun z => hret _ _ _ _ dX9_leaveOf_62 rfl z
    · refine bk_aload_n hX 0 dX9_leaveOf_39 rfl ?_
      refine bk_geti hX km_o rfl fl_X9_300 dX9_leaveOf_40 ?_
      refine bk_goto hX 62 dX9_leaveOf_43 rfl ?_
      exact fun z => hret _ _ _ _ dX9_leaveOf_62 rfl z
  · refine bk_pick [0, 1, 2, 3] rfl (bk_r_loop (α := Int32 × bk_S) (J := fun a => bk_At lyM w X 11 [(3, .int a.1), (0, .ref (bk_r w 0)), (1, .int x1), (2, .int x2)] [] a.2) (v3, σ2) (fun K6 hK6 a7 => ?_))
    refine bk_iload_n hX 0 dX9_leaveOf_11 rfl ?_
    refine bk_aload_n hX 1 dX9_leaveOf_12 rfl ?_
    refine bk_geti hX km_o rfl fl_X9_117 dX9_leaveOf_13 ?_
    refine bk_icmp_ge hX 35 dX9_leaveOf_16 rfl ?_ ?_
    · exact bk_pick [1, 2, 3] rfl (hK4 a7.2)
    · refine bk_aload_n hX 1 dX9_leaveOf_19 rfl ?_
      refine bk_iload_n hX 0 dX9_leaveOf_20 rfl ?_
      refine bk_putI hX km_o rfl fp_X9_182 dX9_leaveOf_21 (fun σ8 => ?_)
      refine bk_aload_n hX 1 dX9_leaveOf_24 rfl ?_
      refine bk_iload_n hX 0 dX9_leaveOf_25 rfl ?_
      refine bk_callV_v hX [.int a7.1] [] yk_X9_tries yv_X9_tries lk_X9_315 rfl rfl km_o rfl rfl (Nat.le_of_ble_eq_true rfl) ⟨Nat.le_of_ble_eq_true rfl, Nat.le_of_ble_eq_true rfl⟩ dX9_leaveOf_26 (m_X9_tries w) (fun σ9 => ?_)
      refine bk_iinc hX 0 (fun v10 => [(3, .int v10), (0, .ref (bk_r w 0)), (1, .int x1), (2, .int x2)]) dX9_leaveOf_29 rfl bk_ci_1 (Nat.le_of_ble_eq_true rfl) (fun _ => rfl) (fun v10 => ?_)
      refine bk_goto hX 11 dX9_leaveOf_32 rfl ?_
      exact bk_pick [0, 1, 2, 3] rfl (hK6 (v10, σ9))

def w_X9_leaveTold (x1 : Int32) (x2 : Int32) (σ : bk_S) (post : Int32 → bk_S → Prop) : Prop :=
  w_X9_reads σ (fun σ1 =>
    (¬ (σ1 0 2) = 0 → (w_X9_leaveOf x1 x2 σ1 (fun r2 σ3 =>
      post r2 σ3))) ∧ ((σ1 0 2) = 0 → post (-1 : Int32) σ1))
set_option maxRecDepth 20000 in
theorem m_X9_leaveTold (w : bk_W) {x1 : Int32} {x2 : Int32} {σ : bk_S} {post : Int32 → bk_S → Prop} : w_X9_leaveTold x1 x2 σ post → bk_Mi lyM w yX9_leaveTold cX9_leaveTold 3 .int 8 182 [.ref (bk_r w 0), .int x1, .int x2] σ post := by
  intro h0
  refine bk_mi (by decide) (Nat.le_of_ble_eq_true rfl) (fun X hX hret => ?_)
  revert h0
  unfold w_X9_leaveTold
  show _ → bk_At lyM w X 0 [(0, .ref (bk_r w 0)), (1, .int x1), (2, .int x2)] [] σ
  refine bk_aload_n hX 0 dX9_leaveTold_0 rfl ?_
  refine bk_callV_v hX [] [] yk_X9_reads yv_X9_reads lk_X9_142 rfl rfl km_o rfl rfl (Nat.le_of_ble_eq_true rfl) ⟨Nat.le_of_ble_eq_true rfl, Nat.le_of_ble_eq_true rfl⟩ dX9_leaveTold_1 (m_X9_reads w) (fun σ1 => ?_)
  refine bk_aload_n hX 0 dX9_leaveTold_4 rfl ?_
  refine bk_geti hX km_o rfl fl_X9_117 dX9_leaveTold_5 ?_
  refine bk_if_ne hX 15 dX9_leaveTold_8 rfl ?_ ?_
  · refine bk_aload_n hX 0 dX9_leaveTold_15 rfl ?_
    refine bk_iload_n hX 1 dX9_leaveTold_16 rfl ?_
    refine bk_iload_n hX 2 dX9_leaveTold_17 rfl ?_
    refine bk_callV_i hX [.int x1, .int x2] [] yk_X9_leaveOf yv_X9_leaveOf lk_X9_324 rfl rfl km_o rfl rfl (Nat.le_of_ble_eq_true rfl) ⟨Nat.le_of_ble_eq_true rfl, Nat.le_of_ble_eq_true rfl⟩ dX9_leaveTold_18 (m_X9_leaveOf w) (fun r2 σ3 => ?_)
    exact fun z => hret _ _ _ _ dX9_leaveTold_21 rfl z
  · refine bk_iconst hX bk_ci_m1 dX9_leaveTold_11 ?_
    refine bk_goto hX 21 dX9_leaveTold_12 rfl ?_
    exact fun z => hret _ _ _ _ dX9_leaveTold_21 rfl z

def w_X9_leave (x1 : Int32) (x2 : Int32) (σ : bk_S) (post : Int32 → bk_S → Prop) : Prop :=
  w_X9_isTwelve x1 (fun r1 =>
    bk_jn (α := Unit) (fun a3 =>
      post (-2 : Int32) σ) (fun K2 =>
      (r1 = 0 → K2 ()) ∧ (¬ r1 = 0 → (w_X9_isThree x2 (fun r4 =>
        (r4 = 0 → K2 ()) ∧ (¬ r4 = 0 → (w_X9_leaveTold x1 x2 σ (fun r5 σ6 =>
          post r5 σ6))))))))
set_option maxRecDepth 20000 in
theorem m_X9_leave (w : bk_W) {x1 : Int32} {x2 : Int32} {σ : bk_S} {post : Int32 → bk_S → Prop} : w_X9_leave x1 x2 σ post → bk_Mi lyM w yX9_leave cX9_leave 3 .int 9 204 [.ref (bk_r w 0), .int x1, .int x2] σ post := by
  intro h0
  refine bk_mi (by decide) (Nat.le_of_ble_eq_true rfl) (fun X hX hret => ?_)
  revert h0
  unfold w_X9_leave
  show _ → bk_At lyM w X 0 [(0, .ref (bk_r w 0)), (1, .int x1), (2, .int x2)] [] σ
  refine bk_iload_n hX 1 dX9_leave_0 rfl ?_
  refine bk_callS_i hX [.int x1] [] yk_X9_isTwelve ys_X9_isTwelve lk_X9_157 rfl rfl (Nat.le_of_ble_eq_true rfl) ⟨Nat.le_of_ble_eq_true rfl, Nat.le_of_ble_eq_true rfl⟩ dX9_leave_1 (m_X9_isTwelve w) (bk_pu (fun r1 => ?_))
  refine bk_r_jn (α := Unit) (J := fun a => bk_At lyM w X 23 [(0, .ref (bk_r w 0)), (1, .int x1), (2, .int x2)] [] σ) (fun a3 => ?_) (fun K2 hK2 => ?_)
  · refine bk_bipush hX bk_cb_m2 dX9_leave_23 ?_
    exact fun z => hret _ _ _ _ dX9_leave_25 rfl z
  · refine bk_if_eq hX 23 dX9_leave_4 rfl ?_ ?_
    · exact bk_pick [0, 1, 2] rfl (hK2 ())
    · refine bk_iload_n hX 2 dX9_leave_7 rfl ?_
      refine bk_callS_i hX [.int x2] [] yk_X9_isThree ys_X9_isThree lk_X9_151 rfl rfl (Nat.le_of_ble_eq_true rfl) ⟨Nat.le_of_ble_eq_true rfl, Nat.le_of_ble_eq_true rfl⟩ dX9_leave_8 (m_X9_isThree w) (bk_pu (fun r4 => ?_))
      refine bk_if_eq hX 23 dX9_leave_11 rfl ?_ ?_
      · exact bk_pick [0, 1, 2] rfl (hK2 ())
      · refine bk_aload_n hX 0 dX9_leave_14 rfl ?_
        refine bk_iload_n hX 1 dX9_leave_15 rfl ?_
        refine bk_iload_n hX 2 dX9_leave_16 rfl ?_
        refine bk_callV_i hX [.int x1, .int x2] [] yk_X9_leaveTold yv_X9_leaveTold lk_X9_327 rfl rfl km_o rfl rfl (Nat.le_of_ble_eq_true rfl) ⟨Nat.le_of_ble_eq_true rfl, Nat.le_of_ble_eq_true rfl⟩ dX9_leave_17 (m_X9_leaveTold w) (fun r5 σ6 => ?_)
        refine bk_goto hX 25 dX9_leave_20 rfl ?_
        exact fun z => hret _ _ _ _ dX9_leave_25 rfl z

def w_X9_isSpared (x1 : Int32) (σ : bk_S) (post : Int32 → bk_S → Prop) : Prop :=
  bk_lt (α := bk_S) (bk_u σ 0 19 x1) fun σ1 =>
  w_X9_runs σ1 (fun σ2 =>
    w_X9_manySettled σ2 (fun r3 =>
      (¬ r3 = (σ2 0 4) → post (0 : Int32) σ2) ∧ (r3 = (σ2 0 4) → post (1 : Int32) σ2)))
set_option maxRecDepth 20000 in
theorem m_X9_isSpared (w : bk_W) {x1 : Int32} {σ : bk_S} {post : Int32 → bk_S → Prop} : w_X9_isSpared x1 σ post → bk_Mi lyM w yX9_isSpared cX9_isSpared 2 .boolean 6 137 [.ref (bk_r w 0), .int x1] σ post := by
  intro h0
  refine bk_mi (by decide) (Nat.le_of_ble_eq_true rfl) (fun X hX hret => ?_)
  revert h0
  unfold w_X9_isSpared
  show _ → bk_At lyM w X 0 [(0, .ref (bk_r w 0)), (1, .int x1)] [] σ
  refine bk_aload_n hX 0 dX9_isSpared_0 rfl ?_
  refine bk_iload_n hX 1 dX9_isSpared_1 rfl ?_
  refine bk_putI hX km_o rfl fp_X9_185 dX9_isSpared_2 (fun σ1 => ?_)
  refine bk_aload_n hX 0 dX9_isSpared_5 rfl ?_
  refine bk_callV_v hX [] [] yk_X9_runs yv_X9_runs lk_X9_264 rfl rfl km_o rfl rfl (Nat.le_of_ble_eq_true rfl) ⟨Nat.le_of_ble_eq_true rfl, Nat.le_of_ble_eq_true rfl⟩ dX9_isSpared_6 (m_X9_runs w) (fun σ2 => ?_)
  refine bk_aload_n hX 0 dX9_isSpared_9 rfl ?_
  refine bk_callV_i hX [] [] yk_X9_manySettled yv_X9_manySettled lk_X9_282 rfl rfl km_o rfl rfl (Nat.le_of_ble_eq_true rfl) ⟨Nat.le_of_ble_eq_true rfl, Nat.le_of_ble_eq_true rfl⟩ dX9_isSpared_10 (m_X9_manySettled w) (bk_pu (fun r3 => ?_))
  refine bk_aload_n hX 0 dX9_isSpared_13 rfl ?_
  refine bk_geti hX km_o rfl fl_X9_125 dX9_isSpared_14 ?_
  refine bk_icmp_ne hX 24 dX9_isSpared_17 rfl ?_ ?_
  · refine bk_iconst hX bk_ci_0 dX9_isSpared_24 ?_
    exact fun z => hret _ _ _ _ dX9_isSpared_25 rfl z
  · refine bk_iconst hX bk_ci_1 dX9_isSpared_20 ?_
    refine bk_goto hX 25 dX9_isSpared_21 rfl ?_
    exact fun z => hret _ _ _ _ dX9_isSpared_25 rfl z

def w_X9_spareBy (σ : bk_S) (post : Int32 → bk_S → Prop) : Prop :=
  w_X9_asTold σ (fun σ1 =>
    w_X9_isSpared (0 : Int32) σ1 (fun r2 σ3 =>
      (r2 = 0 → (bk_lt (α := Int32) (0 : Int32) fun v4 =>
      bk_jn (α := bk_S) (fun a6 =>
        bk_lt (α := Int32) (0 : Int32) fun v13 =>
        bk_loop (α := Int32 × bk_S) (fun K14 a15 =>
          ((a15.2 0 8) ≤ a15.1 → post (-1 : Int32) a15.2) ∧ (¬ (a15.2 0 8) ≤ a15.1 → (bk_lt (α := Int32) (a15.1 + (1 : Int32)) fun v16 =>
          bk_loop (α := Int32 × bk_S) (fun K17 a18 =>
            ((a18.2 0 8) ≤ a18.1 → (bk_lt (α := Int32) (a15.1 + (1 : Int32)) fun v19 =>
            K14 (v19, a18.2))) ∧ (¬ (a18.2 0 8) ≤ a18.1 → (vp_in (0 : Int32) 2 ∧ bk_lt (α := bk_S) (bk_u a18.2 46 (Int32.toNatClampNeg (0 : Int32)) a15.1) fun σ20 =>
            vp_in (1 : Int32) 2 ∧ bk_lt (α := bk_S) (bk_u σ20 46 (Int32.toNatClampNeg (1 : Int32)) a18.1) fun σ21 =>
            w_X9_isSpared (((1 : Int32) <<< (a15.1 &&& 31)) ||| ((1 : Int32) <<< (a18.1 &&& 31))) σ21 (fun r22 σ23 =>
              (r22 = 0 → (bk_lt (α := Int32) (a18.1 + (1 : Int32)) fun v24 =>
              K17 (v24, σ23))) ∧ (¬ r22 = 0 → post (2 : Int32) σ23))))) (v16, a15.2)))) (v13, a6)) (fun K5 =>
        bk_loop (α := Int32 × bk_S) (fun K7 a8 =>
          ((a8.2 0 8) ≤ a8.1 → K5 a8.2) ∧ (¬ (a8.2 0 8) ≤ a8.1 → (vp_in (0 : Int32) 2 ∧ bk_lt (α := bk_S) (bk_u a8.2 46 (Int32.toNatClampNeg (0 : Int32)) a8.1) fun σ9 =>
          w_X9_isSpared ((1 : Int32) <<< (a8.1 &&& 31)) σ9 (fun r10 σ11 =>
            (r10 = 0 → (bk_lt (α := Int32) (a8.1 + (1 : Int32)) fun v12 =>
            K7 (v12, σ11))) ∧ (¬ r10 = 0 → post (1 : Int32) σ11))))) (v4, σ3)))) ∧ (¬ r2 = 0 → post (0 : Int32) σ3)))
set_option maxRecDepth 20000 in
theorem m_X9_spareBy (w : bk_W) {σ : bk_S} {post : Int32 → bk_S → Prop} : w_X9_spareBy σ post → bk_Mi lyM w yX9_spareBy cX9_spareBy 3 .int 7 158 [.ref (bk_r w 0)] σ post := by
  intro h0
  refine bk_mi (by decide) (Nat.le_of_ble_eq_true rfl) (fun X hX hret => ?_)
  revert h0
  unfold w_X9_spareBy
  show _ → bk_At lyM w X 0 [(0, .ref (bk_r w 0))] [] σ
  refine bk_aload_n hX 0 dX9_spareBy_0 rfl ?_
  refine bk_callV_v hX [] [] yk_X9_asTold yv_X9_asTold lk_X9_261 rfl rfl km_o rfl rfl (Nat.le_of_ble_eq_true rfl) ⟨Nat.le_of_ble_eq_true rfl, Nat.le_of_ble_eq_true rfl⟩ dX9_spareBy_1 (m_X9_asTold w) (fun σ1 => ?_)
  refine bk_aload_n hX 0 dX9_spareBy_4 rfl ?_
  refine bk_iconst hX bk_ci_0 dX9_spareBy_5 ?_
  refine bk_callV_i hX [.int (0 : Int32)] [] yk_X9_isSpared yv_X9_isSpared lk_X9_330 rfl rfl km_o rfl rfl (Nat.le_of_ble_eq_true rfl) ⟨Nat.le_of_ble_eq_true rfl, Nat.le_of_ble_eq_true rfl⟩ dX9_spareBy_6 (m_X9_isSpared w) (fun r2 σ3 => ?_)
  refine bk_if_eq hX 14 dX9_spareBy_9 rfl ?_ ?_
  · refine bk_iconst hX bk_ci_0 dX9_spareBy_14 ?_
    refine bk_istore_n hX (fun v4 => [(1, .int v4), (0, .ref (bk_r w 0))]) dX9_spareBy_15 (Nat.le_of_ble_eq_true rfl) (fun _ => rfl) (fun v4 => ?_)
    refine bk_r_jn (α := bk_S) (J := fun a => bk_At lyM w X 49 [(0, .ref (bk_r w 0))] [] a) (fun a6 => ?_) (fun K5 hK5 => ?_)
    · refine bk_iconst hX bk_ci_0 dX9_spareBy_49 ?_
      refine bk_istore_n hX (fun v13 => [(1, .int v13), (0, .ref (bk_r w 0))]) dX9_spareBy_50 (Nat.le_of_ble_eq_true rfl) (fun _ => rfl) (fun v13 => ?_)
      refine bk_pick [0, 1] rfl (bk_r_loop (α := Int32 × bk_S) (J := fun a => bk_At lyM w X 51 [(1, .int a.1), (0, .ref (bk_r w 0))] [] a.2) (v13, a6) (fun K14 hK14 a15 => ?_))
      refine bk_iload_n hX 0 dX9_spareBy_51 rfl ?_
      refine bk_aload_n hX 1 dX9_spareBy_52 rfl ?_
      refine bk_geti hX km_o rfl fl_X9_160 dX9_spareBy_53 ?_
      refine bk_icmp_ge hX 113 dX9_spareBy_56 rfl ?_ ?_
      · refine bk_iconst hX bk_ci_m1 dX9_spareBy_113 ?_
        exact fun z => hret _ _ _ _ dX9_spareBy_114 rfl z
      · refine bk_iload_n hX 0 dX9_spareBy_59 rfl ?_
        refine bk_iconst hX bk_ci_1 dX9_spareBy_60 ?_
        refine bk_iadd hX dX9_spareBy_61 ?_
        refine bk_istore_n hX (fun v16 => [(2, .int v16), (1, .int a15.1), (0, .ref (bk_r w 0))]) dX9_spareBy_62 (Nat.le_of_ble_eq_true rfl) (fun _ => rfl) (fun v16 => ?_)
        refine bk_pick [0, 1, 2] rfl (bk_r_loop (α := Int32 × bk_S) (J := fun a => bk_At lyM w X 63 [(2, .int a.1), (1, .int a15.1), (0, .ref (bk_r w 0))] [] a.2) (v16, a15.2) (fun K17 hK17 a18 => ?_))
        refine bk_iload_n hX 0 dX9_spareBy_63 rfl ?_
        refine bk_aload_n hX 2 dX9_spareBy_64 rfl ?_
        refine bk_geti hX km_o rfl fl_X9_160 dX9_spareBy_65 ?_
        refine bk_icmp_ge hX 107 dX9_spareBy_68 rfl ?_ ?_
        · refine bk_iinc hX 1 (fun v19 => [(1, .int v19), (2, .int a18.1), (0, .ref (bk_r w 0))]) dX9_spareBy_107 rfl bk_ci_1 (Nat.le_of_ble_eq_true rfl) (fun _ => rfl) (fun v19 => ?_)
          refine bk_goto hX 51 dX9_spareBy_110 rfl ?_
          exact bk_pick [0, 2] rfl (hK14 (v19, a18.2))
        · refine bk_aload_n hX 2 dX9_spareBy_71 rfl ?_
          refine bk_getr hX km_o rfl fl_X9_76 dX9_spareBy_72 ?_
          refine bk_iconst hX bk_ci_0 dX9_spareBy_75 ?_
          refine bk_iload_n hX 1 dX9_spareBy_76 rfl ?_
          refine bk_iastore hX km_46 dX9_spareBy_77 (fun σ20 => ?_)
          refine bk_aload_n hX 2 dX9_spareBy_78 rfl ?_
          refine bk_getr hX km_o rfl fl_X9_76 dX9_spareBy_79 ?_
          refine bk_iconst hX bk_ci_1 dX9_spareBy_82 ?_
          refine bk_iload_n hX 0 dX9_spareBy_83 rfl ?_
          refine bk_iastore hX km_46 dX9_spareBy_84 (fun σ21 => ?_)
          refine bk_aload_n hX 2 dX9_spareBy_85 rfl ?_
          refine bk_iconst hX bk_ci_1 dX9_spareBy_86 ?_
          refine bk_iload_n hX 1 dX9_spareBy_87 rfl ?_
          refine bk_ishl hX dX9_spareBy_88 ?_
          refine bk_iconst hX bk_ci_1 dX9_spareBy_89 ?_
          refine bk_iload_n hX 0 dX9_spareBy_90 rfl ?_
          refine bk_ishl hX dX9_spareBy_91 ?_
          refine bk_ior hX dX9_spareBy_92 ?_
          refine bk_callV_i hX [.int (((1 : Int32) <<< (a15.1 &&& 31)) ||| ((1 : Int32) <<< (a18.1 &&& 31)))] [] yk_X9_isSpared yv_X9_isSpared lk_X9_330 rfl rfl km_o rfl rfl (Nat.le_of_ble_eq_true rfl) ⟨Nat.le_of_ble_eq_true rfl, Nat.le_of_ble_eq_true rfl⟩ dX9_spareBy_93 (m_X9_isSpared w) (fun r22 σ23 => ?_)
          refine bk_if_eq hX 101 dX9_spareBy_96 rfl ?_ ?_
          · refine bk_iinc hX 0 (fun v24 => [(2, .int v24), (1, .int a15.1), (0, .ref (bk_r w 0))]) dX9_spareBy_101 rfl bk_ci_1 (Nat.le_of_ble_eq_true rfl) (fun _ => rfl) (fun v24 => ?_)
            refine bk_goto hX 63 dX9_spareBy_104 rfl ?_
            exact bk_pick [0, 1, 2] rfl (hK17 (v24, σ23))
          · refine bk_iconst hX bk_ci_2 dX9_spareBy_99 ?_
            exact fun z => hret _ _ _ _ dX9_spareBy_100 rfl z
    · refine bk_pick [0, 1] rfl (bk_r_loop (α := Int32 × bk_S) (J := fun a => bk_At lyM w X 16 [(1, .int a.1), (0, .ref (bk_r w 0))] [] a.2) (v4, σ3) (fun K7 hK7 a8 => ?_))
      refine bk_iload_n hX 0 dX9_spareBy_16 rfl ?_
      refine bk_aload_n hX 1 dX9_spareBy_17 rfl ?_
      refine bk_geti hX km_o rfl fl_X9_160 dX9_spareBy_18 ?_
      refine bk_icmp_ge hX 49 dX9_spareBy_21 rfl ?_ ?_
      · exact bk_pick [1] rfl (hK5 a8.2)
      · refine bk_aload_n hX 1 dX9_spareBy_24 rfl ?_
        refine bk_getr hX km_o rfl fl_X9_76 dX9_spareBy_25 ?_
        refine bk_iconst hX bk_ci_0 dX9_spareBy_28 ?_
        refine bk_iload_n hX 0 dX9_spareBy_29 rfl ?_
        refine bk_iastore hX km_46 dX9_spareBy_30 (fun σ9 => ?_)
        refine bk_aload_n hX 1 dX9_spareBy_31 rfl ?_
        refine bk_iconst hX bk_ci_1 dX9_spareBy_32 ?_
        refine bk_iload_n hX 0 dX9_spareBy_33 rfl ?_
        refine bk_ishl hX dX9_spareBy_34 ?_
        refine bk_callV_i hX [.int ((1 : Int32) <<< (a8.1 &&& 31))] [] yk_X9_isSpared yv_X9_isSpared lk_X9_330 rfl rfl km_o rfl rfl (Nat.le_of_ble_eq_true rfl) ⟨Nat.le_of_ble_eq_true rfl, Nat.le_of_ble_eq_true rfl⟩ dX9_spareBy_35 (m_X9_isSpared w) (fun r10 σ11 => ?_)
        refine bk_if_eq hX 43 dX9_spareBy_38 rfl ?_ ?_
        · refine bk_iinc hX 0 (fun v12 => [(1, .int v12), (0, .ref (bk_r w 0))]) dX9_spareBy_43 rfl bk_ci_1 (Nat.le_of_ble_eq_true rfl) (fun _ => rfl) (fun v12 => ?_)
          refine bk_goto hX 16 dX9_spareBy_46 rfl ?_
          exact bk_pick [0, 1] rfl (hK7 (v12, σ11))
        · refine bk_iconst hX bk_ci_1 dX9_spareBy_41 ?_
          exact fun z => hret _ _ _ _ dX9_spareBy_42 rfl z
  · refine bk_iconst hX bk_ci_0 dX9_spareBy_12 ?_
    exact fun z => hret _ _ _ _ dX9_spareBy_13 rfl z

def w_X9_ofRow (x1 : Int32) (x2 : Int32) (σ : bk_S) (post : Int32 → Prop) : Prop :=
  (¬ x2 = (-1 : Int32) → ((x1 ≤ x2 → post (-1 : Int32)) ∧ (¬ x1 ≤ x2 → (vp_in x2 2 ∧ post (σ 46 (Int32.toNatClampNeg x2)))))) ∧ (x2 = (-1 : Int32) → post x1)
set_option maxRecDepth 20000 in
theorem m_X9_ofRow (w : bk_W) {x1 : Int32} {x2 : Int32} {σ : bk_S} {post : Int32 → Prop} : w_X9_ofRow x1 x2 σ post → bk_Mi lyM w yX9_ofRow cX9_ofRow 3 .int 0 0 [.ref (bk_r w 0), .int x1, .int x2] σ (fun r σ1 => post r ∧ σ1 = σ) := by
  intro h0
  refine bk_mi (by decide) (Nat.le_of_ble_eq_true rfl) (fun X hX hret => ?_)
  revert h0
  unfold w_X9_ofRow
  show _ → bk_At lyM w X 0 [(0, .ref (bk_r w 0)), (1, .int x1), (2, .int x2)] [] σ
  refine bk_iload_n hX 2 dX9_ofRow_0 rfl ?_
  refine bk_iconst hX bk_ci_m1 dX9_ofRow_1 ?_
  refine bk_icmp_ne hX 9 dX9_ofRow_2 rfl ?_ ?_
  · refine bk_iload_n hX 2 dX9_ofRow_9 rfl ?_
    refine bk_iload_n hX 1 dX9_ofRow_10 rfl ?_
    refine bk_icmp_ge hX 23 dX9_ofRow_11 rfl ?_ ?_
    · refine bk_iconst hX bk_ci_m1 dX9_ofRow_23 ?_
      exact fun z => hret _ _ _ _ dX9_ofRow_24 rfl ⟨z, rfl⟩
    · refine bk_aload_n hX 0 dX9_ofRow_14 rfl ?_
      refine bk_getr hX km_o rfl fl_X9_76 dX9_ofRow_15 ?_
      refine bk_iload_n hX 2 dX9_ofRow_18 rfl ?_
      refine bk_iaload hX km_46 dX9_ofRow_19 ?_
      refine bk_goto hX 24 dX9_ofRow_20 rfl ?_
      exact fun z => hret _ _ _ _ dX9_ofRow_24 rfl ⟨z, rfl⟩
  · refine bk_iload_n hX 1 dX9_ofRow_5 rfl ?_
    refine bk_goto hX 24 dX9_ofRow_6 rfl ?_
    exact fun z => hret _ _ _ _ dX9_ofRow_24 rfl ⟨z, rfl⟩

def w_X9_spare (x1 : Int32) (σ : bk_S) (post : Int32 → bk_S → Prop) : Prop :=
  w_X9_in x1 (-1 : Int32) (1 : Int32) (fun r1 =>
    (r1 = 0 → post (-2 : Int32) σ) ∧ (¬ r1 = 0 → (w_X9_spareBy σ (fun r2 σ3 =>
      w_X9_ofRow r2 x1 σ3 (fun r4 =>
        post r4 σ3)))))
set_option maxRecDepth 20000 in
theorem m_X9_spare (w : bk_W) {x1 : Int32} {σ : bk_S} {post : Int32 → bk_S → Prop} : w_X9_spare x1 σ post → bk_Mi lyM w yX9_spare cX9_spare 2 .int 8 180 [.ref (bk_r w 0), .int x1] σ post := by
  intro h0
  refine bk_mi (by decide) (Nat.le_of_ble_eq_true rfl) (fun X hX hret => ?_)
  revert h0
  unfold w_X9_spare
  show _ → bk_At lyM w X 0 [(0, .ref (bk_r w 0)), (1, .int x1)] [] σ
  refine bk_iload_n hX 1 dX9_spare_0 rfl ?_
  refine bk_iconst hX bk_ci_m1 dX9_spare_1 ?_
  refine bk_iconst hX bk_ci_1 dX9_spare_2 ?_
  refine bk_callS_i hX [.int x1, .int (-1 : Int32), .int (1 : Int32)] [] yk_X9_in ys_X9_in lk_X9_109 rfl rfl (Nat.le_of_ble_eq_true rfl) ⟨Nat.le_of_ble_eq_true rfl, Nat.le_of_ble_eq_true rfl⟩ dX9_spare_3 (m_X9_in w) (bk_pu (fun r1 => ?_))
  refine bk_if_eq hX 21 dX9_spare_6 rfl ?_ ?_
  · refine bk_bipush hX bk_cb_m2 dX9_spare_21 ?_
    exact fun z => hret _ _ _ _ dX9_spare_23 rfl z
  · refine bk_aload_n hX 0 dX9_spare_9 rfl ?_
    refine bk_aload_n hX 0 dX9_spare_10 rfl ?_
    refine bk_callV_i hX [] [.ref (bk_r w 0)] yk_X9_spareBy yv_X9_spareBy lk_X9_333 rfl rfl km_o rfl rfl (Nat.le_of_ble_eq_true rfl) ⟨Nat.le_of_ble_eq_true rfl, Nat.le_of_ble_eq_true rfl⟩ dX9_spare_11 (m_X9_spareBy w) (fun r2 σ3 => ?_)
    refine bk_iload_n hX 1 dX9_spare_14 rfl ?_
    refine bk_callV_i hX [.int r2, .int x1] [] yk_X9_ofRow yv_X9_ofRow lk_X9_336 rfl rfl km_o rfl rfl (Nat.le_of_ble_eq_true rfl) ⟨Nat.le_of_ble_eq_true rfl, Nat.le_of_ble_eq_true rfl⟩ dX9_spare_15 (m_X9_ofRow w) (bk_pu (fun r4 => ?_))
    refine bk_goto hX 23 dX9_spare_18 rfl ?_
    exact fun z => hret _ _ _ _ dX9_spare_23 rfl z

def w_X9_seen (x1 : Int32) (x2 : Int32) (x3 : Int32) (σ : bk_S) (post : Int32 → bk_S → Prop) : Prop :=
  w_X9_isTwelve x1 (fun r1 =>
    (r1 = 0 → post (-2 : Int32) σ) ∧ (¬ r1 = 0 → (w_X9_in x2 (0 : Int32) (7 : Int32) (fun r2 =>
      (r2 = 0 → post (-2 : Int32) σ) ∧ (¬ r2 = 0 → (w_X9_isTwo x3 (fun r3 =>
        (¬ r3 = 0 → ((¬ (σ 0 46) = (8 : Int32) → (vp_in (σ 0 46) 8 ∧ bk_lt (α := bk_S) (bk_u σ 48 (Int32.toNatClampNeg (σ 0 46)) x1) fun σ4 =>
        vp_in (σ4 0 46) 8 ∧ bk_lt (α := bk_S) (bk_u σ4 49 (Int32.toNatClampNeg (σ4 0 46)) x2) fun σ5 =>
        vp_in (σ5 0 46) 8 ∧ bk_lt (α := bk_S) (bk_u σ5 50 (Int32.toNatClampNeg (σ5 0 46)) x3) fun σ6 =>
        bk_lt (α := bk_S) (bk_u σ6 0 46 ((σ6 0 46) + (1 : Int32))) fun σ7 =>
        post (σ7 0 46) σ7)) ∧ ((σ 0 46) = (8 : Int32) → post (-4 : Int32) σ))) ∧ (r3 = 0 → post (-2 : Int32) σ))))))))
set_option maxRecDepth 20000 in
theorem m_X9_seen (w : bk_W) {x1 : Int32} {x2 : Int32} {x3 : Int32} {σ : bk_S} {post : Int32 → bk_S → Prop} : w_X9_seen x1 x2 x3 σ post → bk_Mi lyM w yX9_seen cX9_seen 4 .int 2 42 [.ref (bk_r w 0), .int x1, .int x2, .int x3] σ post := by
  intro h0
  refine bk_mi (by decide) (Nat.le_of_ble_eq_true rfl) (fun X hX hret => ?_)
  revert h0
  unfold w_X9_seen
  show _ → bk_At lyM w X 0 [(0, .ref (bk_r w 0)), (1, .int x1), (2, .int x2), (3, .int x3)] [] σ
  refine bk_iload_n hX 1 dX9_seen_0 rfl ?_
  refine bk_callS_i hX [.int x1] [] yk_X9_isTwelve ys_X9_isTwelve lk_X9_157 rfl rfl (Nat.le_of_ble_eq_true rfl) ⟨Nat.le_of_ble_eq_true rfl, Nat.le_of_ble_eq_true rfl⟩ dX9_seen_1 (m_X9_isTwelve w) (bk_pu (fun r1 => ?_))
  refine bk_if_eq hX 24 dX9_seen_4 rfl ?_ ?_
  · refine bk_bipush hX bk_cb_m2 dX9_seen_24 ?_
    exact fun z => hret _ _ _ _ dX9_seen_26 rfl z
  · refine bk_iload_n hX 2 dX9_seen_7 rfl ?_
    refine bk_iconst hX bk_ci_0 dX9_seen_8 ?_
    refine bk_bipush hX bk_cb_7 dX9_seen_9 ?_
    refine bk_callS_i hX [.int x2, .int (0 : Int32), .int (7 : Int32)] [] yk_X9_in ys_X9_in lk_X9_109 rfl rfl (Nat.le_of_ble_eq_true rfl) ⟨Nat.le_of_ble_eq_true rfl, Nat.le_of_ble_eq_true rfl⟩ dX9_seen_11 (m_X9_in w) (bk_pu (fun r2 => ?_))
    refine bk_if_eq hX 24 dX9_seen_14 rfl ?_ ?_
    · refine bk_bipush hX bk_cb_m2 dX9_seen_24 ?_
      exact fun z => hret _ _ _ _ dX9_seen_26 rfl z
    · refine bk_iload_n hX 3 dX9_seen_17 rfl ?_
      refine bk_callS_i hX [.int x3] [] yk_X9_isTwo ys_X9_isTwo lk_X9_113 rfl rfl (Nat.le_of_ble_eq_true rfl) ⟨Nat.le_of_ble_eq_true rfl, Nat.le_of_ble_eq_true rfl⟩ dX9_seen_18 (m_X9_isTwo w) (bk_pu (fun r3 => ?_))
      refine bk_if_ne hX 27 dX9_seen_21 rfl ?_ ?_
      · refine bk_aload_n hX 0 dX9_seen_27 rfl ?_
        refine bk_geti hX km_o rfl fl_X9_339 dX9_seen_28 ?_
        refine bk_bipush hX bk_cb_8 dX9_seen_31 ?_
        refine bk_icmp_ne hX 39 dX9_seen_33 rfl ?_ ?_
        · refine bk_aload_n hX 0 dX9_seen_39 rfl ?_
          refine bk_getr hX km_o rfl fl_X9_79 dX9_seen_40 ?_
          refine bk_aload_n hX 0 dX9_seen_43 rfl ?_
          refine bk_geti hX km_o rfl fl_X9_339 dX9_seen_44 ?_
          refine bk_iload_n hX 1 dX9_seen_47 rfl ?_
          refine bk_iastore hX km_48 dX9_seen_48 (fun σ4 => ?_)
          refine bk_aload_n hX 0 dX9_seen_49 rfl ?_
          refine bk_getr hX km_o rfl fl_X9_82 dX9_seen_50 ?_
          refine bk_aload_n hX 0 dX9_seen_53 rfl ?_
          refine bk_geti hX km_o rfl fl_X9_339 dX9_seen_54 ?_
          refine bk_iload_n hX 2 dX9_seen_57 rfl ?_
          refine bk_iastore hX km_49 dX9_seen_58 (fun σ5 => ?_)
          refine bk_aload_n hX 0 dX9_seen_59 rfl ?_
          refine bk_getr hX km_o rfl fl_X9_85 dX9_seen_60 ?_
          refine bk_aload_n hX 0 dX9_seen_63 rfl ?_
          refine bk_geti hX km_o rfl fl_X9_339 dX9_seen_64 ?_
          refine bk_iload_n hX 3 dX9_seen_67 rfl ?_
          refine bk_iastore hX km_50 dX9_seen_68 (fun σ6 => ?_)
          refine bk_aload_n hX 0 dX9_seen_69 rfl ?_
          refine bk_dup hX rfl dX9_seen_70 ?_
          refine bk_geti hX km_o rfl fl_X9_339 dX9_seen_71 ?_
          refine bk_iconst hX bk_ci_1 dX9_seen_74 ?_
          refine bk_iadd hX dX9_seen_75 ?_
          refine bk_putI hX km_o rfl fp_X9_339 dX9_seen_76 (fun σ7 => ?_)
          refine bk_aload_n hX 0 dX9_seen_79 rfl ?_
          refine bk_geti hX km_o rfl fl_X9_339 dX9_seen_80 ?_
          exact fun z => hret _ _ _ _ dX9_seen_83 rfl z
        · refine bk_bipush hX bk_cb_m4 dX9_seen_36 ?_
          exact fun z => hret _ _ _ _ dX9_seen_38 rfl z
      · refine bk_bipush hX bk_cb_m2 dX9_seen_24 ?_
        exact fun z => hret _ _ _ _ dX9_seen_26 rfl z

def w_X9_forget (σ : bk_S) (post : Int32 → bk_S → Prop) : Prop :=
  bk_lt (α := Int32) (σ 0 46) fun v1 =>
  bk_lt (α := bk_S) (bk_u σ 0 46 (0 : Int32)) fun σ2 =>
  post v1 σ2
set_option maxRecDepth 20000 in
theorem m_X9_forget (w : bk_W) {σ : bk_S} {post : Int32 → bk_S → Prop} : w_X9_forget σ post → bk_Mi lyM w yX9_forget cX9_forget 2 .int 0 0 [.ref (bk_r w 0)] σ post := by
  intro h0
  refine bk_mi (by decide) (Nat.le_of_ble_eq_true rfl) (fun X hX hret => ?_)
  revert h0
  unfold w_X9_forget
  show _ → bk_At lyM w X 0 [(0, .ref (bk_r w 0))] [] σ
  refine bk_aload_n hX 0 dX9_forget_0 rfl ?_
  refine bk_geti hX km_o rfl fl_X9_339 dX9_forget_1 ?_
  refine bk_istore_n hX (fun v1 => [(1, .int v1), (0, .ref (bk_r w 0))]) dX9_forget_4 (Nat.le_of_ble_eq_true rfl) (fun _ => rfl) (fun v1 => ?_)
  refine bk_aload_n hX 1 dX9_forget_5 rfl ?_
  refine bk_iconst hX bk_ci_0 dX9_forget_6 ?_
  refine bk_putI hX km_o rfl fp_X9_339 dX9_forget_7 (fun σ2 => ?_)
  refine bk_iload_n hX 0 dX9_forget_10 rfl ?_
  exact fun z => hret _ _ _ _ dX9_forget_11 rfl z

def w_X9_isSeen (σ : bk_S) (post : Int32 → bk_S → Prop) : Prop :=
  w_X9_runs σ (fun σ1 =>
    bk_lt (α := Int32) (1 : Int32) fun v2 =>
    bk_lt (α := Int32) (0 : Int32) fun v3 =>
    bk_loop (α := Int32 × Int32) (fun K4 a5 =>
      ((σ1 0 46) ≤ a5.2 → (narrow .boolean (.int a5.1) = .int a5.1 ∧ post a5.1 σ1)) ∧ (¬ (σ1 0 46) ≤ a5.2 → ((a5.1 = 0 → (narrow .boolean (.int a5.1) = .int a5.1 ∧ post a5.1 σ1)) ∧ (¬ a5.1 = 0 → (vp_in a5.2 8 ∧ bk_jn (α := Unit) (fun a7 =>
        bk_lt (α := Int32) (0 : Int32) fun v13 =>
        bk_lt (α := Int32) (a5.2 + (1 : Int32)) fun v14 =>
        K4 (v13, v14)) (fun K6 =>
        ((σ1 0 4) ≤ (σ1 49 (Int32.toNatClampNeg a5.2)) → K6 ()) ∧ (¬ (σ1 0 4) ≤ (σ1 49 (Int32.toNatClampNeg a5.2)) → (vp_in a5.2 8 ∧ vp_in (σ1 48 (Int32.toNatClampNeg a5.2)) 12 ∧ vp_in a5.2 8 ∧ w_X9_isIn (σ1 42 (Int32.toNatClampNeg (σ1 48 (Int32.toNatClampNeg a5.2)))) (σ1 49 (Int32.toNatClampNeg a5.2)) (fun r8 =>
          vp_in a5.2 8 ∧ bk_lt (α := Int32) (if (σ1 50 (Int32.toNatClampNeg a5.2)) = (1 : Int32) then (1 : Int32) else (0 : Int32)) fun a10 =>
          (¬ r8 = a10 → K6 ()) ∧ (r8 = a10 → (bk_lt (α := Int32) (1 : Int32) fun v11 =>
          bk_lt (α := Int32) (a5.2 + (1 : Int32)) fun v12 =>
          K4 (v11, v12)))))))))))) (v2, v3))
set_option maxRecDepth 20000 in
theorem m_X9_isSeen (w : bk_W) {σ : bk_S} {post : Int32 → bk_S → Prop} : w_X9_isSeen σ post → bk_Mi lyM w yX9_isSeen cX9_isSeen 3 .boolean 6 137 [.ref (bk_r w 0)] σ post := by
  intro h0
  refine bk_mi (by decide) (Nat.le_of_ble_eq_true rfl) (fun X hX hret => ?_)
  revert h0
  unfold w_X9_isSeen
  show _ → bk_At lyM w X 0 [(0, .ref (bk_r w 0))] [] σ
  refine bk_aload_n hX 0 dX9_isSeen_0 rfl ?_
  refine bk_callV_v hX [] [] yk_X9_runs yv_X9_runs lk_X9_264 rfl rfl km_o rfl rfl (Nat.le_of_ble_eq_true rfl) ⟨Nat.le_of_ble_eq_true rfl, Nat.le_of_ble_eq_true rfl⟩ dX9_isSeen_1 (m_X9_runs w) (fun σ1 => ?_)
  refine bk_iconst hX bk_ci_1 dX9_isSeen_4 ?_
  refine bk_istore_n hX (fun v2 => [(1, .int v2), (0, .ref (bk_r w 0))]) dX9_isSeen_5 (Nat.le_of_ble_eq_true rfl) (fun _ => rfl) (fun v2 => ?_)
  refine bk_iconst hX bk_ci_0 dX9_isSeen_6 ?_
  refine bk_istore_n hX (fun v3 => [(2, .int v3), (1, .int v2), (0, .ref (bk_r w 0))]) dX9_isSeen_7 (Nat.le_of_ble_eq_true rfl) (fun _ => rfl) (fun v3 => ?_)
  refine bk_pick [0, 1, 2] rfl (bk_r_loop (α := Int32 × Int32) (J := fun a => bk_At lyM w X 8 [(2, .int a.2), (1, .int a.1), (0, .ref (bk_r w 0))] [] σ1) (v2, v3) (fun K4 hK4 a5 => ?_))
  refine bk_iload_n hX 0 dX9_isSeen_8 rfl ?_
  refine bk_aload_n hX 2 dX9_isSeen_9 rfl ?_
  refine bk_geti hX km_o rfl fl_X9_339 dX9_isSeen_10 ?_
  refine bk_icmp_ge hX 83 dX9_isSeen_13 rfl ?_ ?_
  · refine bk_iload_n hX 1 dX9_isSeen_83 rfl ?_
    exact fun z => hret _ _ _ _ dX9_isSeen_84 z.1 z.2
  · refine bk_iload_n hX 1 dX9_isSeen_16 rfl ?_
    refine bk_if_eq hX 83 dX9_isSeen_17 rfl ?_ ?_
    · refine bk_iload_n hX 1 dX9_isSeen_83 rfl ?_
      exact fun z => hret _ _ _ _ dX9_isSeen_84 z.1 z.2
    · refine bk_aload_n hX 2 dX9_isSeen_20 rfl ?_
      refine bk_getr hX km_o rfl fl_X9_82 dX9_isSeen_21 ?_
      refine bk_iload_n hX 0 dX9_isSeen_24 rfl ?_
      refine bk_iaload hX km_49 dX9_isSeen_25 ?_
      refine bk_aload_n hX 2 dX9_isSeen_26 rfl ?_
      refine bk_geti hX km_o rfl fl_X9_125 dX9_isSeen_27 ?_
      refine bk_r_jn (α := Unit) (J := fun a => bk_At lyM w X 75 [(2, .int a5.2), (1, .int a5.1), (0, .ref (bk_r w 0))] [] σ1) (fun a7 => ?_) (fun K6 hK6 => ?_)
      · refine bk_iconst hX bk_ci_0 dX9_isSeen_75 ?_
        refine bk_istore_n hX (fun v13 => [(1, .int v13), (2, .int a5.2), (0, .ref (bk_r w 0))]) dX9_isSeen_76 (Nat.le_of_ble_eq_true rfl) (fun _ => rfl) (fun v13 => ?_)
        refine bk_iinc hX 1 (fun v14 => [(2, .int v14), (1, .int v13), (0, .ref (bk_r w 0))]) dX9_isSeen_77 rfl bk_ci_1 (Nat.le_of_ble_eq_true rfl) (fun _ => rfl) (fun v14 => ?_)
        refine bk_goto hX 8 dX9_isSeen_80 rfl ?_
        exact bk_pick [0, 1, 2] rfl (hK4 (v13, v14))
      · refine bk_icmp_ge hX 75 dX9_isSeen_30 rfl ?_ ?_
        · exact bk_pick [0, 1, 2] rfl (hK6 ())
        · refine bk_aload_n hX 2 dX9_isSeen_33 rfl ?_
          refine bk_getr hX km_o rfl fl_X9_73 dX9_isSeen_34 ?_
          refine bk_aload_n hX 2 dX9_isSeen_37 rfl ?_
          refine bk_getr hX km_o rfl fl_X9_79 dX9_isSeen_38 ?_
          refine bk_iload_n hX 0 dX9_isSeen_41 rfl ?_
          refine bk_iaload hX km_48 dX9_isSeen_42 ?_
          refine bk_iaload hX km_42 dX9_isSeen_43 ?_
          refine bk_aload_n hX 2 dX9_isSeen_44 rfl ?_
          refine bk_getr hX km_o rfl fl_X9_82 dX9_isSeen_45 ?_
          refine bk_iload_n hX 0 dX9_isSeen_48 rfl ?_
          refine bk_iaload hX km_49 dX9_isSeen_49 ?_
          refine bk_callS_i hX [.int (σ1 42 (Int32.toNatClampNeg (σ1 48 (Int32.toNatClampNeg a5.2)))), .int (σ1 49 (Int32.toNatClampNeg a5.2))] [] yk_X9_isIn ys_X9_isIn lk_X9_197 rfl rfl (Nat.le_of_ble_eq_true rfl) ⟨Nat.le_of_ble_eq_true rfl, Nat.le_of_ble_eq_true rfl⟩ dX9_isSeen_50 (m_X9_isIn w) (bk_pu (fun r8 => ?_))
          refine bk_aload_n hX 2 dX9_isSeen_53 rfl ?_
          refine bk_getr hX km_o rfl fl_X9_85 dX9_isSeen_54 ?_
          refine bk_iload_n hX 0 dX9_isSeen_57 rfl ?_
          refine bk_iaload hX km_50 dX9_isSeen_58 ?_
          refine bk_iconst hX bk_ci_1 dX9_isSeen_59 ?_
          refine bk_r_if (α := Int32) (F := fun K9 => (¬ (σ1 50 (Int32.toNatClampNeg a5.2)) = (1 : Int32) → K9 (0 : Int32)) ∧ ((σ1 50 (Int32.toNatClampNeg a5.2)) = (1 : Int32) → K9 (1 : Int32))) (fun K9 z => ⟨fun h0 => (bk_neg (K := K9) h0 z), fun h0 => (bk_pos (K := K9) h0 z)⟩) (J := fun a => bk_At lyM w X 68 [(2, .int a5.2), (1, .int a5.1), (0, .ref (bk_r w 0))] [.int a, .int r8] σ1) (fun a10 => ?_) (fun K9 hK9 => ?_)
          · refine bk_icmp_ne hX 75 dX9_isSeen_68 rfl ?_ ?_
            · exact bk_pick [0, 1, 2] rfl (hK6 ())
            · refine bk_iconst hX bk_ci_1 dX9_isSeen_71 ?_
              refine bk_goto hX 76 dX9_isSeen_72 rfl ?_
              refine bk_istore_n hX (fun v11 => [(1, .int v11), (2, .int a5.2), (0, .ref (bk_r w 0))]) dX9_isSeen_76 (Nat.le_of_ble_eq_true rfl) (fun _ => rfl) (fun v11 => ?_)
              refine bk_iinc hX 1 (fun v12 => [(2, .int v12), (1, .int v11), (0, .ref (bk_r w 0))]) dX9_isSeen_77 rfl bk_ci_1 (Nat.le_of_ble_eq_true rfl) (fun _ => rfl) (fun v12 => ?_)
              refine bk_goto hX 8 dX9_isSeen_80 rfl ?_
              exact bk_pick [0, 1, 2] rfl (hK4 (v11, v12))
          · refine bk_icmp_ne hX 67 dX9_isSeen_60 rfl ?_ ?_
            · refine bk_iconst hX bk_ci_0 dX9_isSeen_67 ?_
              exact bk_pick [0, 1, 2] rfl (hK9 (0 : Int32))
            · refine bk_iconst hX bk_ci_1 dX9_isSeen_63 ?_
              refine bk_goto hX 68 dX9_isSeen_64 rfl ?_
              exact bk_pick [0, 1, 2] rfl (hK9 (1 : Int32))

def w_X9_neverNow (σ : bk_S) (post : Int32 → bk_S → Prop) : Prop :=
  w_X9_asTold σ (fun σ1 =>
    bk_lt (α := Int32) (0 : Int32) fun v2 =>
    bk_lt (α := Int32) (0 : Int32) fun v3 =>
    bk_loop (α := Int32 × Int32 × bk_S) (fun K4 a5 =>
      ((a5.2.2 0 8) ≤ a5.2.1 → post a5.1 a5.2.2) ∧ (¬ (a5.2.2 0 8) ≤ a5.2.1 → (bk_lt (α := bk_S) (bk_u a5.2.2 0 19 ((1 : Int32) <<< (a5.2.1 &&& 31))) fun σ6 =>
      w_X9_isSeen σ6 (fun r7 σ8 =>
        bk_lt (α := Int32) (if r7 = 0 then (0 : Int32) else ((1 : Int32) <<< (a5.2.1 &&& 31))) fun a10 =>
        bk_lt (α := Int32) (a5.1 ||| a10) fun v11 =>
        bk_lt (α := Int32) (a5.2.1 + (1 : Int32)) fun v12 =>
        K4 (v11, v12, σ8))))) (v2, v3, σ1))
set_option maxRecDepth 20000 in
theorem m_X9_neverNow (w : bk_W) {σ : bk_S} {post : Int32 → bk_S → Prop} : w_X9_neverNow σ post → bk_Mi lyM w yX9_neverNow cX9_neverNow 3 .int 7 159 [.ref (bk_r w 0)] σ post := by
  intro h0
  refine bk_mi (by decide) (Nat.le_of_ble_eq_true rfl) (fun X hX hret => ?_)
  revert h0
  unfold w_X9_neverNow
  show _ → bk_At lyM w X 0 [(0, .ref (bk_r w 0))] [] σ
  refine bk_aload_n hX 0 dX9_neverNow_0 rfl ?_
  refine bk_callV_v hX [] [] yk_X9_asTold yv_X9_asTold lk_X9_261 rfl rfl km_o rfl rfl (Nat.le_of_ble_eq_true rfl) ⟨Nat.le_of_ble_eq_true rfl, Nat.le_of_ble_eq_true rfl⟩ dX9_neverNow_1 (m_X9_asTold w) (fun σ1 => ?_)
  refine bk_iconst hX bk_ci_0 dX9_neverNow_4 ?_
  refine bk_istore_n hX (fun v2 => [(1, .int v2), (0, .ref (bk_r w 0))]) dX9_neverNow_5 (Nat.le_of_ble_eq_true rfl) (fun _ => rfl) (fun v2 => ?_)
  refine bk_iconst hX bk_ci_0 dX9_neverNow_6 ?_
  refine bk_istore_n hX (fun v3 => [(2, .int v3), (1, .int v2), (0, .ref (bk_r w 0))]) dX9_neverNow_7 (Nat.le_of_ble_eq_true rfl) (fun _ => rfl) (fun v3 => ?_)
  refine bk_pick [0, 1, 2] rfl (bk_r_loop (α := Int32 × Int32 × bk_S) (J := fun a => bk_At lyM w X 8 [(2, .int a.2.1), (1, .int a.1), (0, .ref (bk_r w 0))] [] a.2.2) (v2, v3, σ1) (fun K4 hK4 a5 => ?_))
  refine bk_iload_n hX 0 dX9_neverNow_8 rfl ?_
  refine bk_aload_n hX 2 dX9_neverNow_9 rfl ?_
  refine bk_geti hX km_o rfl fl_X9_160 dX9_neverNow_10 ?_
  refine bk_icmp_ge hX 46 dX9_neverNow_13 rfl ?_ ?_
  · refine bk_iload_n hX 1 dX9_neverNow_46 rfl ?_
    exact fun z => hret _ _ _ _ dX9_neverNow_47 rfl z
  · refine bk_aload_n hX 2 dX9_neverNow_16 rfl ?_
    refine bk_iconst hX bk_ci_1 dX9_neverNow_17 ?_
    refine bk_iload_n hX 0 dX9_neverNow_18 rfl ?_
    refine bk_ishl hX dX9_neverNow_19 ?_
    refine bk_putI hX km_o rfl fp_X9_185 dX9_neverNow_20 (fun σ6 => ?_)
    refine bk_iload_n hX 1 dX9_neverNow_23 rfl ?_
    refine bk_aload_n hX 2 dX9_neverNow_24 rfl ?_
    refine bk_callV_i hX [] [.int a5.1] yk_X9_isSeen yv_X9_isSeen lk_X9_342 rfl rfl km_o rfl rfl (Nat.le_of_ble_eq_true rfl) ⟨Nat.le_of_ble_eq_true rfl, Nat.le_of_ble_eq_true rfl⟩ dX9_neverNow_25 (m_X9_isSeen w) (fun r7 σ8 => ?_)
    refine bk_r_if (α := Int32) (F := fun K9 => (r7 = 0 → K9 (0 : Int32)) ∧ (¬ r7 = 0 → K9 ((1 : Int32) <<< (a5.2.1 &&& 31)))) (fun K9 z => ⟨fun h0 => (bk_pos (K := K9) h0 z), fun h0 => (bk_neg (K := K9) h0 z)⟩) (J := fun a => bk_At lyM w X 38 [(2, .int a5.2.1), (1, .int a5.1), (0, .ref (bk_r w 0))] [.int a, .int a5.1] σ8) (fun a10 => ?_) (fun K9 hK9 => ?_)
    · refine bk_ior hX dX9_neverNow_38 ?_
      refine bk_istore_n hX (fun v11 => [(1, .int v11), (2, .int a5.2.1), (0, .ref (bk_r w 0))]) dX9_neverNow_39 (Nat.le_of_ble_eq_true rfl) (fun _ => rfl) (fun v11 => ?_)
      refine bk_iinc hX 1 (fun v12 => [(2, .int v12), (1, .int v11), (0, .ref (bk_r w 0))]) dX9_neverNow_40 rfl bk_ci_1 (Nat.le_of_ble_eq_true rfl) (fun _ => rfl) (fun v12 => ?_)
      refine bk_goto hX 8 dX9_neverNow_43 rfl ?_
      exact bk_pick [0, 1, 2] rfl (hK4 (v11, v12, σ8))
    · refine bk_if_eq hX 37 dX9_neverNow_28 rfl ?_ ?_
      · refine bk_iconst hX bk_ci_0 dX9_neverNow_37 ?_
        exact bk_pick [0, 1, 2] rfl (hK9 (0 : Int32))
      · refine bk_iconst hX bk_ci_1 dX9_neverNow_31 ?_
        refine bk_iload_n hX 0 dX9_neverNow_32 rfl ?_
        refine bk_ishl hX dX9_neverNow_33 ?_
        refine bk_goto hX 38 dX9_neverNow_34 rfl ?_
        exact bk_pick [0, 1, 2] rfl (hK9 ((1 : Int32) <<< (a5.2.1 &&& 31)))

def w_X9_never (σ : bk_S) (post : Int32 → bk_S → Prop) : Prop :=
  w_X9_neverNow σ (fun r1 σ2 =>
    post r1 σ2)
set_option maxRecDepth 20000 in
theorem m_X9_never (w : bk_W) {σ : bk_S} {post : Int32 → bk_S → Prop} : w_X9_never σ post → bk_Mi lyM w yX9_never cX9_never 1 .int 8 181 [.ref (bk_r w 0)] σ post := by
  intro h0
  refine bk_mi (by decide) (Nat.le_of_ble_eq_true rfl) (fun X hX hret => ?_)
  revert h0
  unfold w_X9_never
  show _ → bk_At lyM w X 0 [(0, .ref (bk_r w 0))] [] σ
  refine bk_aload_n hX 0 dX9_never_0 rfl ?_
  refine bk_callV_i hX [] [] yk_X9_neverNow yv_X9_neverNow lk_X9_346 rfl rfl km_o rfl rfl (Nat.le_of_ble_eq_true rfl) ⟨Nat.le_of_ble_eq_true rfl, Nat.le_of_ble_eq_true rfl⟩ dX9_never_1 (m_X9_neverNow w) (fun r1 σ2 => ?_)
  exact fun z => hret _ _ _ _ dX9_never_4 rfl z

def w_X9_heatsBy (x1 : Int32) (σ : bk_S) (post : Int32 → bk_S → Prop) : Prop :=
  w_X9_asTold σ (fun σ1 =>
    bk_lt (α := Int32) (0 : Int32) fun v2 =>
    bk_lt (α := Int32) (1 : Int32) fun v3 =>
    bk_loop (α := Int32 × Int32 × bk_S) (fun K4 a5 =>
      ((10 : Int32) ≤ a5.2.1 → post a5.1 a5.2.2) ∧ (¬ (10 : Int32) ≤ a5.2.1 → (vp_in x1 8 ∧ bk_lt (α := bk_S) (bk_u a5.2.2 15 (Int32.toNatClampNeg x1) a5.2.1) fun σ6 =>
      w_X9_isSeen σ6 (fun r7 σ8 =>
        bk_lt (α := Int32) (if r7 = 0 then (0 : Int32) else ((1 : Int32) <<< (a5.2.1 &&& 31))) fun a10 =>
        bk_lt (α := Int32) (a5.1 ||| a10) fun v11 =>
        bk_lt (α := Int32) (0 : Int32) fun v12 =>
        bk_loop (α := Int32 × bk_S) (fun K13 a14 =>
          ((12 : Int32) ≤ a14.1 → (bk_lt (α := Int32) (a5.2.1 + (1 : Int32)) fun v15 =>
          K4 (v11, v15, a14.2))) ∧ (¬ (12 : Int32) ≤ a14.1 → (vp_in a14.1 12 ∧ vp_in (((12 : Int32) * a5.2.1) + a14.1) 120 ∧ bk_lt (α := bk_S) (bk_u a14.2 51 (Int32.toNatClampNeg (((12 : Int32) * a5.2.1) + a14.1)) (a14.2 42 (Int32.toNatClampNeg a14.1))) fun σ16 =>
          bk_lt (α := Int32) (a14.1 + (1 : Int32)) fun v17 =>
          K13 (v17, σ16)))) (v12, σ8))))) (v2, v3, σ1))
set_option maxRecDepth 20000 in
theorem m_X9_heatsBy (w : bk_W) {x1 : Int32} {σ : bk_S} {post : Int32 → bk_S → Prop} : w_X9_heatsBy x1 σ post → bk_Mi lyM w yX9_heatsBy cX9_heatsBy 5 .int 7 159 [.ref (bk_r w 0), .int x1] σ post := by
  intro h0
  refine bk_mi (by decide) (Nat.le_of_ble_eq_true rfl) (fun X hX hret => ?_)
  revert h0
  unfold w_X9_heatsBy
  show _ → bk_At lyM w X 0 [(0, .ref (bk_r w 0)), (1, .int x1)] [] σ
  refine bk_aload_n hX 0 dX9_heatsBy_0 rfl ?_
  refine bk_callV_v hX [] [] yk_X9_asTold yv_X9_asTold lk_X9_261 rfl rfl km_o rfl rfl (Nat.le_of_ble_eq_true rfl) ⟨Nat.le_of_ble_eq_true rfl, Nat.le_of_ble_eq_true rfl⟩ dX9_heatsBy_1 (m_X9_asTold w) (fun σ1 => ?_)
  refine bk_iconst hX bk_ci_0 dX9_heatsBy_4 ?_
  refine bk_istore_n hX (fun v2 => [(2, .int v2), (0, .ref (bk_r w 0)), (1, .int x1)]) dX9_heatsBy_5 (Nat.le_of_ble_eq_true rfl) (fun _ => rfl) (fun v2 => ?_)
  refine bk_iconst hX bk_ci_1 dX9_heatsBy_6 ?_
  refine bk_istore_n hX (fun v3 => [(3, .int v3), (2, .int v2), (0, .ref (bk_r w 0)), (1, .int x1)]) dX9_heatsBy_7 (Nat.le_of_ble_eq_true rfl) (fun _ => rfl) (fun v3 => ?_)
  refine bk_pick [0, 1, 2, 3] rfl (bk_r_loop (α := Int32 × Int32 × bk_S) (J := fun a => bk_At lyM w X 8 [(3, .int a.2.1), (2, .int a.1), (0, .ref (bk_r w 0)), (1, .int x1)] [] a.2.2) (v2, v3, σ1) (fun K4 hK4 a5 => ?_))
  refine bk_iload_n hX 0 dX9_heatsBy_8 rfl ?_
  refine bk_bipush hX bk_cb_10 dX9_heatsBy_9 ?_
  refine bk_icmp_ge hX 79 dX9_heatsBy_11 rfl ?_ ?_
  · refine bk_iload_n hX 1 dX9_heatsBy_79 rfl ?_
    exact fun z => hret _ _ _ _ dX9_heatsBy_80 rfl z
  · refine bk_aload_n hX 2 dX9_heatsBy_14 rfl ?_
    refine bk_getr hX km_o rfl fl_X9_40 dX9_heatsBy_15 ?_
    refine bk_iload_n hX 3 dX9_heatsBy_18 rfl ?_
    refine bk_iload_n hX 0 dX9_heatsBy_19 rfl ?_
    refine bk_iastore hX km_15 dX9_heatsBy_20 (fun σ6 => ?_)
    refine bk_iload_n hX 1 dX9_heatsBy_21 rfl ?_
    refine bk_aload_n hX 2 dX9_heatsBy_22 rfl ?_
    refine bk_callV_i hX [] [.int a5.1] yk_X9_isSeen yv_X9_isSeen lk_X9_342 rfl rfl km_o rfl rfl (Nat.le_of_ble_eq_true rfl) ⟨Nat.le_of_ble_eq_true rfl, Nat.le_of_ble_eq_true rfl⟩ dX9_heatsBy_23 (m_X9_isSeen w) (fun r7 σ8 => ?_)
    refine bk_r_if (α := Int32) (F := fun K9 => (r7 = 0 → K9 (0 : Int32)) ∧ (¬ r7 = 0 → K9 ((1 : Int32) <<< (a5.2.1 &&& 31)))) (fun K9 z => ⟨fun h0 => (bk_pos (K := K9) h0 z), fun h0 => (bk_neg (K := K9) h0 z)⟩) (J := fun a => bk_At lyM w X 36 [(3, .int a5.2.1), (2, .int a5.1), (0, .ref (bk_r w 0)), (1, .int x1)] [.int a, .int a5.1] σ8) (fun a10 => ?_) (fun K9 hK9 => ?_)
    · refine bk_ior hX dX9_heatsBy_36 ?_
      refine bk_istore_n hX (fun v11 => [(2, .int v11), (3, .int a5.2.1), (0, .ref (bk_r w 0)), (1, .int x1)]) dX9_heatsBy_37 (Nat.le_of_ble_eq_true rfl) (fun _ => rfl) (fun v11 => ?_)
      refine bk_iconst hX bk_ci_0 dX9_heatsBy_38 ?_
      refine bk_istore hX (fun v12 => [(4, .int v12), (2, .int v11), (3, .int a5.2.1), (0, .ref (bk_r w 0)), (1, .int x1)]) dX9_heatsBy_39 (Nat.le_of_ble_eq_true rfl) (fun _ => rfl) (fun v12 => ?_)
      refine bk_pick [0, 1, 2, 3, 4] rfl (bk_r_loop (α := Int32 × bk_S) (J := fun a => bk_At lyM w X 41 [(4, .int a.1), (2, .int v11), (3, .int a5.2.1), (0, .ref (bk_r w 0)), (1, .int x1)] [] a.2) (v12, σ8) (fun K13 hK13 a14 => ?_))
      refine bk_iload hX 0 dX9_heatsBy_41 rfl ?_
      refine bk_bipush hX bk_cb_12 dX9_heatsBy_43 ?_
      refine bk_icmp_ge hX 73 dX9_heatsBy_45 rfl ?_ ?_
      · refine bk_iinc hX 2 (fun v15 => [(3, .int v15), (4, .int a14.1), (2, .int v11), (0, .ref (bk_r w 0)), (1, .int x1)]) dX9_heatsBy_73 rfl bk_ci_1 (Nat.le_of_ble_eq_true rfl) (fun _ => rfl) (fun v15 => ?_)
        refine bk_goto hX 8 dX9_heatsBy_76 rfl ?_
        exact bk_pick [0, 2, 3, 4] rfl (hK4 (v11, v15, a14.2))
      · refine bk_aload_n hX 3 dX9_heatsBy_48 rfl ?_
        refine bk_getr hX km_o rfl fl_X9_88 dX9_heatsBy_49 ?_
        refine bk_bipush hX bk_cb_12 dX9_heatsBy_52 ?_
        refine bk_iload_n hX 2 dX9_heatsBy_54 rfl ?_
        refine bk_imul hX dX9_heatsBy_55 ?_
        refine bk_iload hX 0 dX9_heatsBy_56 rfl ?_
        refine bk_iadd hX dX9_heatsBy_58 ?_
        refine bk_aload_n hX 3 dX9_heatsBy_59 rfl ?_
        refine bk_getr hX km_o rfl fl_X9_73 dX9_heatsBy_60 ?_
        refine bk_iload hX 0 dX9_heatsBy_63 rfl ?_
        refine bk_iaload hX km_42 dX9_heatsBy_65 ?_
        refine bk_iastore hX km_51 dX9_heatsBy_66 (fun σ16 => ?_)
        refine bk_iinc hX 0 (fun v17 => [(4, .int v17), (2, .int v11), (3, .int a5.2.1), (0, .ref (bk_r w 0)), (1, .int x1)]) dX9_heatsBy_67 rfl bk_ci_1 (Nat.le_of_ble_eq_true rfl) (fun _ => rfl) (fun v17 => ?_)
        refine bk_goto hX 41 dX9_heatsBy_70 rfl ?_
        exact bk_pick [0, 1, 2, 3, 4] rfl (hK13 (v17, σ16))
    · refine bk_if_eq hX 35 dX9_heatsBy_26 rfl ?_ ?_
      · refine bk_iconst hX bk_ci_0 dX9_heatsBy_35 ?_
        exact bk_pick [0, 1, 2, 3] rfl (hK9 (0 : Int32))
      · refine bk_iconst hX bk_ci_1 dX9_heatsBy_29 ?_
        refine bk_iload_n hX 0 dX9_heatsBy_30 rfl ?_
        refine bk_ishl hX dX9_heatsBy_31 ?_
        refine bk_goto hX 36 dX9_heatsBy_32 rfl ?_
        exact bk_pick [0, 1, 2, 3] rfl (hK9 ((1 : Int32) <<< (a5.2.1 &&& 31)))

def w_X9_sortsBy (x1 : Int32) (σ : bk_S) (post : Int32 → bk_S → Prop) : Prop :=
  w_X9_asTold σ (fun σ1 =>
    bk_lt (α := Int32) (0 : Int32) fun v2 =>
    bk_lt (α := Int32) (0 : Int32) fun v3 =>
    bk_loop (α := Int32 × Int32 × bk_S) (fun K4 a5 =>
      ((3 : Int32) ≤ a5.2.1 → post a5.1 a5.2.2) ∧ (¬ (3 : Int32) ≤ a5.2.1 → (vp_in x1 8 ∧ bk_lt (α := bk_S) (bk_u a5.2.2 14 (Int32.toNatClampNeg x1) a5.2.1) fun σ6 =>
      w_X9_isSeen σ6 (fun r7 σ8 =>
        bk_lt (α := Int32) (if r7 = 0 then (0 : Int32) else ((1 : Int32) <<< (a5.2.1 &&& 31))) fun a10 =>
        bk_lt (α := Int32) (a5.1 ||| a10) fun v11 =>
        bk_lt (α := Int32) (a5.2.1 + (1 : Int32)) fun v12 =>
        K4 (v11, v12, σ8))))) (v2, v3, σ1))
set_option maxRecDepth 20000 in
theorem m_X9_sortsBy (w : bk_W) {x1 : Int32} {σ : bk_S} {post : Int32 → bk_S → Prop} : w_X9_sortsBy x1 σ post → bk_Mi lyM w yX9_sortsBy cX9_sortsBy 4 .int 7 159 [.ref (bk_r w 0), .int x1] σ post := by
  intro h0
  refine bk_mi (by decide) (Nat.le_of_ble_eq_true rfl) (fun X hX hret => ?_)
  revert h0
  unfold w_X9_sortsBy
  show _ → bk_At lyM w X 0 [(0, .ref (bk_r w 0)), (1, .int x1)] [] σ
  refine bk_aload_n hX 0 dX9_sortsBy_0 rfl ?_
  refine bk_callV_v hX [] [] yk_X9_asTold yv_X9_asTold lk_X9_261 rfl rfl km_o rfl rfl (Nat.le_of_ble_eq_true rfl) ⟨Nat.le_of_ble_eq_true rfl, Nat.le_of_ble_eq_true rfl⟩ dX9_sortsBy_1 (m_X9_asTold w) (fun σ1 => ?_)
  refine bk_iconst hX bk_ci_0 dX9_sortsBy_4 ?_
  refine bk_istore_n hX (fun v2 => [(2, .int v2), (0, .ref (bk_r w 0)), (1, .int x1)]) dX9_sortsBy_5 (Nat.le_of_ble_eq_true rfl) (fun _ => rfl) (fun v2 => ?_)
  refine bk_iconst hX bk_ci_0 dX9_sortsBy_6 ?_
  refine bk_istore_n hX (fun v3 => [(3, .int v3), (2, .int v2), (0, .ref (bk_r w 0)), (1, .int x1)]) dX9_sortsBy_7 (Nat.le_of_ble_eq_true rfl) (fun _ => rfl) (fun v3 => ?_)
  refine bk_pick [0, 1, 2, 3] rfl (bk_r_loop (α := Int32 × Int32 × bk_S) (J := fun a => bk_At lyM w X 8 [(3, .int a.2.1), (2, .int a.1), (0, .ref (bk_r w 0)), (1, .int x1)] [] a.2.2) (v2, v3, σ1) (fun K4 hK4 a5 => ?_))
  refine bk_iload_n hX 0 dX9_sortsBy_8 rfl ?_
  refine bk_iconst hX bk_ci_3 dX9_sortsBy_9 ?_
  refine bk_icmp_ge hX 43 dX9_sortsBy_10 rfl ?_ ?_
  · refine bk_iload_n hX 1 dX9_sortsBy_43 rfl ?_
    exact fun z => hret _ _ _ _ dX9_sortsBy_44 rfl z
  · refine bk_aload_n hX 2 dX9_sortsBy_13 rfl ?_
    refine bk_getr hX km_o rfl fl_X9_37 dX9_sortsBy_14 ?_
    refine bk_iload_n hX 3 dX9_sortsBy_17 rfl ?_
    refine bk_iload_n hX 0 dX9_sortsBy_18 rfl ?_
    refine bk_iastore hX km_14 dX9_sortsBy_19 (fun σ6 => ?_)
    refine bk_iload_n hX 1 dX9_sortsBy_20 rfl ?_
    refine bk_aload_n hX 2 dX9_sortsBy_21 rfl ?_
    refine bk_callV_i hX [] [.int a5.1] yk_X9_isSeen yv_X9_isSeen lk_X9_342 rfl rfl km_o rfl rfl (Nat.le_of_ble_eq_true rfl) ⟨Nat.le_of_ble_eq_true rfl, Nat.le_of_ble_eq_true rfl⟩ dX9_sortsBy_22 (m_X9_isSeen w) (fun r7 σ8 => ?_)
    refine bk_r_if (α := Int32) (F := fun K9 => (r7 = 0 → K9 (0 : Int32)) ∧ (¬ r7 = 0 → K9 ((1 : Int32) <<< (a5.2.1 &&& 31)))) (fun K9 z => ⟨fun h0 => (bk_pos (K := K9) h0 z), fun h0 => (bk_neg (K := K9) h0 z)⟩) (J := fun a => bk_At lyM w X 35 [(3, .int a5.2.1), (2, .int a5.1), (0, .ref (bk_r w 0)), (1, .int x1)] [.int a, .int a5.1] σ8) (fun a10 => ?_) (fun K9 hK9 => ?_)
    · refine bk_ior hX dX9_sortsBy_35 ?_
      refine bk_istore_n hX (fun v11 => [(2, .int v11), (3, .int a5.2.1), (0, .ref (bk_r w 0)), (1, .int x1)]) dX9_sortsBy_36 (Nat.le_of_ble_eq_true rfl) (fun _ => rfl) (fun v11 => ?_)
      refine bk_iinc hX 1 (fun v12 => [(3, .int v12), (2, .int v11), (0, .ref (bk_r w 0)), (1, .int x1)]) dX9_sortsBy_37 rfl bk_ci_1 (Nat.le_of_ble_eq_true rfl) (fun _ => rfl) (fun v12 => ?_)
      refine bk_goto hX 8 dX9_sortsBy_40 rfl ?_
      exact bk_pick [0, 1, 2, 3] rfl (hK4 (v11, v12, σ8))
    · refine bk_if_eq hX 34 dX9_sortsBy_25 rfl ?_ ?_
      · refine bk_iconst hX bk_ci_0 dX9_sortsBy_34 ?_
        exact bk_pick [0, 1, 2, 3] rfl (hK9 (0 : Int32))
      · refine bk_iconst hX bk_ci_1 dX9_sortsBy_28 ?_
        refine bk_iload_n hX 0 dX9_sortsBy_29 rfl ?_
        refine bk_ishl hX dX9_sortsBy_30 ?_
        refine bk_goto hX 35 dX9_sortsBy_31 rfl ?_
        exact bk_pick [0, 1, 2, 3] rfl (hK9 ((1 : Int32) <<< (a5.2.1 &&& 31)))

def w_X9_was (x1 : Int32) (x2 : Int32) (σ : bk_S) (post : Int32 → bk_S → Prop) : Prop :=
  w_X9_isThing x1 σ (fun r1 σ2 =>
    bk_jn (α := Unit) (fun a4 =>
      post (-2 : Int32) σ2) (fun K3 =>
      (r1 = 0 → K3 ()) ∧ (¬ r1 = 0 → (w_X9_isTwo x2 (fun r5 =>
        (r5 = 0 → K3 ()) ∧ (¬ r5 = 0 → ((¬ x2 = 0 → (w_X9_sortsBy x1 σ2 (fun r6 σ7 =>
          post r6 σ7))) ∧ (x2 = 0 → (w_X9_heatsBy x1 σ2 (fun r8 σ9 =>
          post r8 σ9))))))))))
set_option maxRecDepth 20000 in
theorem m_X9_was (w : bk_W) {x1 : Int32} {x2 : Int32} {σ : bk_S} {post : Int32 → bk_S → Prop} : w_X9_was x1 x2 σ post → bk_Mi lyM w yX9_was cX9_was 3 .int 8 183 [.ref (bk_r w 0), .int x1, .int x2] σ post := by
  intro h0
  refine bk_mi (by decide) (Nat.le_of_ble_eq_true rfl) (fun X hX hret => ?_)
  revert h0
  unfold w_X9_was
  show _ → bk_At lyM w X 0 [(0, .ref (bk_r w 0)), (1, .int x1), (2, .int x2)] [] σ
  refine bk_aload_n hX 0 dX9_was_0 rfl ?_
  refine bk_iload_n hX 1 dX9_was_1 rfl ?_
  refine bk_callV_i hX [.int x1] [] yk_X9_isThing yv_X9_isThing lk_X9_148 rfl rfl km_o rfl rfl (Nat.le_of_ble_eq_true rfl) ⟨Nat.le_of_ble_eq_true rfl, Nat.le_of_ble_eq_true rfl⟩ dX9_was_2 (m_X9_isThing w) (fun r1 σ2 => ?_)
  refine bk_r_jn (α := Unit) (J := fun a => bk_At lyM w X 35 [(0, .ref (bk_r w 0)), (1, .int x1), (2, .int x2)] [] σ2) (fun a4 => ?_) (fun K3 hK3 => ?_)
  · refine bk_bipush hX bk_cb_m2 dX9_was_35 ?_
    exact fun z => hret _ _ _ _ dX9_was_37 rfl z
  · refine bk_if_eq hX 35 dX9_was_5 rfl ?_ ?_
    · exact bk_pick [0, 1, 2] rfl (hK3 ())
    · refine bk_iload_n hX 2 dX9_was_8 rfl ?_
      refine bk_callS_i hX [.int x2] [] yk_X9_isTwo ys_X9_isTwo lk_X9_113 rfl rfl (Nat.le_of_ble_eq_true rfl) ⟨Nat.le_of_ble_eq_true rfl, Nat.le_of_ble_eq_true rfl⟩ dX9_was_9 (m_X9_isTwo w) (bk_pu (fun r5 => ?_))
      refine bk_if_eq hX 35 dX9_was_12 rfl ?_ ?_
      · exact bk_pick [0, 1, 2] rfl (hK3 ())
      · refine bk_iload_n hX 2 dX9_was_15 rfl ?_
        refine bk_if_ne hX 27 dX9_was_16 rfl ?_ ?_
        · refine bk_aload_n hX 0 dX9_was_27 rfl ?_
          refine bk_iload_n hX 1 dX9_was_28 rfl ?_
          refine bk_callV_i hX [.int x1] [] yk_X9_sortsBy yv_X9_sortsBy lk_X9_352 rfl rfl km_o rfl rfl (Nat.le_of_ble_eq_true rfl) ⟨Nat.le_of_ble_eq_true rfl, Nat.le_of_ble_eq_true rfl⟩ dX9_was_29 (m_X9_sortsBy w) (fun r6 σ7 => ?_)
          refine bk_goto hX 37 dX9_was_32 rfl ?_
          exact fun z => hret _ _ _ _ dX9_was_37 rfl z
        · refine bk_aload_n hX 0 dX9_was_19 rfl ?_
          refine bk_iload_n hX 1 dX9_was_20 rfl ?_
          refine bk_callV_i hX [.int x1] [] yk_X9_heatsBy yv_X9_heatsBy lk_X9_349 rfl rfl km_o rfl rfl (Nat.le_of_ble_eq_true rfl) ⟨Nat.le_of_ble_eq_true rfl, Nat.le_of_ble_eq_true rfl⟩ dX9_was_21 (m_X9_heatsBy w) (fun r8 σ9 => ?_)
          refine bk_goto hX 37 dX9_was_24 rfl ?_
          exact fun z => hret _ _ _ _ dX9_was_37 rfl z

def w_X9_askOf (x1 : Int32) (σ : bk_S) (post : Int32 → bk_S → Prop) : Prop :=
  w_X9_heatsBy x1 σ (fun r1 σ2 =>
    bk_lt (α := Int32) r1 fun v3 =>
    bk_lt (α := Int32) (-1 : Int32) fun v4 =>
    bk_lt (α := Int32) (0 : Int32) fun v5 =>
    bk_lt (α := Int32) (0 : Int32) fun v6 =>
    bk_loop (α := Int32 × Int32 × Int32) (fun K7 a8 =>
      ((12 : Int32) ≤ a8.2.2 → post a8.1 σ2) ∧ (¬ (12 : Int32) ≤ a8.2.2 → (bk_lt (α := Int32) (0 : Int32) fun v9 =>
      bk_lt (α := Int32) (1 : Int32) fun v10 =>
      bk_jn (α := Int32) (fun a12 =>
        bk_jn (α := Int32) (fun a34 =>
          bk_lt (α := Int32) a34 fun v37 =>
          bk_lt (α := Int32) (if v37 = 0 then a8.1 else a8.2.2) fun a39 =>
          bk_lt (α := Int32) a39 fun v40 =>
          (v37 = 0 → (bk_lt (α := Int32) a8.2.1 fun v41 =>
          bk_lt (α := Int32) (a8.2.2 + (1 : Int32)) fun v42 =>
          K7 (v40, v41, v42))) ∧ (¬ v37 = 0 → (bk_lt (α := Int32) a12 fun v43 =>
          bk_lt (α := Int32) (a8.2.2 + (1 : Int32)) fun v44 =>
          K7 (v40, v43, v44)))) (fun K33 =>
          bk_jn (α := Unit) (fun a36 =>
            K33 (1 : Int32)) (fun K35 =>
            (a8.1 = (-1 : Int32) → K35 ()) ∧ (¬ a8.1 = (-1 : Int32) → ((a8.2.1 ≤ a12 → K33 (0 : Int32)) ∧ (¬ a8.2.1 ≤ a12 → K35 ())))))) (fun K11 =>
        bk_loop (α := Int32 × Int32) (fun K13 a14 =>
          ((10 : Int32) ≤ a14.2 → K11 a14.1) ∧ (¬ (10 : Int32) ≤ a14.2 → (bk_lt (α := Int32) (0 : Int32) fun v15 =>
          bk_lt (α := Int32) (1 : Int32) fun v16 =>
          bk_jn (α := Int32) (fun a18 =>
            (a18 ≤ a14.1 → (bk_lt (α := Int32) a14.1 fun v29 =>
            bk_lt (α := Int32) (a14.2 + (1 : Int32)) fun v30 =>
            K13 (v29, v30))) ∧ (¬ a18 ≤ a14.1 → (bk_lt (α := Int32) a18 fun v31 =>
            bk_lt (α := Int32) (a14.2 + (1 : Int32)) fun v32 =>
            K13 (v31, v32)))) (fun K17 =>
            bk_loop (α := Int32 × Int32) (fun K19 a20 =>
              ((10 : Int32) ≤ a20.2 → K17 a20.1) ∧ (¬ (10 : Int32) ≤ a20.2 → (w_X9_isIn v3 a14.2 (fun r21 =>
                bk_jn (α := Int32) (fun a23 =>
                  bk_lt (α := Int32) (a20.1 + a23) fun v27 =>
                  bk_lt (α := Int32) (a20.2 + (1 : Int32)) fun v28 =>
                  K19 (v27, v28)) (fun K22 =>
                  bk_jn (α := Unit) (fun a25 =>
                    K22 (0 : Int32)) (fun K24 =>
                    (r21 = 0 → K24 ()) ∧ (¬ r21 = 0 → (w_X9_isIn v3 a20.2 (fun r26 =>
                      (r26 = 0 → K24 ()) ∧ (¬ r26 = 0 → (vp_in (((12 : Int32) * a14.2) + a8.2.2) 120 ∧ vp_in (((12 : Int32) * a20.2) + a8.2.2) 120 ∧ (¬ (σ2 51 (Int32.toNatClampNeg (((12 : Int32) * a14.2) + a8.2.2))) = (σ2 51 (Int32.toNatClampNeg (((12 : Int32) * a20.2) + a8.2.2))) → K24 ()) ∧ ((σ2 51 (Int32.toNatClampNeg (((12 : Int32) * a14.2) + a8.2.2))) = (σ2 51 (Int32.toNatClampNeg (((12 : Int32) * a20.2) + a8.2.2))) → K22 (1 : Int32))))))))))))) (v15, v16))))) (v9, v10))))) (v4, v5, v6))
set_option maxRecDepth 20000 in
theorem m_X9_askOf (w : bk_W) {x1 : Int32} {σ : bk_S} {post : Int32 → bk_S → Prop} : w_X9_askOf x1 σ post → bk_Mi lyM w yX9_askOf cX9_askOf 10 .int 8 183 [.ref (bk_r w 0), .int x1] σ post := by
  intro h0
  refine bk_mi (by decide) (Nat.le_of_ble_eq_true rfl) (fun X hX hret => ?_)
  revert h0
  unfold w_X9_askOf
  show _ → bk_At lyM w X 0 [(0, .ref (bk_r w 0)), (1, .int x1)] [] σ
  refine bk_aload_n hX 0 dX9_askOf_0 rfl ?_
  refine bk_iload_n hX 1 dX9_askOf_1 rfl ?_
  refine bk_callV_i hX [.int x1] [] yk_X9_heatsBy yv_X9_heatsBy lk_X9_349 rfl rfl km_o rfl rfl (Nat.le_of_ble_eq_true rfl) ⟨Nat.le_of_ble_eq_true rfl, Nat.le_of_ble_eq_true rfl⟩ dX9_askOf_2 (m_X9_heatsBy w) (fun r1 σ2 => ?_)
  refine bk_istore_n hX (fun v3 => [(2, .int v3), (0, .ref (bk_r w 0)), (1, .int x1)]) dX9_askOf_5 (Nat.le_of_ble_eq_true rfl) (fun _ => rfl) (fun v3 => ?_)
  refine bk_iconst hX bk_ci_m1 dX9_askOf_6 ?_
  refine bk_istore_n hX (fun v4 => [(3, .int v4), (2, .int v3), (0, .ref (bk_r w 0)), (1, .int x1)]) dX9_askOf_7 (Nat.le_of_ble_eq_true rfl) (fun _ => rfl) (fun v4 => ?_)
  refine bk_iconst hX bk_ci_0 dX9_askOf_8 ?_
  refine bk_istore hX (fun v5 => [(4, .int v5), (3, .int v4), (2, .int v3), (0, .ref (bk_r w 0)), (1, .int x1)]) dX9_askOf_9 (Nat.le_of_ble_eq_true rfl) (fun _ => rfl) (fun v5 => ?_)
  refine bk_iconst hX bk_ci_0 dX9_askOf_11 ?_
  refine bk_istore hX (fun v6 => [(5, .int v6), (4, .int v5), (3, .int v4), (2, .int v3), (0, .ref (bk_r w 0)), (1, .int x1)]) dX9_askOf_12 (Nat.le_of_ble_eq_true rfl) (fun _ => rfl) (fun v6 => ?_)
  refine bk_pick [0, 1, 2, 3, 4, 5] rfl (bk_r_loop (α := Int32 × Int32 × Int32) (J := fun a => bk_At lyM w X 14 [(5, .int a.2.2), (4, .int a.2.1), (3, .int a.1), (2, .int v3), (0, .ref (bk_r w 0)), (1, .int x1)] [] σ2) (v4, v5, v6) (fun K7 hK7 a8 => ?_))
  refine bk_iload hX 0 dX9_askOf_14 rfl ?_
  refine bk_bipush hX bk_cb_12 dX9_askOf_16 ?_
  refine bk_icmp_ge hX 183 dX9_askOf_18 rfl ?_ ?_
  · refine bk_iload_n hX 2 dX9_askOf_183 rfl ?_
    exact fun z => hret _ _ _ _ dX9_askOf_184 rfl z
  · refine bk_iconst hX bk_ci_0 dX9_askOf_21 ?_
    refine bk_istore hX (fun v9 => [(6, .int v9), (5, .int a8.2.2), (4, .int a8.2.1), (3, .int a8.1), (2, .int v3), (0, .ref (bk_r w 0)), (1, .int x1)]) dX9_askOf_22 (Nat.le_of_ble_eq_true rfl) (fun _ => rfl) (fun v9 => ?_)
    refine bk_iconst hX bk_ci_1 dX9_askOf_24 ?_
    refine bk_istore hX (fun v10 => [(7, .int v10), (6, .int v9), (5, .int a8.2.2), (4, .int a8.2.1), (3, .int a8.1), (2, .int v3), (0, .ref (bk_r w 0)), (1, .int x1)]) dX9_askOf_25 (Nat.le_of_ble_eq_true rfl) (fun _ => rfl) (fun v10 => ?_)
    refine bk_r_jn (α := Int32) (J := fun a => bk_At lyM w X 132 [(6, .int a), (5, .int a8.2.2), (4, .int a8.2.1), (3, .int a8.1), (2, .int v3), (0, .ref (bk_r w 0)), (1, .int x1)] [] σ2) (fun a12 => ?_) (fun K11 hK11 => ?_)
    · refine bk_iload_n hX 3 dX9_askOf_132 rfl ?_
      refine bk_iconst hX bk_ci_m1 dX9_askOf_133 ?_
      refine bk_r_jn (α := Int32) (J := fun a => bk_At lyM w X 149 [(6, .int a12), (5, .int a8.2.2), (4, .int a8.2.1), (3, .int a8.1), (2, .int v3), (0, .ref (bk_r w 0)), (1, .int x1)] [.int a] σ2) (fun a34 => ?_) (fun K33 hK33 => ?_)
      · refine bk_istore hX (fun v37 => [(7, .int v37), (6, .int a12), (5, .int a8.2.2), (4, .int a8.2.1), (3, .int a8.1), (2, .int v3), (0, .ref (bk_r w 0)), (1, .int x1)]) dX9_askOf_149 (Nat.le_of_ble_eq_true rfl) (fun _ => rfl) (fun v37 => ?_)
        refine bk_iload hX 0 dX9_askOf_151 rfl ?_
        refine bk_r_if (α := Int32) (F := fun K38 => (v37 = 0 → K38 a8.1) ∧ (¬ v37 = 0 → K38 a8.2.2)) (fun K38 z => ⟨fun h0 => (bk_pos (K := K38) h0 z), fun h0 => (bk_neg (K := K38) h0 z)⟩) (J := fun a => bk_At lyM w X 162 [(7, .int v37), (6, .int a12), (5, .int a8.2.2), (4, .int a8.2.1), (3, .int a8.1), (2, .int v3), (0, .ref (bk_r w 0)), (1, .int x1)] [.int a] σ2) (fun a39 => ?_) (fun K38 hK38 => ?_)
        · refine bk_istore_n hX (fun v40 => [(3, .int v40), (7, .int v37), (6, .int a12), (5, .int a8.2.2), (4, .int a8.2.1), (2, .int v3), (0, .ref (bk_r w 0)), (1, .int x1)]) dX9_askOf_162 (Nat.le_of_ble_eq_true rfl) (fun _ => rfl) (fun v40 => ?_)
          refine bk_iload hX 1 dX9_askOf_163 rfl ?_
          refine bk_if_eq hX 173 dX9_askOf_165 rfl ?_ ?_
          · refine bk_iload hX 4 dX9_askOf_173 rfl ?_
            refine bk_istore hX (fun v41 => [(4, .int v41), (3, .int v40), (7, .int v37), (6, .int a12), (5, .int a8.2.2), (2, .int v3), (0, .ref (bk_r w 0)), (1, .int x1)]) dX9_askOf_175 (Nat.le_of_ble_eq_true rfl) (fun _ => rfl) (fun v41 => ?_)
            refine bk_iinc hX 4 (fun v42 => [(5, .int v42), (4, .int v41), (3, .int v40), (7, .int v37), (6, .int a12), (2, .int v3), (0, .ref (bk_r w 0)), (1, .int x1)]) dX9_askOf_177 rfl bk_ci_1 (Nat.le_of_ble_eq_true rfl) (fun _ => rfl) (fun v42 => ?_)
            refine bk_goto hX 14 dX9_askOf_180 rfl ?_
            exact bk_pick [0, 1, 2, 5, 6, 7] rfl (hK7 (v40, v41, v42))
          · refine bk_iload hX 2 dX9_askOf_168 rfl ?_
            refine bk_goto hX 175 dX9_askOf_170 rfl ?_
            refine bk_istore hX (fun v43 => [(4, .int v43), (3, .int v40), (7, .int v37), (6, .int a12), (5, .int a8.2.2), (2, .int v3), (0, .ref (bk_r w 0)), (1, .int x1)]) dX9_askOf_175 (Nat.le_of_ble_eq_true rfl) (fun _ => rfl) (fun v43 => ?_)
            refine bk_iinc hX 4 (fun v44 => [(5, .int v44), (4, .int v43), (3, .int v40), (7, .int v37), (6, .int a12), (2, .int v3), (0, .ref (bk_r w 0)), (1, .int x1)]) dX9_askOf_177 rfl bk_ci_1 (Nat.le_of_ble_eq_true rfl) (fun _ => rfl) (fun v44 => ?_)
            refine bk_goto hX 14 dX9_askOf_180 rfl ?_
            exact bk_pick [0, 1, 2, 5, 6, 7] rfl (hK7 (v40, v43, v44))
        · refine bk_if_eq hX 161 dX9_askOf_153 rfl ?_ ?_
          · refine bk_iload_n hX 4 dX9_askOf_161 rfl ?_
            exact bk_pick [0, 1, 2, 3, 4, 5, 6, 7] rfl (hK38 a8.1)
          · refine bk_iload hX 2 dX9_askOf_156 rfl ?_
            refine bk_goto hX 162 dX9_askOf_158 rfl ?_
            exact bk_pick [0, 1, 2, 3, 4, 5, 6, 7] rfl (hK38 a8.2.2)
      · refine bk_r_jn (α := Unit) (J := fun a => bk_At lyM w X 144 [(6, .int a12), (5, .int a8.2.2), (4, .int a8.2.1), (3, .int a8.1), (2, .int v3), (0, .ref (bk_r w 0)), (1, .int x1)] [] σ2) (fun a36 => ?_) (fun K35 hK35 => ?_)
        · refine bk_iconst hX bk_ci_1 dX9_askOf_144 ?_
          refine bk_goto hX 149 dX9_askOf_145 rfl ?_
          exact bk_pick [0, 1, 2, 3, 4, 5, 6] rfl (hK33 (1 : Int32))
        · refine bk_icmp_eq hX 144 dX9_askOf_134 rfl ?_ ?_
          · exact bk_pick [0, 1, 2, 3, 4, 5, 6] rfl (hK35 ())
          · refine bk_iload hX 0 dX9_askOf_137 rfl ?_
            refine bk_iload hX 2 dX9_askOf_139 rfl ?_
            refine bk_icmp_ge hX 148 dX9_askOf_141 rfl ?_ ?_
            · refine bk_iconst hX bk_ci_0 dX9_askOf_148 ?_
              exact bk_pick [0, 1, 2, 3, 4, 5, 6] rfl (hK33 (0 : Int32))
            · exact bk_pick [0, 1, 2, 3, 4, 5, 6] rfl (hK35 ())
    · refine bk_pick [0, 1, 2, 3, 4, 5, 6, 7] rfl (bk_r_loop (α := Int32 × Int32) (J := fun a => bk_At lyM w X 27 [(7, .int a.2), (6, .int a.1), (5, .int a8.2.2), (4, .int a8.2.1), (3, .int a8.1), (2, .int v3), (0, .ref (bk_r w 0)), (1, .int x1)] [] σ2) (v9, v10) (fun K13 hK13 a14 => ?_))
      refine bk_iload hX 0 dX9_askOf_27 rfl ?_
      refine bk_bipush hX bk_cb_10 dX9_askOf_29 ?_
      refine bk_icmp_ge hX 132 dX9_askOf_31 rfl ?_ ?_
      · exact bk_pick [1, 2, 3, 4, 5, 6, 7] rfl (hK11 a14.1)
      · refine bk_iconst hX bk_ci_0 dX9_askOf_34 ?_
        refine bk_istore hX (fun v15 => [(8, .int v15), (7, .int a14.2), (6, .int a14.1), (5, .int a8.2.2), (4, .int a8.2.1), (3, .int a8.1), (2, .int v3), (0, .ref (bk_r w 0)), (1, .int x1)]) dX9_askOf_35 (Nat.le_of_ble_eq_true rfl) (fun _ => rfl) (fun v15 => ?_)
        refine bk_iconst hX bk_ci_1 dX9_askOf_37 ?_
        refine bk_istore hX (fun v16 => [(9, .int v16), (8, .int v15), (7, .int a14.2), (6, .int a14.1), (5, .int a8.2.2), (4, .int a8.2.1), (3, .int a8.1), (2, .int v3), (0, .ref (bk_r w 0)), (1, .int x1)]) dX9_askOf_38 (Nat.le_of_ble_eq_true rfl) (fun _ => rfl) (fun v16 => ?_)
        refine bk_r_jn (α := Int32) (J := fun a => bk_At lyM w X 110 [(8, .int a), (7, .int a14.2), (6, .int a14.1), (5, .int a8.2.2), (4, .int a8.2.1), (3, .int a8.1), (2, .int v3), (0, .ref (bk_r w 0)), (1, .int x1)] [] σ2) (fun a18 => ?_) (fun K17 hK17 => ?_)
        · refine bk_iload hX 0 dX9_askOf_110 rfl ?_
          refine bk_iload hX 2 dX9_askOf_112 rfl ?_
          refine bk_icmp_le hX 122 dX9_askOf_114 rfl ?_ ?_
          · refine bk_iload hX 2 dX9_askOf_122 rfl ?_
            refine bk_istore hX (fun v29 => [(6, .int v29), (8, .int a18), (7, .int a14.2), (5, .int a8.2.2), (4, .int a8.2.1), (3, .int a8.1), (2, .int v3), (0, .ref (bk_r w 0)), (1, .int x1)]) dX9_askOf_124 (Nat.le_of_ble_eq_true rfl) (fun _ => rfl) (fun v29 => ?_)
            refine bk_iinc hX 2 (fun v30 => [(7, .int v30), (6, .int v29), (8, .int a18), (5, .int a8.2.2), (4, .int a8.2.1), (3, .int a8.1), (2, .int v3), (0, .ref (bk_r w 0)), (1, .int x1)]) dX9_askOf_126 rfl bk_ci_1 (Nat.le_of_ble_eq_true rfl) (fun _ => rfl) (fun v30 => ?_)
            refine bk_goto hX 27 dX9_askOf_129 rfl ?_
            exact bk_pick [0, 1, 3, 4, 5, 6, 7, 8] rfl (hK13 (v29, v30))
          · refine bk_iload hX 0 dX9_askOf_117 rfl ?_
            refine bk_goto hX 124 dX9_askOf_119 rfl ?_
            refine bk_istore hX (fun v31 => [(6, .int v31), (8, .int a18), (7, .int a14.2), (5, .int a8.2.2), (4, .int a8.2.1), (3, .int a8.1), (2, .int v3), (0, .ref (bk_r w 0)), (1, .int x1)]) dX9_askOf_124 (Nat.le_of_ble_eq_true rfl) (fun _ => rfl) (fun v31 => ?_)
            refine bk_iinc hX 2 (fun v32 => [(7, .int v32), (6, .int v31), (8, .int a18), (5, .int a8.2.2), (4, .int a8.2.1), (3, .int a8.1), (2, .int v3), (0, .ref (bk_r w 0)), (1, .int x1)]) dX9_askOf_126 rfl bk_ci_1 (Nat.le_of_ble_eq_true rfl) (fun _ => rfl) (fun v32 => ?_)
            refine bk_goto hX 27 dX9_askOf_129 rfl ?_
            exact bk_pick [0, 1, 3, 4, 5, 6, 7, 8] rfl (hK13 (v31, v32))
        · refine bk_pick [0, 1, 2, 3, 4, 5, 6, 7, 8, 9] rfl (bk_r_loop (α := Int32 × Int32) (J := fun a => bk_At lyM w X 40 [(9, .int a.2), (8, .int a.1), (7, .int a14.2), (6, .int a14.1), (5, .int a8.2.2), (4, .int a8.2.1), (3, .int a8.1), (2, .int v3), (0, .ref (bk_r w 0)), (1, .int x1)] [] σ2) (v15, v16) (fun K19 hK19 a20 => ?_))
          refine bk_iload hX 0 dX9_askOf_40 rfl ?_
          refine bk_bipush hX bk_cb_10 dX9_askOf_42 ?_
          refine bk_icmp_ge hX 110 dX9_askOf_44 rfl ?_ ?_
          · exact bk_pick [1, 2, 3, 4, 5, 6, 7, 8, 9] rfl (hK17 a20.1)
          · refine bk_iload hX 1 dX9_askOf_47 rfl ?_
            refine bk_iload_n hX 7 dX9_askOf_49 rfl ?_
            refine bk_iload hX 2 dX9_askOf_50 rfl ?_
            refine bk_callS_i hX [.int v3, .int a14.2] [.int a20.1] yk_X9_isIn ys_X9_isIn lk_X9_197 rfl rfl (Nat.le_of_ble_eq_true rfl) ⟨Nat.le_of_ble_eq_true rfl, Nat.le_of_ble_eq_true rfl⟩ dX9_askOf_52 (m_X9_isIn w) (bk_pu (fun r21 => ?_))
            refine bk_r_jn (α := Int32) (J := fun a => bk_At lyM w X 101 [(9, .int a20.2), (8, .int a20.1), (7, .int a14.2), (6, .int a14.1), (5, .int a8.2.2), (4, .int a8.2.1), (3, .int a8.1), (2, .int v3), (0, .ref (bk_r w 0)), (1, .int x1)] [.int a, .int a20.1] σ2) (fun a23 => ?_) (fun K22 hK22 => ?_)
            · refine bk_iadd hX dX9_askOf_101 ?_
              refine bk_istore hX (fun v27 => [(8, .int v27), (9, .int a20.2), (7, .int a14.2), (6, .int a14.1), (5, .int a8.2.2), (4, .int a8.2.1), (3, .int a8.1), (2, .int v3), (0, .ref (bk_r w 0)), (1, .int x1)]) dX9_askOf_102 (Nat.le_of_ble_eq_true rfl) (fun _ => rfl) (fun v27 => ?_)
              refine bk_iinc hX 1 (fun v28 => [(9, .int v28), (8, .int v27), (7, .int a14.2), (6, .int a14.1), (5, .int a8.2.2), (4, .int a8.2.1), (3, .int a8.1), (2, .int v3), (0, .ref (bk_r w 0)), (1, .int x1)]) dX9_askOf_104 rfl bk_ci_1 (Nat.le_of_ble_eq_true rfl) (fun _ => rfl) (fun v28 => ?_)
              refine bk_goto hX 40 dX9_askOf_107 rfl ?_
              exact bk_pick [0, 1, 2, 3, 4, 5, 6, 7, 8, 9] rfl (hK19 (v27, v28))
            · refine bk_r_jn (α := Unit) (J := fun a => bk_At lyM w X 100 [(9, .int a20.2), (8, .int a20.1), (7, .int a14.2), (6, .int a14.1), (5, .int a8.2.2), (4, .int a8.2.1), (3, .int a8.1), (2, .int v3), (0, .ref (bk_r w 0)), (1, .int x1)] [.int a20.1] σ2) (fun a25 => ?_) (fun K24 hK24 => ?_)
              · refine bk_iconst hX bk_ci_0 dX9_askOf_100 ?_
                exact bk_pick [0, 1, 2, 3, 4, 5, 6, 7, 8, 9] rfl (hK22 (0 : Int32))
              · refine bk_if_eq hX 100 dX9_askOf_55 rfl ?_ ?_
                · exact bk_pick [0, 1, 2, 3, 4, 5, 6, 7, 8, 9] rfl (hK24 ())
                · refine bk_iload_n hX 7 dX9_askOf_58 rfl ?_
                  refine bk_iload hX 0 dX9_askOf_59 rfl ?_
                  refine bk_callS_i hX [.int v3, .int a20.2] [.int a20.1] yk_X9_isIn ys_X9_isIn lk_X9_197 rfl rfl (Nat.le_of_ble_eq_true rfl) ⟨Nat.le_of_ble_eq_true rfl, Nat.le_of_ble_eq_true rfl⟩ dX9_askOf_61 (m_X9_isIn w) (bk_pu (fun r26 => ?_))
                  refine bk_if_eq hX 100 dX9_askOf_64 rfl ?_ ?_
                  · exact bk_pick [0, 1, 2, 3, 4, 5, 6, 7, 8, 9] rfl (hK24 ())
                  · refine bk_aload_n hX 8 dX9_askOf_67 rfl ?_
                    refine bk_getr hX km_o rfl fl_X9_88 dX9_askOf_68 ?_
                    refine bk_bipush hX bk_cb_12 dX9_askOf_71 ?_
                    refine bk_iload hX 2 dX9_askOf_73 rfl ?_
                    refine bk_imul hX dX9_askOf_75 ?_
                    refine bk_iload hX 4 dX9_askOf_76 rfl ?_
                    refine bk_iadd hX dX9_askOf_78 ?_
                    refine bk_iaload hX km_51 dX9_askOf_79 ?_
                    refine bk_aload_n hX 8 dX9_askOf_80 rfl ?_
                    refine bk_getr hX km_o rfl fl_X9_88 dX9_askOf_81 ?_
                    refine bk_bipush hX bk_cb_12 dX9_askOf_84 ?_
                    refine bk_iload hX 0 dX9_askOf_86 rfl ?_
                    refine bk_imul hX dX9_askOf_88 ?_
                    refine bk_iload hX 4 dX9_askOf_89 rfl ?_
                    refine bk_iadd hX dX9_askOf_91 ?_
                    refine bk_iaload hX km_51 dX9_askOf_92 ?_
                    refine bk_icmp_ne hX 100 dX9_askOf_93 rfl ?_ ?_
                    · exact bk_pick [0, 1, 2, 3, 4, 5, 6, 7, 8, 9] rfl (hK24 ())
                    · refine bk_iconst hX bk_ci_1 dX9_askOf_96 ?_
                      refine bk_goto hX 101 dX9_askOf_97 rfl ?_
                      exact bk_pick [0, 1, 2, 3, 4, 5, 6, 7, 8, 9] rfl (hK22 (1 : Int32))

def w_X9_ask (x1 : Int32) (σ : bk_S) (post : Int32 → bk_S → Prop) : Prop :=
  w_X9_isThing x1 σ (fun r1 σ2 =>
    (r1 = 0 → post (-2 : Int32) σ2) ∧ (¬ r1 = 0 → (w_X9_askOf x1 σ2 (fun r3 σ4 =>
      post r3 σ4))))
set_option maxRecDepth 20000 in
theorem m_X9_ask (w : bk_W) {x1 : Int32} {σ : bk_S} {post : Int32 → bk_S → Prop} : w_X9_ask x1 σ post → bk_Mi lyM w yX9_ask cX9_ask 2 .int 9 212 [.ref (bk_r w 0), .int x1] σ post := by
  intro h0
  refine bk_mi (by decide) (Nat.le_of_ble_eq_true rfl) (fun X hX hret => ?_)
  revert h0
  unfold w_X9_ask
  show _ → bk_At lyM w X 0 [(0, .ref (bk_r w 0)), (1, .int x1)] [] σ
  refine bk_aload_n hX 0 dX9_ask_0 rfl ?_
  refine bk_iload_n hX 1 dX9_ask_1 rfl ?_
  refine bk_callV_i hX [.int x1] [] yk_X9_isThing yv_X9_isThing lk_X9_148 rfl rfl km_o rfl rfl (Nat.le_of_ble_eq_true rfl) ⟨Nat.le_of_ble_eq_true rfl, Nat.le_of_ble_eq_true rfl⟩ dX9_ask_2 (m_X9_isThing w) (fun r1 σ2 => ?_)
  refine bk_if_eq hX 16 dX9_ask_5 rfl ?_ ?_
  · refine bk_bipush hX bk_cb_m2 dX9_ask_16 ?_
    exact fun z => hret _ _ _ _ dX9_ask_18 rfl z
  · refine bk_aload_n hX 0 dX9_ask_8 rfl ?_
    refine bk_iload_n hX 1 dX9_ask_9 rfl ?_
    refine bk_callV_i hX [.int x1] [] yk_X9_askOf yv_X9_askOf lk_X9_355 rfl rfl km_o rfl rfl (Nat.le_of_ble_eq_true rfl) ⟨Nat.le_of_ble_eq_true rfl, Nat.le_of_ble_eq_true rfl⟩ dX9_ask_10 (m_X9_askOf w) (fun r3 σ4 => ?_)
    refine bk_goto hX 18 dX9_ask_13 rfl ?_
    exact fun z => hret _ _ _ _ dX9_ask_18 rfl z

def w_X9_chanceOf (x1 : Int32) (x2 : Int32) (x3 : Int32) (σ : bk_S) (post : Int64 → bk_S → Prop) : Prop :=
  w_X9_asTold σ (fun σ1 =>
    bk_lt (α := Int64) (0 : Int64) fun v2 =>
    bk_lt (α := Int32) (0 : Int32) fun v3 =>
    bk_jn (α := Int64 × bk_S) (fun a5 =>
      w_X9_lowest a5.1 ((1 : Int64) <<< (Int32.toInt64 ((4 : Int32) * (a5.2 0 8)) &&& 63)) x3 (fun r27 =>
        post r27 a5.2)) (fun K4 =>
      bk_loop (α := Int64 × Int32 × bk_S) (fun K6 a7 =>
        (((1 : Int32) <<< ((a7.2.2 0 8) &&& 31)) ≤ a7.2.1 → K4 (a7.1, a7.2.2)) ∧ (¬ ((1 : Int32) <<< ((a7.2.2 0 8) &&& 31)) ≤ a7.2.1 → (bk_lt (α := Int64) (1 : Int64) fun v8 =>
        bk_lt (α := Int32) (0 : Int32) fun v9 =>
        bk_jn (α := Int64) (fun a11 =>
          ((lg_cmp a11 (0 : Int64)) ≤ 0 → (bk_lt (α := Int32) (a7.2.1 + (1 : Int32)) fun v19 =>
          K6 (a7.1, v19, a7.2.2))) ∧ (¬ (lg_cmp a11 (0 : Int64)) ≤ 0 → (bk_lt (α := bk_S) (bk_u a7.2.2 0 19 a7.2.1) fun σ20 =>
          w_X9_runs σ20 (fun σ21 =>
            w_X9_isOpen x2 σ21 (fun r22 =>
              bk_lt (α := Int64) (if r22 = 0 then a11 else (0 : Int64)) fun a24 =>
              bk_lt (α := Int64) (a7.1 + a24) fun v25 =>
              bk_lt (α := Int32) (a7.2.1 + (1 : Int32)) fun v26 =>
              K6 (v25, v26, σ21)))))) (fun K10 =>
          bk_loop (α := Int64 × Int32) (fun K12 a13 =>
            ((a7.2.2 0 8) ≤ a13.2 → K10 a13.1) ∧ (¬ (a7.2.2 0 8) ≤ a13.2 → (w_X9_isIn a7.2.1 a13.2 (fun r14 =>
              bk_lt (α := Int64) (if r14 = 0 then (Int32.toInt64 x1) else (Int32.toInt64 ((16 : Int32) - x1))) fun a16 =>
              bk_lt (α := Int64) (a13.1 * a16) fun v17 =>
              bk_lt (α := Int32) (a13.2 + (1 : Int32)) fun v18 =>
              K12 (v17, v18))))) (v8, v9))))) (v2, v3, σ1)))
set_option maxRecDepth 20000 in
theorem m_X9_chanceOf (w : bk_W) {x1 : Int32} {x2 : Int32} {x3 : Int32} {σ : bk_S} {post : Int64 → bk_S → Prop} : w_X9_chanceOf x1 x2 x3 σ post → bk_Ml lyM w yX9_chanceOf cX9_chanceOf 10 6 137 [.ref (bk_r w 0), .int x1, .int x2, .int x3] σ post := by
  intro h0
  refine bk_ml (by decide) (Nat.le_of_ble_eq_true rfl) (fun X hX hret => ?_)
  revert h0
  unfold w_X9_chanceOf
  show _ → bk_At lyM w X 0 [(0, .ref (bk_r w 0)), (1, .int x1), (2, .int x2), (3, .int x3)] [] σ
  refine bk_aload_n hX 0 dX9_chanceOf_0 rfl ?_
  refine bk_callV_v hX [] [] yk_X9_asTold yv_X9_asTold lk_X9_261 rfl rfl km_o rfl rfl (Nat.le_of_ble_eq_true rfl) ⟨Nat.le_of_ble_eq_true rfl, Nat.le_of_ble_eq_true rfl⟩ dX9_chanceOf_1 (m_X9_asTold w) (fun σ1 => ?_)
  refine bk_lconst hX bk_cl_0 dX9_chanceOf_4 ?_
  refine bk_lstore hX (fun v2 => [(4, .long v2), (0, .ref (bk_r w 0)), (1, .int x1), (2, .int x2), (3, .int x3)]) dX9_chanceOf_5 (Nat.le_of_ble_eq_true rfl) (fun _ => rfl) (fun v2 => ?_)
  refine bk_iconst hX bk_ci_0 dX9_chanceOf_7 ?_
  refine bk_istore hX (fun v3 => [(6, .int v3), (4, .long v2), (0, .ref (bk_r w 0)), (1, .int x1), (2, .int x2), (3, .int x3)]) dX9_chanceOf_8 (Nat.le_of_ble_eq_true rfl) (fun _ => rfl) (fun v3 => ?_)
  refine bk_r_jn (α := Int64 × bk_S) (J := fun a => bk_At lyM w X 109 [(4, .long a.1), (0, .ref (bk_r w 0)), (1, .int x1), (2, .int x2), (3, .int x3)] [] a.2) (fun a5 => ?_) (fun K4 hK4 => ?_)
  · refine bk_lload hX 0 dX9_chanceOf_109 rfl ?_
    refine bk_lconst hX bk_cl_1 dX9_chanceOf_111 ?_
    refine bk_iconst hX bk_ci_4 dX9_chanceOf_112 ?_
    refine bk_aload_n hX 1 dX9_chanceOf_113 rfl ?_
    refine bk_geti hX km_o rfl fl_X9_160 dX9_chanceOf_114 ?_
    refine bk_imul hX dX9_chanceOf_117 ?_
    refine bk_lshl hX dX9_chanceOf_118 ?_
    refine bk_iload_n hX 4 dX9_chanceOf_119 rfl ?_
    refine bk_callS_l hX [.long a5.1, .long ((1 : Int64) <<< (Int32.toInt64 ((4 : Int32) * (a5.2 0 8)) &&& 63)), .int x3] [] yk_X9_lowest ys_X9_lowest lk_X9_358 rfl rfl (Nat.le_of_ble_eq_true rfl) ⟨Nat.le_of_ble_eq_true rfl, Nat.le_of_ble_eq_true rfl⟩ dX9_chanceOf_120 (m_X9_lowest w) (bk_pu (fun r27 => ?_))
    exact fun z => hret _ _ _ _ dX9_chanceOf_123 z
  · refine bk_pick [0, 1, 2, 3, 4, 5] rfl (bk_r_loop (α := Int64 × Int32 × bk_S) (J := fun a => bk_At lyM w X 10 [(6, .int a.2.1), (4, .long a.1), (0, .ref (bk_r w 0)), (1, .int x1), (2, .int x2), (3, .int x3)] [] a.2.2) (v2, v3, σ1) (fun K6 hK6 a7 => ?_))
    refine bk_iload hX 0 dX9_chanceOf_10 rfl ?_
    refine bk_iconst hX bk_ci_1 dX9_chanceOf_12 ?_
    refine bk_aload_n hX 2 dX9_chanceOf_13 rfl ?_
    refine bk_geti hX km_o rfl fl_X9_160 dX9_chanceOf_14 ?_
    refine bk_ishl hX dX9_chanceOf_17 ?_
    refine bk_icmp_ge hX 109 dX9_chanceOf_18 rfl ?_ ?_
    · exact bk_pick [1, 2, 3, 4, 5] rfl (hK4 (a7.1, a7.2.2))
    · refine bk_lconst hX bk_cl_1 dX9_chanceOf_21 ?_
      refine bk_lstore hX (fun v8 => [(7, .long v8), (6, .int a7.2.1), (4, .long a7.1), (0, .ref (bk_r w 0)), (1, .int x1), (2, .int x2), (3, .int x3)]) dX9_chanceOf_22 (Nat.le_of_ble_eq_true rfl) (fun _ => rfl) (fun v8 => ?_)
      refine bk_iconst hX bk_ci_0 dX9_chanceOf_24 ?_
      refine bk_istore hX (fun v9 => [(9, .int v9), (7, .long v8), (6, .int a7.2.1), (4, .long a7.1), (0, .ref (bk_r w 0)), (1, .int x1), (2, .int x2), (3, .int x3)]) dX9_chanceOf_25 (Nat.le_of_ble_eq_true rfl) (fun _ => rfl) (fun v9 => ?_)
      refine bk_r_jn (α := Int64) (J := fun a => bk_At lyM w X 67 [(7, .long a), (6, .int a7.2.1), (4, .long a7.1), (0, .ref (bk_r w 0)), (1, .int x1), (2, .int x2), (3, .int x3)] [] a7.2.2) (fun a11 => ?_) (fun K10 hK10 => ?_)
      · refine bk_lload hX 0 dX9_chanceOf_67 rfl ?_
        refine bk_lconst hX bk_cl_0 dX9_chanceOf_69 ?_
        refine bk_lcmp hX dX9_chanceOf_70 ?_
        refine bk_if_le hX 103 dX9_chanceOf_71 rfl ?_ ?_
        · refine bk_iinc hX 1 (fun v19 => [(6, .int v19), (7, .long a11), (4, .long a7.1), (0, .ref (bk_r w 0)), (1, .int x1), (2, .int x2), (3, .int x3)]) dX9_chanceOf_103 rfl bk_ci_1 (Nat.le_of_ble_eq_true rfl) (fun _ => rfl) (fun v19 => ?_)
          refine bk_goto hX 10 dX9_chanceOf_106 rfl ?_
          exact bk_pick [0, 2, 3, 4, 5, 6] rfl (hK6 (a7.1, v19, a7.2.2))
        · refine bk_aload_n hX 3 dX9_chanceOf_74 rfl ?_
          refine bk_iload hX 1 dX9_chanceOf_75 rfl ?_
          refine bk_putI hX km_o rfl fp_X9_185 dX9_chanceOf_77 (fun σ20 => ?_)
          refine bk_aload_n hX 3 dX9_chanceOf_80 rfl ?_
          refine bk_callV_v hX [] [] yk_X9_runs yv_X9_runs lk_X9_264 rfl rfl km_o rfl rfl (Nat.le_of_ble_eq_true rfl) ⟨Nat.le_of_ble_eq_true rfl, Nat.le_of_ble_eq_true rfl⟩ dX9_chanceOf_81 (m_X9_runs w) (fun σ21 => ?_)
          refine bk_lload hX 2 dX9_chanceOf_84 rfl ?_
          refine bk_aload_n hX 3 dX9_chanceOf_86 rfl ?_
          refine bk_iload_n hX 5 dX9_chanceOf_87 rfl ?_
          refine bk_callV_i hX [.int x2] [.long a7.1] yk_X9_isOpen yv_X9_isOpen lk_X9_201 rfl rfl km_o rfl rfl (Nat.le_of_ble_eq_true rfl) ⟨Nat.le_of_ble_eq_true rfl, Nat.le_of_ble_eq_true rfl⟩ dX9_chanceOf_88 (m_X9_isOpen w) (bk_pu (fun r22 => ?_))
          refine bk_r_if (α := Int64) (F := fun K23 => (r22 = 0 → K23 a11) ∧ (¬ r22 = 0 → K23 (0 : Int64))) (fun K23 z => ⟨fun h0 => (bk_pos (K := K23) h0 z), fun h0 => (bk_neg (K := K23) h0 z)⟩) (J := fun a => bk_At lyM w X 100 [(7, .long a11), (6, .int a7.2.1), (4, .long a7.1), (0, .ref (bk_r w 0)), (1, .int x1), (2, .int x2), (3, .int x3)] [.long a, .long a7.1] σ21) (fun a24 => ?_) (fun K23 hK23 => ?_)
          · refine bk_ladd hX dX9_chanceOf_100 ?_
            refine bk_lstore hX (fun v25 => [(4, .long v25), (7, .long a11), (6, .int a7.2.1), (0, .ref (bk_r w 0)), (1, .int x1), (2, .int x2), (3, .int x3)]) dX9_chanceOf_101 (Nat.le_of_ble_eq_true rfl) (fun _ => rfl) (fun v25 => ?_)
            refine bk_iinc hX 2 (fun v26 => [(6, .int v26), (4, .long v25), (7, .long a11), (0, .ref (bk_r w 0)), (1, .int x1), (2, .int x2), (3, .int x3)]) dX9_chanceOf_103 rfl bk_ci_1 (Nat.le_of_ble_eq_true rfl) (fun _ => rfl) (fun v26 => ?_)
            refine bk_goto hX 10 dX9_chanceOf_106 rfl ?_
            exact bk_pick [0, 1, 3, 4, 5, 6] rfl (hK6 (v25, v26, σ21))
          · refine bk_if_eq hX 98 dX9_chanceOf_91 rfl ?_ ?_
            · refine bk_lload hX 0 dX9_chanceOf_98 rfl ?_
              exact bk_pick [0, 1, 2, 3, 4, 5, 6] rfl (hK23 a11)
            · refine bk_lconst hX bk_cl_0 dX9_chanceOf_94 ?_
              refine bk_goto hX 100 dX9_chanceOf_95 rfl ?_
              exact bk_pick [0, 1, 2, 3, 4, 5, 6] rfl (hK23 (0 : Int64))
      · refine bk_pick [0, 1, 2, 3, 4, 5, 6, 7] rfl (bk_r_loop (α := Int64 × Int32) (J := fun a => bk_At lyM w X 27 [(9, .int a.2), (7, .long a.1), (6, .int a7.2.1), (4, .long a7.1), (0, .ref (bk_r w 0)), (1, .int x1), (2, .int x2), (3, .int x3)] [] a7.2.2) (v8, v9) (fun K12 hK12 a13 => ?_))
        refine bk_iload hX 0 dX9_chanceOf_27 rfl ?_
        refine bk_aload_n hX 4 dX9_chanceOf_29 rfl ?_
        refine bk_geti hX km_o rfl fl_X9_160 dX9_chanceOf_30 ?_
        refine bk_icmp_ge hX 67 dX9_chanceOf_33 rfl ?_ ?_
        · exact bk_pick [1, 2, 3, 4, 5, 6, 7] rfl (hK10 a13.1)
        · refine bk_lload hX 1 dX9_chanceOf_36 rfl ?_
          refine bk_iload hX 2 dX9_chanceOf_38 rfl ?_
          refine bk_iload hX 0 dX9_chanceOf_40 rfl ?_
          refine bk_callS_i hX [.int a7.2.1, .int a13.2] [.long a13.1] yk_X9_isIn ys_X9_isIn lk_X9_197 rfl rfl (Nat.le_of_ble_eq_true rfl) ⟨Nat.le_of_ble_eq_true rfl, Nat.le_of_ble_eq_true rfl⟩ dX9_chanceOf_42 (m_X9_isIn w) (bk_pu (fun r14 => ?_))
          refine bk_r_if (α := Int64) (F := fun K15 => (r14 = 0 → K15 (Int32.toInt64 x1)) ∧ (¬ r14 = 0 → K15 (Int32.toInt64 ((16 : Int32) - x1)))) (fun K15 z => ⟨fun h0 => (bk_pos (K := K15) h0 z), fun h0 => (bk_neg (K := K15) h0 z)⟩) (J := fun a => bk_At lyM w X 58 [(9, .int a13.2), (7, .long a13.1), (6, .int a7.2.1), (4, .long a7.1), (0, .ref (bk_r w 0)), (1, .int x1), (2, .int x2), (3, .int x3)] [.long a, .long a13.1] a7.2.2) (fun a16 => ?_) (fun K15 hK15 => ?_)
          · refine bk_lmul hX dX9_chanceOf_58 ?_
            refine bk_lstore hX (fun v17 => [(7, .long v17), (9, .int a13.2), (6, .int a7.2.1), (4, .long a7.1), (0, .ref (bk_r w 0)), (1, .int x1), (2, .int x2), (3, .int x3)]) dX9_chanceOf_59 (Nat.le_of_ble_eq_true rfl) (fun _ => rfl) (fun v17 => ?_)
            refine bk_iinc hX 1 (fun v18 => [(9, .int v18), (7, .long v17), (6, .int a7.2.1), (4, .long a7.1), (0, .ref (bk_r w 0)), (1, .int x1), (2, .int x2), (3, .int x3)]) dX9_chanceOf_61 rfl bk_ci_1 (Nat.le_of_ble_eq_true rfl) (fun _ => rfl) (fun v18 => ?_)
            refine bk_goto hX 27 dX9_chanceOf_64 rfl ?_
            exact bk_pick [0, 1, 2, 3, 4, 5, 6, 7] rfl (hK12 (v17, v18))
          · refine bk_if_eq hX 56 dX9_chanceOf_45 rfl ?_ ?_
            · refine bk_iload_n hX 5 dX9_chanceOf_56 rfl ?_
              refine bk_i2l hX dX9_chanceOf_57 ?_
              exact bk_pick [0, 1, 2, 3, 4, 5, 6, 7] rfl (hK15 (Int32.toInt64 x1))
            · refine bk_bipush hX bk_cb_16 dX9_chanceOf_48 ?_
              refine bk_iload_n hX 5 dX9_chanceOf_50 rfl ?_
              refine bk_isub hX dX9_chanceOf_51 ?_
              refine bk_i2l hX dX9_chanceOf_52 ?_
              refine bk_goto hX 58 dX9_chanceOf_53 rfl ?_
              exact bk_pick [0, 1, 2, 3, 4, 5, 6, 7] rfl (hK15 (Int32.toInt64 ((16 : Int32) - x1)))

def w_X9_chance (x1 : Int32) (x2 : Int32) (x3 : Int32) (σ : bk_S) (post : Int64 → bk_S → Prop) : Prop :=
  w_X9_in x1 (0 : Int32) (16 : Int32) (fun r1 =>
    bk_jn (α := bk_S) (fun a3 =>
      w_X9_no (-2 : Int32) (fun r9 =>
        post r9 a3)) (fun K2 =>
      (r1 = 0 → K2 σ) ∧ (¬ r1 = 0 → (w_X9_isThing x2 σ (fun r4 σ5 =>
        (r4 = 0 → K2 σ5) ∧ (¬ r4 = 0 → (w_X9_isTwo x3 (fun r6 =>
          (r6 = 0 → K2 σ5) ∧ (¬ r6 = 0 → (w_X9_chanceOf x1 x2 x3 σ5 (fun r7 σ8 =>
            post r7 σ8)))))))))))
set_option maxRecDepth 20000 in
theorem m_X9_chance (w : bk_W) {x1 : Int32} {x2 : Int32} {x3 : Int32} {σ : bk_S} {post : Int64 → bk_S → Prop} : w_X9_chance x1 x2 x3 σ post → bk_Ml lyM w yX9_chance cX9_chance 4 7 166 [.ref (bk_r w 0), .int x1, .int x2, .int x3] σ post := by
  intro h0
  refine bk_ml (by decide) (Nat.le_of_ble_eq_true rfl) (fun X hX hret => ?_)
  revert h0
  unfold w_X9_chance
  show _ → bk_At lyM w X 0 [(0, .ref (bk_r w 0)), (1, .int x1), (2, .int x2), (3, .int x3)] [] σ
  refine bk_iload_n hX 1 dX9_chance_0 rfl ?_
  refine bk_iconst hX bk_ci_0 dX9_chance_1 ?_
  refine bk_bipush hX bk_cb_16 dX9_chance_2 ?_
  refine bk_callS_i hX [.int x1, .int (0 : Int32), .int (16 : Int32)] [] yk_X9_in ys_X9_in lk_X9_109 rfl rfl (Nat.le_of_ble_eq_true rfl) ⟨Nat.le_of_ble_eq_true rfl, Nat.le_of_ble_eq_true rfl⟩ dX9_chance_4 (m_X9_in w) (bk_pu (fun r1 => ?_))
  refine bk_r_jn (α := bk_S) (J := fun a => bk_At lyM w X 35 [(0, .ref (bk_r w 0)), (1, .int x1), (2, .int x2), (3, .int x3)] [] a) (fun a3 => ?_) (fun K2 hK2 => ?_)
  · refine bk_bipush hX bk_cb_m2 dX9_chance_35 ?_
    refine bk_callS_l hX [.int (-2 : Int32)] [] yk_X9_no ys_X9_no lk_X9_366 rfl rfl (Nat.le_of_ble_eq_true rfl) ⟨Nat.le_of_ble_eq_true rfl, Nat.le_of_ble_eq_true rfl⟩ dX9_chance_37 (m_X9_no w) (bk_pu (fun r9 => ?_))
    exact fun z => hret _ _ _ _ dX9_chance_40 z
  · refine bk_if_eq hX 35 dX9_chance_7 rfl ?_ ?_
    · exact bk_pick [0, 1, 2, 3] rfl (hK2 σ)
    · refine bk_aload_n hX 0 dX9_chance_10 rfl ?_
      refine bk_iload_n hX 2 dX9_chance_11 rfl ?_
      refine bk_callV_i hX [.int x2] [] yk_X9_isThing yv_X9_isThing lk_X9_148 rfl rfl km_o rfl rfl (Nat.le_of_ble_eq_true rfl) ⟨Nat.le_of_ble_eq_true rfl, Nat.le_of_ble_eq_true rfl⟩ dX9_chance_12 (m_X9_isThing w) (fun r4 σ5 => ?_)
      refine bk_if_eq hX 35 dX9_chance_15 rfl ?_ ?_
      · exact bk_pick [0, 1, 2, 3] rfl (hK2 σ5)
      · refine bk_iload_n hX 3 dX9_chance_18 rfl ?_
        refine bk_callS_i hX [.int x3] [] yk_X9_isTwo ys_X9_isTwo lk_X9_113 rfl rfl (Nat.le_of_ble_eq_true rfl) ⟨Nat.le_of_ble_eq_true rfl, Nat.le_of_ble_eq_true rfl⟩ dX9_chance_19 (m_X9_isTwo w) (bk_pu (fun r6 => ?_))
        refine bk_if_eq hX 35 dX9_chance_22 rfl ?_ ?_
        · exact bk_pick [0, 1, 2, 3] rfl (hK2 σ5)
        · refine bk_aload_n hX 0 dX9_chance_25 rfl ?_
          refine bk_iload_n hX 1 dX9_chance_26 rfl ?_
          refine bk_iload_n hX 2 dX9_chance_27 rfl ?_
          refine bk_iload_n hX 3 dX9_chance_28 rfl ?_
          refine bk_callV_l hX [.int x1, .int x2, .int x3] [] yk_X9_chanceOf yv_X9_chanceOf lk_X9_362 rfl rfl km_o rfl rfl (Nat.le_of_ble_eq_true rfl) ⟨Nat.le_of_ble_eq_true rfl, Nat.le_of_ble_eq_true rfl⟩ dX9_chance_29 (m_X9_chanceOf w) (fun r7 σ8 => ?_)
          refine bk_goto hX 40 dX9_chance_32 rfl ?_
          exact fun z => hret _ _ _ _ dX9_chance_40 z

def w_X9_seasonsOf (x1 : Int32) (x2 : Int32) (x3 : Int32) (σ : bk_S) (post : Int32 → bk_S → Prop) : Prop :=
  w_X9_asTold σ (fun σ1 =>
    bk_lt (α := Int32) x1 fun v2 =>
    bk_lt (α := bk_S) (bk_u σ1 0 12 x2) fun σ3 =>
    bk_lt (α := Int32) (0 : Int32) fun v4 =>
    bk_jn (α := bk_S) (fun a6 =>
      w_X9_runs a6 (fun σ16 =>
        (¬ x3 = 0 → post (σ16 0 29) σ16) ∧ (x3 = 0 → (w_X9_manySettled σ16 (fun r17 =>
          post r17 σ16))))) (fun K5 =>
      bk_loop (α := Int32 × Int32 × bk_S) (fun K7 a8 =>
        (x2 ≤ a8.2.1 → K5 a8.2.2) ∧ (¬ x2 ≤ a8.2.1 → (bk_lt (α := Int32) (((1103515245 : Int32) * a8.1) + (12345 : Int32)) fun v9 =>
        ¬ (3 : Int32) = 0 ∧ vp_in a8.2.1 8 ∧ bk_lt (α := bk_S) (bk_u a8.2.2 14 (Int32.toNatClampNeg a8.2.1) (((Int32.toUInt32 v9 >>> (Int32.toUInt32 (16 : Int32) &&& Int32.toUInt32 31)).toInt32) - ((Int32.toUInt32 v9 >>> (Int32.toUInt32 (16 : Int32) &&& Int32.toUInt32 31)).toInt32) / (3 : Int32) * (3 : Int32))) fun σ10 =>
        bk_lt (α := Int32) (((1103515245 : Int32) * v9) + (12345 : Int32)) fun v11 =>
        ¬ (9 : Int32) = 0 ∧ vp_in a8.2.1 8 ∧ bk_lt (α := bk_S) (bk_u σ10 15 (Int32.toNatClampNeg a8.2.1) ((((Int32.toUInt32 v11 >>> (Int32.toUInt32 (16 : Int32) &&& Int32.toUInt32 31)).toInt32) - ((Int32.toUInt32 v11 >>> (Int32.toUInt32 (16 : Int32) &&& Int32.toUInt32 31)).toInt32) / (9 : Int32) * (9 : Int32)) + (1 : Int32))) fun σ12 =>
        bk_lt (α := Int32) (((1103515245 : Int32) * v11) + (12345 : Int32)) fun v13 =>
        ¬ (10 : Int32) = 0 ∧ vp_in a8.2.1 8 ∧ bk_lt (α := bk_S) (bk_u σ12 16 (Int32.toNatClampNeg a8.2.1) (((Int32.toUInt32 v13 >>> (Int32.toUInt32 (16 : Int32) &&& Int32.toUInt32 31)).toInt32) - ((Int32.toUInt32 v13 >>> (Int32.toUInt32 (16 : Int32) &&& Int32.toUInt32 31)).toInt32) / (10 : Int32) * (10 : Int32))) fun σ14 =>
        bk_lt (α := Int32) (a8.2.1 + (1 : Int32)) fun v15 =>
        K7 (v13, v15, σ14)))) (v2, v4, σ3)))
set_option maxRecDepth 20000 in
theorem m_X9_seasonsOf (w : bk_W) {x1 : Int32} {x2 : Int32} {x3 : Int32} {σ : bk_S} {post : Int32 → bk_S → Prop} : w_X9_seasonsOf x1 x2 x3 σ post → bk_Mi lyM w yX9_seasonsOf cX9_seasonsOf 6 .int 6 137 [.ref (bk_r w 0), .int x1, .int x2, .int x3] σ post := by
  intro h0
  refine bk_mi (by decide) (Nat.le_of_ble_eq_true rfl) (fun X hX hret => ?_)
  revert h0
  unfold w_X9_seasonsOf
  show _ → bk_At lyM w X 0 [(0, .ref (bk_r w 0)), (1, .int x1), (2, .int x2), (3, .int x3)] [] σ
  refine bk_aload_n hX 0 dX9_seasonsOf_0 rfl ?_
  refine bk_callV_v hX [] [] yk_X9_asTold yv_X9_asTold lk_X9_261 rfl rfl km_o rfl rfl (Nat.le_of_ble_eq_true rfl) ⟨Nat.le_of_ble_eq_true rfl, Nat.le_of_ble_eq_true rfl⟩ dX9_seasonsOf_1 (m_X9_asTold w) (fun σ1 => ?_)
  refine bk_iload_n hX 1 dX9_seasonsOf_4 rfl ?_
  refine bk_istore hX (fun v2 => [(4, .int v2), (0, .ref (bk_r w 0)), (1, .int x1), (2, .int x2), (3, .int x3)]) dX9_seasonsOf_5 (Nat.le_of_ble_eq_true rfl) (fun _ => rfl) (fun v2 => ?_)
  refine bk_aload_n hX 1 dX9_seasonsOf_7 rfl ?_
  refine bk_iload_n hX 3 dX9_seasonsOf_8 rfl ?_
  refine bk_putI hX km_o rfl fp_X9_173 dX9_seasonsOf_9 (fun σ3 => ?_)
  refine bk_iconst hX bk_ci_0 dX9_seasonsOf_12 ?_
  refine bk_istore hX (fun v4 => [(5, .int v4), (4, .int v2), (0, .ref (bk_r w 0)), (1, .int x1), (2, .int x2), (3, .int x3)]) dX9_seasonsOf_13 (Nat.le_of_ble_eq_true rfl) (fun _ => rfl) (fun v4 => ?_)
  refine bk_r_jn (α := bk_S) (J := fun a => bk_At lyM w X 109 [(0, .ref (bk_r w 0)), (1, .int x1), (2, .int x2), (3, .int x3)] [] a) (fun a6 => ?_) (fun K5 hK5 => ?_)
  · refine bk_aload_n hX 0 dX9_seasonsOf_109 rfl ?_
    refine bk_callV_v hX [] [] yk_X9_runs yv_X9_runs lk_X9_264 rfl rfl km_o rfl rfl (Nat.le_of_ble_eq_true rfl) ⟨Nat.le_of_ble_eq_true rfl, Nat.le_of_ble_eq_true rfl⟩ dX9_seasonsOf_110 (m_X9_runs w) (fun σ16 => ?_)
    refine bk_iload_n hX 3 dX9_seasonsOf_113 rfl ?_
    refine bk_if_ne hX 124 dX9_seasonsOf_114 rfl ?_ ?_
    · refine bk_aload_n hX 0 dX9_seasonsOf_124 rfl ?_
      refine bk_geti hX km_o rfl fl_X9_246 dX9_seasonsOf_125 ?_
      exact fun z => hret _ _ _ _ dX9_seasonsOf_128 rfl z
    · refine bk_aload_n hX 0 dX9_seasonsOf_117 rfl ?_
      refine bk_callV_i hX [] [] yk_X9_manySettled yv_X9_manySettled lk_X9_282 rfl rfl km_o rfl rfl (Nat.le_of_ble_eq_true rfl) ⟨Nat.le_of_ble_eq_true rfl, Nat.le_of_ble_eq_true rfl⟩ dX9_seasonsOf_118 (m_X9_manySettled w) (bk_pu (fun r17 => ?_))
      refine bk_goto hX 128 dX9_seasonsOf_121 rfl ?_
      exact fun z => hret _ _ _ _ dX9_seasonsOf_128 rfl z
  · refine bk_pick [0, 1, 2, 3, 4, 5] rfl (bk_r_loop (α := Int32 × Int32 × bk_S) (J := fun a => bk_At lyM w X 15 [(5, .int a.2.1), (4, .int a.1), (0, .ref (bk_r w 0)), (1, .int x1), (2, .int x2), (3, .int x3)] [] a.2.2) (v2, v4, σ3) (fun K7 hK7 a8 => ?_))
    refine bk_iload hX 0 dX9_seasonsOf_15 rfl ?_
    refine bk_iload_n hX 4 dX9_seasonsOf_17 rfl ?_
    refine bk_icmp_ge hX 109 dX9_seasonsOf_18 rfl ?_ ?_
    · exact bk_pick [2, 3, 4, 5] rfl (hK5 a8.2.2)
    · refine bk_ldcw hX kn_X9_370 dX9_seasonsOf_21 ?_
      refine bk_iload hX 1 dX9_seasonsOf_24 rfl ?_
      refine bk_imul hX dX9_seasonsOf_26 ?_
      refine bk_sipush hX bk_cs_12345 dX9_seasonsOf_27 ?_
      refine bk_iadd hX dX9_seasonsOf_30 ?_
      refine bk_istore hX (fun v9 => [(4, .int v9), (5, .int a8.2.1), (0, .ref (bk_r w 0)), (1, .int x1), (2, .int x2), (3, .int x3)]) dX9_seasonsOf_31 (Nat.le_of_ble_eq_true rfl) (fun _ => rfl) (fun v9 => ?_)
      refine bk_aload_n hX 2 dX9_seasonsOf_33 rfl ?_
      refine bk_getr hX km_o rfl fl_X9_37 dX9_seasonsOf_34 ?_
      refine bk_iload hX 1 dX9_seasonsOf_37 rfl ?_
      refine bk_iload hX 0 dX9_seasonsOf_39 rfl ?_
      refine bk_bipush hX bk_cb_16 dX9_seasonsOf_41 ?_
      refine bk_iushr hX dX9_seasonsOf_43 ?_
      refine bk_iconst hX bk_ci_3 dX9_seasonsOf_44 ?_
      refine bk_irem hX dX9_seasonsOf_45 ?_
      refine bk_iastore hX km_14 dX9_seasonsOf_46 (fun σ10 => ?_)
      refine bk_ldcw hX kn_X9_370 dX9_seasonsOf_47 ?_
      refine bk_iload hX 0 dX9_seasonsOf_50 rfl ?_
      refine bk_imul hX dX9_seasonsOf_52 ?_
      refine bk_sipush hX bk_cs_12345 dX9_seasonsOf_53 ?_
      refine bk_iadd hX dX9_seasonsOf_56 ?_
      refine bk_istore hX (fun v11 => [(4, .int v11), (5, .int a8.2.1), (0, .ref (bk_r w 0)), (1, .int x1), (2, .int x2), (3, .int x3)]) dX9_seasonsOf_57 (Nat.le_of_ble_eq_true rfl) (fun _ => rfl) (fun v11 => ?_)
      refine bk_aload_n hX 2 dX9_seasonsOf_59 rfl ?_
      refine bk_getr hX km_o rfl fl_X9_40 dX9_seasonsOf_60 ?_
      refine bk_iload hX 1 dX9_seasonsOf_63 rfl ?_
      refine bk_iload hX 0 dX9_seasonsOf_65 rfl ?_
      refine bk_bipush hX bk_cb_16 dX9_seasonsOf_67 ?_
      refine bk_iushr hX dX9_seasonsOf_69 ?_
      refine bk_bipush hX bk_cb_9 dX9_seasonsOf_70 ?_
      refine bk_irem hX dX9_seasonsOf_72 ?_
      refine bk_iconst hX bk_ci_1 dX9_seasonsOf_73 ?_
      refine bk_iadd hX dX9_seasonsOf_74 ?_
      refine bk_iastore hX km_15 dX9_seasonsOf_75 (fun σ12 => ?_)
      refine bk_ldcw hX kn_X9_370 dX9_seasonsOf_76 ?_
      refine bk_iload hX 0 dX9_seasonsOf_79 rfl ?_
      refine bk_imul hX dX9_seasonsOf_81 ?_
      refine bk_sipush hX bk_cs_12345 dX9_seasonsOf_82 ?_
      refine bk_iadd hX dX9_seasonsOf_85 ?_
      refine bk_istore hX (fun v13 => [(4, .int v13), (5, .int a8.2.1), (0, .ref (bk_r w 0)), (1, .int x1), (2, .int x2), (3, .int x3)]) dX9_seasonsOf_86 (Nat.le_of_ble_eq_true rfl) (fun _ => rfl) (fun v13 => ?_)
      refine bk_aload_n hX 2 dX9_seasonsOf_88 rfl ?_
      refine bk_getr hX km_o rfl fl_X9_43 dX9_seasonsOf_89 ?_
      refine bk_iload hX 1 dX9_seasonsOf_92 rfl ?_
      refine bk_iload hX 0 dX9_seasonsOf_94 rfl ?_
      refine bk_bipush hX bk_cb_16 dX9_seasonsOf_96 ?_
      refine bk_iushr hX dX9_seasonsOf_98 ?_
      refine bk_bipush hX bk_cb_10 dX9_seasonsOf_99 ?_
      refine bk_irem hX dX9_seasonsOf_101 ?_
      refine bk_iastore hX km_16 dX9_seasonsOf_102 (fun σ14 => ?_)
      refine bk_iinc hX 1 (fun v15 => [(5, .int v15), (4, .int v13), (0, .ref (bk_r w 0)), (1, .int x1), (2, .int x2), (3, .int x3)]) dX9_seasonsOf_103 rfl bk_ci_1 (Nat.le_of_ble_eq_true rfl) (fun _ => rfl) (fun v15 => ?_)
      refine bk_goto hX 15 dX9_seasonsOf_106 rfl ?_
      exact bk_pick [0, 1, 2, 3, 4, 5] rfl (hK7 (v13, v15, σ14))

def w_X9_seasons (x1 : Int32) (x2 : Int32) (x3 : Int32) (σ : bk_S) (post : Int32 → bk_S → Prop) : Prop :=
  w_X9_in x2 (0 : Int32) (8 : Int32) (fun r1 =>
    bk_jn (α := Unit) (fun a3 =>
      post (-2 : Int32) σ) (fun K2 =>
      (r1 = 0 → K2 ()) ∧ (¬ r1 = 0 → (w_X9_isTwo x3 (fun r4 =>
        (r4 = 0 → K2 ()) ∧ (¬ r4 = 0 → (w_X9_seasonsOf x1 x2 x3 σ (fun r5 σ6 =>
          post r5 σ6))))))))
set_option maxRecDepth 20000 in
theorem m_X9_seasons (w : bk_W) {x1 : Int32} {x2 : Int32} {x3 : Int32} {σ : bk_S} {post : Int32 → bk_S → Prop} : w_X9_seasons x1 x2 x3 σ post → bk_Mi lyM w yX9_seasons cX9_seasons 4 .int 7 162 [.ref (bk_r w 0), .int x1, .int x2, .int x3] σ post := by
  intro h0
  refine bk_mi (by decide) (Nat.le_of_ble_eq_true rfl) (fun X hX hret => ?_)
  revert h0
  unfold w_X9_seasons
  show _ → bk_At lyM w X 0 [(0, .ref (bk_r w 0)), (1, .int x1), (2, .int x2), (3, .int x3)] [] σ
  refine bk_iload_n hX 2 dX9_seasons_0 rfl ?_
  refine bk_iconst hX bk_ci_0 dX9_seasons_1 ?_
  refine bk_bipush hX bk_cb_8 dX9_seasons_2 ?_
  refine bk_callS_i hX [.int x2, .int (0 : Int32), .int (8 : Int32)] [] yk_X9_in ys_X9_in lk_X9_109 rfl rfl (Nat.le_of_ble_eq_true rfl) ⟨Nat.le_of_ble_eq_true rfl, Nat.le_of_ble_eq_true rfl⟩ dX9_seasons_4 (m_X9_in w) (bk_pu (fun r1 => ?_))
  refine bk_r_jn (α := Unit) (J := fun a => bk_At lyM w X 27 [(0, .ref (bk_r w 0)), (1, .int x1), (2, .int x2), (3, .int x3)] [] σ) (fun a3 => ?_) (fun K2 hK2 => ?_)
  · refine bk_bipush hX bk_cb_m2 dX9_seasons_27 ?_
    exact fun z => hret _ _ _ _ dX9_seasons_29 rfl z
  · refine bk_if_eq hX 27 dX9_seasons_7 rfl ?_ ?_
    · exact bk_pick [0, 1, 2, 3] rfl (hK2 ())
    · refine bk_iload_n hX 3 dX9_seasons_10 rfl ?_
      refine bk_callS_i hX [.int x3] [] yk_X9_isTwo ys_X9_isTwo lk_X9_113 rfl rfl (Nat.le_of_ble_eq_true rfl) ⟨Nat.le_of_ble_eq_true rfl, Nat.le_of_ble_eq_true rfl⟩ dX9_seasons_11 (m_X9_isTwo w) (bk_pu (fun r4 => ?_))
      refine bk_if_eq hX 27 dX9_seasons_14 rfl ?_ ?_
      · exact bk_pick [0, 1, 2, 3] rfl (hK2 ())
      · refine bk_aload_n hX 0 dX9_seasons_17 rfl ?_
        refine bk_iload_n hX 1 dX9_seasons_18 rfl ?_
        refine bk_iload_n hX 2 dX9_seasons_19 rfl ?_
        refine bk_iload_n hX 3 dX9_seasons_20 rfl ?_
        refine bk_callV_i hX [.int x1, .int x2, .int x3] [] yk_X9_seasonsOf yv_X9_seasonsOf lk_X9_371 rfl rfl km_o rfl rfl (Nat.le_of_ble_eq_true rfl) ⟨Nat.le_of_ble_eq_true rfl, Nat.le_of_ble_eq_true rfl⟩ dX9_seasons_21 (m_X9_seasonsOf w) (fun r5 σ6 => ?_)
        refine bk_goto hX 29 dX9_seasons_24 rfl ?_
        exact fun z => hret _ _ _ _ dX9_seasons_29 rfl z

def w_X9_sheet (x1 : Int32) (x2 : Int32) (x3 : Int32) (σ : bk_S) (post : Int32 → bk_S → Prop) : Prop :=
  w_X9_isSheet x1 (fun r1 =>
    (r1 = 0 → post (-2 : Int32) σ) ∧ (¬ r1 = 0 → (w_X9_in x2 (0 : Int32) (2 : Int32) (fun r2 =>
      (r2 = 0 → post (-2 : Int32) σ) ∧ (¬ r2 = 0 → ((x3 ≤ (60 : Int32) → ((0 ≤ x3 → (vp_in x1 4 ∧ bk_lt (α := bk_S) (bk_u σ 52 (Int32.toNatClampNeg x1) (vp_nar .boolean (1 : Int32))) fun σ3 =>
      vp_in x1 4 ∧ bk_lt (α := bk_S) (bk_u σ3 53 (Int32.toNatClampNeg x1) x2) fun σ4 =>
      vp_in x1 4 ∧ bk_lt (α := bk_S) (bk_u σ4 54 (Int32.toNatClampNeg x1) x3) fun σ5 =>
      bk_lt (α := Int32) (0 : Int32) fun v6 =>
      bk_loop (α := Int32 × bk_S) (fun K7 a8 =>
        ((60 : Int32) ≤ a8.1 → post x3 a8.2) ∧ (¬ (60 : Int32) ≤ a8.1 → (vp_in (((60 : Int32) * x1) + a8.1) 240 ∧ bk_lt (α := bk_S) (bk_u a8.2 55 (Int32.toNatClampNeg (((60 : Int32) * x1) + a8.1)) (0 : Int32)) fun σ9 =>
        bk_lt (α := Int32) (a8.1 + (1 : Int32)) fun v10 =>
        K7 (v10, σ9)))) (v6, σ5))) ∧ (¬ 0 ≤ x3 → (w_X9_meets (5 : Int32) σ (fun r11 σ12 =>
        post r11 σ12))))) ∧ (¬ x3 ≤ (60 : Int32) → post (-2 : Int32) σ)))))))
set_option maxRecDepth 20000 in
theorem m_X9_sheet (w : bk_W) {x1 : Int32} {x2 : Int32} {x3 : Int32} {σ : bk_S} {post : Int32 → bk_S → Prop} : w_X9_sheet x1 x2 x3 σ post → bk_Mi lyM w yX9_sheet cX9_sheet 5 .int 2 42 [.ref (bk_r w 0), .int x1, .int x2, .int x3] σ post := by
  intro h0
  refine bk_mi (by decide) (Nat.le_of_ble_eq_true rfl) (fun X hX hret => ?_)
  revert h0
  unfold w_X9_sheet
  show _ → bk_At lyM w X 0 [(0, .ref (bk_r w 0)), (1, .int x1), (2, .int x2), (3, .int x3)] [] σ
  refine bk_iload_n hX 1 dX9_sheet_0 rfl ?_
  refine bk_callS_i hX [.int x1] [] yk_X9_isSheet ys_X9_isSheet lk_X9_163 rfl rfl (Nat.le_of_ble_eq_true rfl) ⟨Nat.le_of_ble_eq_true rfl, Nat.le_of_ble_eq_true rfl⟩ dX9_sheet_1 (m_X9_isSheet w) (bk_pu (fun r1 => ?_))
  refine bk_if_eq hX 22 dX9_sheet_4 rfl ?_ ?_
  · refine bk_bipush hX bk_cb_m2 dX9_sheet_22 ?_
    exact fun z => hret _ _ _ _ dX9_sheet_24 rfl z
  · refine bk_iload_n hX 2 dX9_sheet_7 rfl ?_
    refine bk_iconst hX bk_ci_0 dX9_sheet_8 ?_
    refine bk_iconst hX bk_ci_2 dX9_sheet_9 ?_
    refine bk_callS_i hX [.int x2, .int (0 : Int32), .int (2 : Int32)] [] yk_X9_in ys_X9_in lk_X9_109 rfl rfl (Nat.le_of_ble_eq_true rfl) ⟨Nat.le_of_ble_eq_true rfl, Nat.le_of_ble_eq_true rfl⟩ dX9_sheet_10 (m_X9_in w) (bk_pu (fun r2 => ?_))
    refine bk_if_eq hX 22 dX9_sheet_13 rfl ?_ ?_
    · refine bk_bipush hX bk_cb_m2 dX9_sheet_22 ?_
      exact fun z => hret _ _ _ _ dX9_sheet_24 rfl z
    · refine bk_iload_n hX 3 dX9_sheet_16 rfl ?_
      refine bk_bipush hX bk_cb_60 dX9_sheet_17 ?_
      refine bk_icmp_le hX 25 dX9_sheet_19 rfl ?_ ?_
      · refine bk_iload_n hX 3 dX9_sheet_25 rfl ?_
        refine bk_if_ge hX 35 dX9_sheet_26 rfl ?_ ?_
        · refine bk_aload_n hX 0 dX9_sheet_35 rfl ?_
          refine bk_getr hX km_o rfl fl_X9_91 dX9_sheet_36 ?_
          refine bk_iload_n hX 1 dX9_sheet_39 rfl ?_
          refine bk_iconst hX bk_ci_1 dX9_sheet_40 ?_
          refine bk_bastore hX km_52 dX9_sheet_41 (fun σ3 => ?_)
          refine bk_aload_n hX 0 dX9_sheet_42 rfl ?_
          refine bk_getr hX km_o rfl fl_X9_95 dX9_sheet_43 ?_
          refine bk_iload_n hX 1 dX9_sheet_46 rfl ?_
          refine bk_iload_n hX 2 dX9_sheet_47 rfl ?_
          refine bk_iastore hX km_53 dX9_sheet_48 (fun σ4 => ?_)
          refine bk_aload_n hX 0 dX9_sheet_49 rfl ?_
          refine bk_getr hX km_o rfl fl_X9_98 dX9_sheet_50 ?_
          refine bk_iload_n hX 1 dX9_sheet_53 rfl ?_
          refine bk_iload_n hX 3 dX9_sheet_54 rfl ?_
          refine bk_iastore hX km_54 dX9_sheet_55 (fun σ5 => ?_)
          refine bk_iconst hX bk_ci_0 dX9_sheet_56 ?_
          refine bk_istore hX (fun v6 => [(4, .int v6), (0, .ref (bk_r w 0)), (1, .int x1), (2, .int x2), (3, .int x3)]) dX9_sheet_57 (Nat.le_of_ble_eq_true rfl) (fun _ => rfl) (fun v6 => ?_)
          refine bk_pick [0, 1, 2, 3, 4] rfl (bk_r_loop (α := Int32 × bk_S) (J := fun a => bk_At lyM w X 59 [(4, .int a.1), (0, .ref (bk_r w 0)), (1, .int x1), (2, .int x2), (3, .int x3)] [] a.2) (v6, σ5) (fun K7 hK7 a8 => ?_))
          refine bk_iload hX 0 dX9_sheet_59 rfl ?_
          refine bk_bipush hX bk_cb_60 dX9_sheet_61 ?_
          refine bk_icmp_ge hX 85 dX9_sheet_63 rfl ?_ ?_
          · refine bk_iload_n hX 4 dX9_sheet_85 rfl ?_
            exact fun z => hret _ _ _ _ dX9_sheet_86 rfl z
          · refine bk_aload_n hX 1 dX9_sheet_66 rfl ?_
            refine bk_getr hX km_o rfl fl_X9_101 dX9_sheet_67 ?_
            refine bk_bipush hX bk_cb_60 dX9_sheet_70 ?_
            refine bk_iload_n hX 2 dX9_sheet_72 rfl ?_
            refine bk_imul hX dX9_sheet_73 ?_
            refine bk_iload hX 0 dX9_sheet_74 rfl ?_
            refine bk_iadd hX dX9_sheet_76 ?_
            refine bk_iconst hX bk_ci_0 dX9_sheet_77 ?_
            refine bk_iastore hX km_55 dX9_sheet_78 (fun σ9 => ?_)
            refine bk_iinc hX 0 (fun v10 => [(4, .int v10), (0, .ref (bk_r w 0)), (1, .int x1), (2, .int x2), (3, .int x3)]) dX9_sheet_79 rfl bk_ci_1 (Nat.le_of_ble_eq_true rfl) (fun _ => rfl) (fun v10 => ?_)
            refine bk_goto hX 59 dX9_sheet_82 rfl ?_
            exact bk_pick [0, 1, 2, 3, 4] rfl (hK7 (v10, σ9))
        · refine bk_aload_n hX 0 dX9_sheet_29 rfl ?_
          refine bk_iconst hX bk_ci_5 dX9_sheet_30 ?_
          refine bk_callV_i hX [.int (5 : Int32)] [] yk_X9_meets yv_X9_meets lk_X9_166 rfl rfl km_o rfl rfl (Nat.le_of_ble_eq_true rfl) ⟨Nat.le_of_ble_eq_true rfl, Nat.le_of_ble_eq_true rfl⟩ dX9_sheet_31 (m_X9_meets w) (fun r11 σ12 => ?_)
          exact fun z => hret _ _ _ _ dX9_sheet_34 rfl z
      · refine bk_bipush hX bk_cb_m2 dX9_sheet_22 ?_
        exact fun z => hret _ _ _ _ dX9_sheet_24 rfl z

def w_X9_lose (x1 : Int32) (σ : bk_S) (post : Int32 → bk_S → Prop) : Prop :=
  w_X9_isSheet x1 (fun r1 =>
    (¬ r1 = 0 → (vp_in x1 4 ∧ (¬ (σ 52 (Int32.toNatClampNeg x1)) = 0 → (vp_in x1 4 ∧ bk_lt (α := bk_S) (bk_u σ 52 (Int32.toNatClampNeg x1) (vp_nar .boolean (0 : Int32))) fun σ2 =>
    vp_in x1 4 ∧ post (σ2 54 (Int32.toNatClampNeg x1)) σ2)) ∧ ((σ 52 (Int32.toNatClampNeg x1)) = 0 → (w_X9_meets (1 : Int32) σ (fun r3 σ4 =>
      post r3 σ4))))) ∧ (r1 = 0 → post (-2 : Int32) σ))
set_option maxRecDepth 20000 in
theorem m_X9_lose (w : bk_W) {x1 : Int32} {σ : bk_S} {post : Int32 → bk_S → Prop} : w_X9_lose x1 σ post → bk_Mi lyM w yX9_lose cX9_lose 2 .int 2 42 [.ref (bk_r w 0), .int x1] σ post := by
  intro h0
  refine bk_mi (by decide) (Nat.le_of_ble_eq_true rfl) (fun X hX hret => ?_)
  revert h0
  unfold w_X9_lose
  show _ → bk_At lyM w X 0 [(0, .ref (bk_r w 0)), (1, .int x1)] [] σ
  refine bk_iload_n hX 1 dX9_lose_0 rfl ?_
  refine bk_callS_i hX [.int x1] [] yk_X9_isSheet ys_X9_isSheet lk_X9_163 rfl rfl (Nat.le_of_ble_eq_true rfl) ⟨Nat.le_of_ble_eq_true rfl, Nat.le_of_ble_eq_true rfl⟩ dX9_lose_1 (m_X9_isSheet w) (bk_pu (fun r1 => ?_))
  refine bk_if_ne hX 10 dX9_lose_4 rfl ?_ ?_
  · refine bk_aload_n hX 0 dX9_lose_10 rfl ?_
    refine bk_getr hX km_o rfl fl_X9_91 dX9_lose_11 ?_
    refine bk_iload_n hX 1 dX9_lose_14 rfl ?_
    refine bk_baload hX km_52 dX9_lose_15 ?_
    refine bk_if_ne hX 25 dX9_lose_16 rfl ?_ ?_
    · refine bk_aload_n hX 0 dX9_lose_25 rfl ?_
      refine bk_getr hX km_o rfl fl_X9_91 dX9_lose_26 ?_
      refine bk_iload_n hX 1 dX9_lose_29 rfl ?_
      refine bk_iconst hX bk_ci_0 dX9_lose_30 ?_
      refine bk_bastore hX km_52 dX9_lose_31 (fun σ2 => ?_)
      refine bk_aload_n hX 0 dX9_lose_32 rfl ?_
      refine bk_getr hX km_o rfl fl_X9_98 dX9_lose_33 ?_
      refine bk_iload_n hX 1 dX9_lose_36 rfl ?_
      refine bk_iaload hX km_54 dX9_lose_37 ?_
      exact fun z => hret _ _ _ _ dX9_lose_38 rfl z
    · refine bk_aload_n hX 0 dX9_lose_19 rfl ?_
      refine bk_iconst hX bk_ci_1 dX9_lose_20 ?_
      refine bk_callV_i hX [.int (1 : Int32)] [] yk_X9_meets yv_X9_meets lk_X9_166 rfl rfl km_o rfl rfl (Nat.le_of_ble_eq_true rfl) ⟨Nat.le_of_ble_eq_true rfl, Nat.le_of_ble_eq_true rfl⟩ dX9_lose_21 (m_X9_meets w) (fun r3 σ4 => ?_)
      exact fun z => hret _ _ _ _ dX9_lose_24 rfl z
  · refine bk_bipush hX bk_cb_m2 dX9_lose_7 ?_
    exact fun z => hret _ _ _ _ dX9_lose_9 rfl z

def w_X9_lacks (x1 : Int32) (x2 : Int32) (x3 : Int32) (σ : bk_S) (post : Int32 → Prop) : Prop :=
  vp_in x1 4 ∧ (¬ (σ 52 (Int32.toNatClampNeg x1)) = 0 → (vp_in x1 4 ∧ ((σ 53 (Int32.toNatClampNeg x1)) = x2 → (vp_in x1 4 ∧ w_X9_in x3 (0 : Int32) ((σ 54 (Int32.toNatClampNeg x1)) - (1 : Int32)) (fun r1 =>
    (r1 = 0 → post (2 : Int32)) ∧ (¬ r1 = 0 → post (0 : Int32))))) ∧ (¬ (σ 53 (Int32.toNatClampNeg x1)) = x2 → post (3 : Int32)))) ∧ ((σ 52 (Int32.toNatClampNeg x1)) = 0 → post (1 : Int32))
set_option maxRecDepth 20000 in
theorem m_X9_lacks (w : bk_W) {x1 : Int32} {x2 : Int32} {x3 : Int32} {σ : bk_S} {post : Int32 → Prop} : w_X9_lacks x1 x2 x3 σ post → bk_Mi lyM w yX9_lacks cX9_lacks 4 .int 1 22 [.ref (bk_r w 0), .int x1, .int x2, .int x3] σ (fun r σ1 => post r ∧ σ1 = σ) := by
  intro h0
  refine bk_mi (by decide) (Nat.le_of_ble_eq_true rfl) (fun X hX hret => ?_)
  revert h0
  unfold w_X9_lacks
  show _ → bk_At lyM w X 0 [(0, .ref (bk_r w 0)), (1, .int x1), (2, .int x2), (3, .int x3)] [] σ
  refine bk_aload_n hX 0 dX9_lacks_0 rfl ?_
  refine bk_getr hX km_o rfl fl_X9_91 dX9_lacks_1 ?_
  refine bk_iload_n hX 1 dX9_lacks_4 rfl ?_
  refine bk_baload hX km_52 dX9_lacks_5 ?_
  refine bk_if_ne hX 13 dX9_lacks_6 rfl ?_ ?_
  · refine bk_aload_n hX 0 dX9_lacks_13 rfl ?_
    refine bk_getr hX km_o rfl fl_X9_95 dX9_lacks_14 ?_
    refine bk_iload_n hX 1 dX9_lacks_17 rfl ?_
    refine bk_iaload hX km_53 dX9_lacks_18 ?_
    refine bk_iload_n hX 2 dX9_lacks_19 rfl ?_
    refine bk_icmp_eq hX 27 dX9_lacks_20 rfl ?_ ?_
    · refine bk_iload_n hX 3 dX9_lacks_27 rfl ?_
      refine bk_iconst hX bk_ci_0 dX9_lacks_28 ?_
      refine bk_aload_n hX 0 dX9_lacks_29 rfl ?_
      refine bk_getr hX km_o rfl fl_X9_98 dX9_lacks_30 ?_
      refine bk_iload_n hX 1 dX9_lacks_33 rfl ?_
      refine bk_iaload hX km_54 dX9_lacks_34 ?_
      refine bk_iconst hX bk_ci_1 dX9_lacks_35 ?_
      refine bk_isub hX dX9_lacks_36 ?_
      refine bk_callS_i hX [.int x3, .int (0 : Int32), .int ((σ 54 (Int32.toNatClampNeg x1)) - (1 : Int32))] [] yk_X9_in ys_X9_in lk_X9_109 rfl rfl (Nat.le_of_ble_eq_true rfl) ⟨Nat.le_of_ble_eq_true rfl, Nat.le_of_ble_eq_true rfl⟩ dX9_lacks_37 (m_X9_in w) (bk_pu (fun r1 => ?_))
      refine bk_if_eq hX 47 dX9_lacks_40 rfl ?_ ?_
      · refine bk_iconst hX bk_ci_2 dX9_lacks_47 ?_
        exact fun z => hret _ _ _ _ dX9_lacks_48 rfl ⟨z, rfl⟩
      · refine bk_iconst hX bk_ci_0 dX9_lacks_43 ?_
        refine bk_goto hX 48 dX9_lacks_44 rfl ?_
        exact fun z => hret _ _ _ _ dX9_lacks_48 rfl ⟨z, rfl⟩
    · refine bk_iconst hX bk_ci_3 dX9_lacks_23 ?_
      refine bk_goto hX 48 dX9_lacks_24 rfl ?_
      exact fun z => hret _ _ _ _ dX9_lacks_48 rfl ⟨z, rfl⟩
  · refine bk_iconst hX bk_ci_1 dX9_lacks_9 ?_
    refine bk_goto hX 48 dX9_lacks_10 rfl ?_
    exact fun z => hret _ _ _ _ dX9_lacks_48 rfl ⟨z, rfl⟩

def w_X9_keep (x1 : Int32) (x2 : Int32) (x3 : Int32) (σ : bk_S) (post : bk_S → Prop) : Prop :=
  vp_in x1 4 ∧ bk_jn (α := Int32) (fun a2 =>
    vp_in (((60 : Int32) * x1) + x2) 240 ∧ bk_lt (α := bk_S) (bk_u σ 55 (Int32.toNatClampNeg (((60 : Int32) * x1) + x2)) a2) fun σ3 =>
    post σ3) (fun K1 =>
    (¬ (σ 53 (Int32.toNatClampNeg x1)) = 0 → (vp_in x1 4 ∧ (¬ (σ 53 (Int32.toNatClampNeg x1)) = (1 : Int32) → K1 x3) ∧ ((σ 53 (Int32.toNatClampNeg x1)) = (1 : Int32) → K1 ((Int32.toInt16 x3).toInt32)))) ∧ ((σ 53 (Int32.toNatClampNeg x1)) = 0 → K1 ((Int32.toInt8 x3).toInt32)))
set_option maxRecDepth 20000 in
theorem m_X9_keep (w : bk_W) {x1 : Int32} {x2 : Int32} {x3 : Int32} {σ : bk_S} {post : bk_S → Prop} : w_X9_keep x1 x2 x3 σ post → bk_Mv lyM w yX9_keep cX9_keep 4 0 0 [.ref (bk_r w 0), .int x1, .int x2, .int x3] σ post := by
  intro h0
  refine bk_mv (by decide) (Nat.le_of_ble_eq_true rfl) (fun X hX hret => ?_)
  revert h0
  unfold w_X9_keep
  show _ → bk_At lyM w X 0 [(0, .ref (bk_r w 0)), (1, .int x1), (2, .int x2), (3, .int x3)] [] σ
  refine bk_aload_n hX 0 dX9_keep_0 rfl ?_
  refine bk_getr hX km_o rfl fl_X9_101 dX9_keep_1 ?_
  refine bk_bipush hX bk_cb_60 dX9_keep_4 ?_
  refine bk_iload_n hX 1 dX9_keep_6 rfl ?_
  refine bk_imul hX dX9_keep_7 ?_
  refine bk_iload_n hX 2 dX9_keep_8 rfl ?_
  refine bk_iadd hX dX9_keep_9 ?_
  refine bk_aload_n hX 0 dX9_keep_10 rfl ?_
  refine bk_getr hX km_o rfl fl_X9_95 dX9_keep_11 ?_
  refine bk_iload_n hX 1 dX9_keep_14 rfl ?_
  refine bk_iaload hX km_53 dX9_keep_15 ?_
  refine bk_r_jn (α := Int32) (J := fun a => bk_At lyM w X 40 [(0, .ref (bk_r w 0)), (1, .int x1), (2, .int x2), (3, .int x3)] [.int a, .int (((60 : Int32) * x1) + x2), .ref (bk_r w 55)] σ) (fun a2 => ?_) (fun K1 hK1 => ?_)
  · refine bk_iastore hX km_55 dX9_keep_40 (fun σ3 => ?_)
    exact fun z => hret _ _ _ dX9_keep_41 z
  · refine bk_if_ne hX 24 dX9_keep_16 rfl ?_ ?_
    · refine bk_aload_n hX 0 dX9_keep_24 rfl ?_
      refine bk_getr hX km_o rfl fl_X9_95 dX9_keep_25 ?_
      refine bk_iload_n hX 1 dX9_keep_28 rfl ?_
      refine bk_iaload hX km_53 dX9_keep_29 ?_
      refine bk_iconst hX bk_ci_1 dX9_keep_30 ?_
      refine bk_icmp_ne hX 39 dX9_keep_31 rfl ?_ ?_
      · refine bk_iload_n hX 3 dX9_keep_39 rfl ?_
        exact bk_pick [0, 1, 2, 3] rfl (hK1 x3)
      · refine bk_iload_n hX 3 dX9_keep_34 rfl ?_
        refine bk_i2s hX dX9_keep_35 ?_
        refine bk_goto hX 40 dX9_keep_36 rfl ?_
        exact bk_pick [0, 1, 2, 3] rfl (hK1 ((Int32.toInt16 x3).toInt32))
    · refine bk_iload_n hX 3 dX9_keep_19 rfl ?_
      refine bk_i2b hX dX9_keep_20 ?_
      refine bk_goto hX 40 dX9_keep_21 rfl ?_
      exact bk_pick [0, 1, 2, 3] rfl (hK1 ((Int32.toInt8 x3).toInt32))

def w_X9_put (x1 : Int32) (x2 : Int32) (x3 : Int32) (x4 : Int32) (σ : bk_S) (post : Int32 → bk_S → Prop) : Prop :=
  w_X9_isSheet x1 (fun r1 =>
    (r1 = 0 → post (-2 : Int32) σ) ∧ (¬ r1 = 0 → (w_X9_in x2 (0 : Int32) (2 : Int32) (fun r2 =>
      (¬ r2 = 0 → (w_X9_lacks x1 x2 x3 σ (fun r3 =>
        bk_lt (α := Int32) r3 fun v4 =>
        (v4 ≤ 0 → (w_X9_keep x1 x3 x4 σ (fun σ5 =>
          post (1 : Int32) σ5))) ∧ (¬ v4 ≤ 0 → (w_X9_meets v4 σ (fun r6 σ7 =>
          post r6 σ7)))))) ∧ (r2 = 0 → post (-2 : Int32) σ)))))
set_option maxRecDepth 20000 in
theorem m_X9_put (w : bk_W) {x1 : Int32} {x2 : Int32} {x3 : Int32} {x4 : Int32} {σ : bk_S} {post : Int32 → bk_S → Prop} : w_X9_put x1 x2 x3 x4 σ post → bk_Mi lyM w yX9_put cX9_put 6 .int 2 45 [.ref (bk_r w 0), .int x1, .int x2, .int x3, .int x4] σ post := by
  intro h0
  refine bk_mi (by decide) (Nat.le_of_ble_eq_true rfl) (fun X hX hret => ?_)
  revert h0
  unfold w_X9_put
  show _ → bk_At lyM w X 0 [(0, .ref (bk_r w 0)), (1, .int x1), (2, .int x2), (3, .int x3), (4, .int x4)] [] σ
  refine bk_iload_n hX 1 dX9_put_0 rfl ?_
  refine bk_callS_i hX [.int x1] [] yk_X9_isSheet ys_X9_isSheet lk_X9_163 rfl rfl (Nat.le_of_ble_eq_true rfl) ⟨Nat.le_of_ble_eq_true rfl, Nat.le_of_ble_eq_true rfl⟩ dX9_put_1 (m_X9_isSheet w) (bk_pu (fun r1 => ?_))
  refine bk_if_eq hX 16 dX9_put_4 rfl ?_ ?_
  · refine bk_bipush hX bk_cb_m2 dX9_put_16 ?_
    exact fun z => hret _ _ _ _ dX9_put_18 rfl z
  · refine bk_iload_n hX 2 dX9_put_7 rfl ?_
    refine bk_iconst hX bk_ci_0 dX9_put_8 ?_
    refine bk_iconst hX bk_ci_2 dX9_put_9 ?_
    refine bk_callS_i hX [.int x2, .int (0 : Int32), .int (2 : Int32)] [] yk_X9_in ys_X9_in lk_X9_109 rfl rfl (Nat.le_of_ble_eq_true rfl) ⟨Nat.le_of_ble_eq_true rfl, Nat.le_of_ble_eq_true rfl⟩ dX9_put_10 (m_X9_in w) (bk_pu (fun r2 => ?_))
    refine bk_if_ne hX 19 dX9_put_13 rfl ?_ ?_
    · refine bk_aload_n hX 0 dX9_put_19 rfl ?_
      refine bk_iload_n hX 1 dX9_put_20 rfl ?_
      refine bk_iload_n hX 2 dX9_put_21 rfl ?_
      refine bk_iload_n hX 3 dX9_put_22 rfl ?_
      refine bk_callV_i hX [.int x1, .int x2, .int x3] [] yk_X9_lacks yv_X9_lacks lk_X9_377 rfl rfl km_o rfl rfl (Nat.le_of_ble_eq_true rfl) ⟨Nat.le_of_ble_eq_true rfl, Nat.le_of_ble_eq_true rfl⟩ dX9_put_23 (m_X9_lacks w) (bk_pu (fun r3 => ?_))
      refine bk_istore hX (fun v4 => [(5, .int v4), (0, .ref (bk_r w 0)), (1, .int x1), (2, .int x2), (3, .int x3), (4, .int x4)]) dX9_put_26 (Nat.le_of_ble_eq_true rfl) (fun _ => rfl) (fun v4 => ?_)
      refine bk_iload hX 0 dX9_put_28 rfl ?_
      refine bk_if_le hX 40 dX9_put_30 rfl ?_ ?_
      · refine bk_aload_n hX 1 dX9_put_40 rfl ?_
        refine bk_iload_n hX 2 dX9_put_41 rfl ?_
        refine bk_iload_n hX 4 dX9_put_42 rfl ?_
        refine bk_iload hX 5 dX9_put_43 rfl ?_
        refine bk_callV_v hX [.int x1, .int x3, .int x4] [] yk_X9_keep yv_X9_keep lk_X9_380 rfl rfl km_o rfl rfl (Nat.le_of_ble_eq_true rfl) ⟨Nat.le_of_ble_eq_true rfl, Nat.le_of_ble_eq_true rfl⟩ dX9_put_45 (m_X9_keep w) (fun σ5 => ?_)
        refine bk_iconst hX bk_ci_1 dX9_put_48 ?_
        exact fun z => hret _ _ _ _ dX9_put_49 rfl z
      · refine bk_aload_n hX 1 dX9_put_33 rfl ?_
        refine bk_iload hX 0 dX9_put_34 rfl ?_
        refine bk_callV_i hX [.int v4] [] yk_X9_meets yv_X9_meets lk_X9_166 rfl rfl km_o rfl rfl (Nat.le_of_ble_eq_true rfl) ⟨Nat.le_of_ble_eq_true rfl, Nat.le_of_ble_eq_true rfl⟩ dX9_put_36 (m_X9_meets w) (fun r6 σ7 => ?_)
        exact fun z => hret _ _ _ _ dX9_put_39 rfl z
    · refine bk_bipush hX bk_cb_m2 dX9_put_16 ?_
      exact fun z => hret _ _ _ _ dX9_put_18 rfl z

def w_X9_get (x1 : Int32) (x2 : Int32) (x3 : Int32) (σ : bk_S) (post : Int32 → bk_S → Prop) : Prop :=
  w_X9_isSheet x1 (fun r1 =>
    (r1 = 0 → post (-2147483648 : Int32) σ) ∧ (¬ r1 = 0 → (w_X9_in x2 (0 : Int32) (2 : Int32) (fun r2 =>
      (¬ r2 = 0 → (w_X9_lacks x1 x2 x3 σ (fun r3 =>
        bk_lt (α := Int32) r3 fun v4 =>
        (v4 ≤ 0 → (vp_in (((60 : Int32) * x1) + x3) 240 ∧ post (σ 55 (Int32.toNatClampNeg (((60 : Int32) * x1) + x3))) σ)) ∧ (¬ v4 ≤ 0 → (bk_lt (α := bk_S) (bk_u σ 0 56 v4) fun σ5 =>
        post (-2147483648 : Int32) σ5))))) ∧ (r2 = 0 → post (-2147483648 : Int32) σ)))))
set_option maxRecDepth 20000 in
theorem m_X9_get (w : bk_W) {x1 : Int32} {x2 : Int32} {x3 : Int32} {σ : bk_S} {post : Int32 → bk_S → Prop} : w_X9_get x1 x2 x3 σ post → bk_Mi lyM w yX9_get cX9_get 5 .int 2 45 [.ref (bk_r w 0), .int x1, .int x2, .int x3] σ post := by
  intro h0
  refine bk_mi (by decide) (Nat.le_of_ble_eq_true rfl) (fun X hX hret => ?_)
  revert h0
  unfold w_X9_get
  show _ → bk_At lyM w X 0 [(0, .ref (bk_r w 0)), (1, .int x1), (2, .int x2), (3, .int x3)] [] σ
  refine bk_iload_n hX 1 dX9_get_0 rfl ?_
  refine bk_callS_i hX [.int x1] [] yk_X9_isSheet ys_X9_isSheet lk_X9_163 rfl rfl (Nat.le_of_ble_eq_true rfl) ⟨Nat.le_of_ble_eq_true rfl, Nat.le_of_ble_eq_true rfl⟩ dX9_get_1 (m_X9_isSheet w) (bk_pu (fun r1 => ?_))
  refine bk_if_eq hX 16 dX9_get_4 rfl ?_ ?_
  · refine bk_ldcw hX kn_X9_384 dX9_get_16 ?_
    exact fun z => hret _ _ _ _ dX9_get_19 rfl z
  · refine bk_iload_n hX 2 dX9_get_7 rfl ?_
    refine bk_iconst hX bk_ci_0 dX9_get_8 ?_
    refine bk_iconst hX bk_ci_2 dX9_get_9 ?_
    refine bk_callS_i hX [.int x2, .int (0 : Int32), .int (2 : Int32)] [] yk_X9_in ys_X9_in lk_X9_109 rfl rfl (Nat.le_of_ble_eq_true rfl) ⟨Nat.le_of_ble_eq_true rfl, Nat.le_of_ble_eq_true rfl⟩ dX9_get_10 (m_X9_in w) (bk_pu (fun r2 => ?_))
    refine bk_if_ne hX 20 dX9_get_13 rfl ?_ ?_
    · refine bk_aload_n hX 0 dX9_get_20 rfl ?_
      refine bk_iload_n hX 1 dX9_get_21 rfl ?_
      refine bk_iload_n hX 2 dX9_get_22 rfl ?_
      refine bk_iload_n hX 3 dX9_get_23 rfl ?_
      refine bk_callV_i hX [.int x1, .int x2, .int x3] [] yk_X9_lacks yv_X9_lacks lk_X9_377 rfl rfl km_o rfl rfl (Nat.le_of_ble_eq_true rfl) ⟨Nat.le_of_ble_eq_true rfl, Nat.le_of_ble_eq_true rfl⟩ dX9_get_24 (m_X9_lacks w) (bk_pu (fun r3 => ?_))
      refine bk_istore hX (fun v4 => [(4, .int v4), (0, .ref (bk_r w 0)), (1, .int x1), (2, .int x2), (3, .int x3)]) dX9_get_27 (Nat.le_of_ble_eq_true rfl) (fun _ => rfl) (fun v4 => ?_)
      refine bk_iload hX 0 dX9_get_29 rfl ?_
      refine bk_if_le hX 44 dX9_get_31 rfl ?_ ?_
      · refine bk_aload_n hX 1 dX9_get_44 rfl ?_
        refine bk_getr hX km_o rfl fl_X9_101 dX9_get_45 ?_
        refine bk_bipush hX bk_cb_60 dX9_get_48 ?_
        refine bk_iload_n hX 2 dX9_get_50 rfl ?_
        refine bk_imul hX dX9_get_51 ?_
        refine bk_iload_n hX 4 dX9_get_52 rfl ?_
        refine bk_iadd hX dX9_get_53 ?_
        refine bk_iaload hX km_55 dX9_get_54 ?_
        exact fun z => hret _ _ _ _ dX9_get_55 rfl z
      · refine bk_aload_n hX 1 dX9_get_34 rfl ?_
        refine bk_iload hX 0 dX9_get_35 rfl ?_
        refine bk_putI hX km_o rfl fp_X9_374 dX9_get_37 (fun σ5 => ?_)
        refine bk_ldcw hX kn_X9_384 dX9_get_40 ?_
        exact fun z => hret _ _ _ _ dX9_get_43 rfl z
    · refine bk_ldcw hX kn_X9_384 dX9_get_16 ?_
      exact fun z => hret _ _ _ _ dX9_get_19 rfl z

def w_X9_copy (x1 : Int32) (x2 : Int32) (x3 : Int32) (x4 : Int32) (x5 : Int32) (σ : bk_S) (post : Int32 → bk_S → Prop) : Prop :=
  w_X9_isSheet x1 (fun r1 =>
    (r1 = 0 → post (-2 : Int32) σ) ∧ (¬ r1 = 0 → (w_X9_isSheet x3 (fun r2 =>
      (¬ r2 = 0 → (vp_in x1 4 ∧ bk_jn (α := Unit) (fun a4 =>
        w_X9_meets (1 : Int32) σ (fun r23 σ24 =>
          post r23 σ24)) (fun K3 =>
        ((σ 52 (Int32.toNatClampNeg x1)) = 0 → K3 ()) ∧ (¬ (σ 52 (Int32.toNatClampNeg x1)) = 0 → (vp_in x3 4 ∧ (¬ (σ 52 (Int32.toNatClampNeg x3)) = 0 → (vp_in x1 4 ∧ vp_in x3 4 ∧ ((σ 53 (Int32.toNatClampNeg x1)) = (σ 53 (Int32.toNatClampNeg x3)) → (bk_jn (α := Unit) (fun a6 =>
          w_X9_meets (2 : Int32) σ (fun r19 σ20 =>
            post r19 σ20)) (fun K5 =>
          (x2 < 0 → K5 ()) ∧ (¬ x2 < 0 → ((x4 < 0 → K5 ()) ∧ (¬ x4 < 0 → ((x5 < 0 → K5 ()) ∧ (¬ x5 < 0 → (vp_in x1 4 ∧ (0 < (lg_cmp ((Int32.toInt64 x2) + (Int32.toInt64 x5)) (Int32.toInt64 (σ 54 (Int32.toNatClampNeg x1)))) → K5 ()) ∧ (¬ 0 < (lg_cmp ((Int32.toInt64 x2) + (Int32.toInt64 x5)) (Int32.toInt64 (σ 54 (Int32.toNatClampNeg x1)))) → (vp_in x3 4 ∧ ((lg_cmp ((Int32.toInt64 x4) + (Int32.toInt64 x5)) (Int32.toInt64 (σ 54 (Int32.toNatClampNeg x3)))) ≤ 0 → (bk_lt (α := Int32) (0 : Int32) fun v7 =>
          bk_jn (α := bk_S) (fun a9 =>
            bk_lt (α := Int32) (0 : Int32) fun v14 =>
            bk_loop (α := Int32 × bk_S) (fun K15 a16 =>
              (x5 ≤ a16.1 → post (1 : Int32) a16.2) ∧ (¬ x5 ≤ a16.1 → (vp_in a16.1 60 ∧ vp_in ((((60 : Int32) * x3) + x4) + a16.1) 240 ∧ bk_lt (α := bk_S) (bk_u a16.2 55 (Int32.toNatClampNeg ((((60 : Int32) * x3) + x4) + a16.1)) (a16.2 56 (Int32.toNatClampNeg a16.1))) fun σ17 =>
              bk_lt (α := Int32) (a16.1 + (1 : Int32)) fun v18 =>
              K15 (v18, σ17)))) (v14, a9)) (fun K8 =>
            bk_loop (α := Int32 × bk_S) (fun K10 a11 =>
              (x5 ≤ a11.1 → K8 a11.2) ∧ (¬ x5 ≤ a11.1 → (vp_in ((((60 : Int32) * x1) + x2) + a11.1) 240 ∧ vp_in a11.1 60 ∧ bk_lt (α := bk_S) (bk_u a11.2 56 (Int32.toNatClampNeg a11.1) (a11.2 55 (Int32.toNatClampNeg ((((60 : Int32) * x1) + x2) + a11.1)))) fun σ12 =>
              bk_lt (α := Int32) (a11.1 + (1 : Int32)) fun v13 =>
              K10 (v13, σ12)))) (v7, σ)))) ∧ (¬ (lg_cmp ((Int32.toInt64 x4) + (Int32.toInt64 x5)) (Int32.toInt64 (σ 54 (Int32.toNatClampNeg x3)))) ≤ 0 → K5 ())))))))))))) ∧ (¬ (σ 53 (Int32.toNatClampNeg x1)) = (σ 53 (Int32.toNatClampNeg x3)) → (w_X9_meets (4 : Int32) σ (fun r21 σ22 =>
          post r21 σ22))))) ∧ ((σ 52 (Int32.toNatClampNeg x3)) = 0 → K3 ())))))) ∧ (r2 = 0 → post (-2 : Int32) σ)))))
set_option maxRecDepth 20000 in
theorem m_X9_copy (w : bk_W) {x1 : Int32} {x2 : Int32} {x3 : Int32} {x4 : Int32} {x5 : Int32} {σ : bk_S} {post : Int32 → bk_S → Prop} : w_X9_copy x1 x2 x3 x4 x5 σ post → bk_Mi lyM w yX9_copy cX9_copy 7 .int 2 42 [.ref (bk_r w 0), .int x1, .int x2, .int x3, .int x4, .int x5] σ post := by
  intro h0
  refine bk_mi (by decide) (Nat.le_of_ble_eq_true rfl) (fun X hX hret => ?_)
  revert h0
  unfold w_X9_copy
  show _ → bk_At lyM w X 0 [(0, .ref (bk_r w 0)), (1, .int x1), (2, .int x2), (3, .int x3), (4, .int x4), (5, .int x5)] [] σ
  refine bk_iload_n hX 1 dX9_copy_0 rfl ?_
  refine bk_callS_i hX [.int x1] [] yk_X9_isSheet ys_X9_isSheet lk_X9_163 rfl rfl (Nat.le_of_ble_eq_true rfl) ⟨Nat.le_of_ble_eq_true rfl, Nat.le_of_ble_eq_true rfl⟩ dX9_copy_1 (m_X9_isSheet w) (bk_pu (fun r1 => ?_))
  refine bk_if_eq hX 14 dX9_copy_4 rfl ?_ ?_
  · refine bk_bipush hX bk_cb_m2 dX9_copy_14 ?_
    exact fun z => hret _ _ _ _ dX9_copy_16 rfl z
  · refine bk_iload_n hX 3 dX9_copy_7 rfl ?_
    refine bk_callS_i hX [.int x3] [] yk_X9_isSheet ys_X9_isSheet lk_X9_163 rfl rfl (Nat.le_of_ble_eq_true rfl) ⟨Nat.le_of_ble_eq_true rfl, Nat.le_of_ble_eq_true rfl⟩ dX9_copy_8 (m_X9_isSheet w) (bk_pu (fun r2 => ?_))
    refine bk_if_ne hX 17 dX9_copy_11 rfl ?_ ?_
    · refine bk_aload_n hX 0 dX9_copy_17 rfl ?_
      refine bk_getr hX km_o rfl fl_X9_91 dX9_copy_18 ?_
      refine bk_iload_n hX 1 dX9_copy_21 rfl ?_
      refine bk_baload hX km_52 dX9_copy_22 ?_
      refine bk_r_jn (α := Unit) (J := fun a => bk_At lyM w X 35 [(0, .ref (bk_r w 0)), (1, .int x1), (2, .int x2), (3, .int x3), (4, .int x4), (5, .int x5)] [] σ) (fun a4 => ?_) (fun K3 hK3 => ?_)
      · refine bk_aload_n hX 0 dX9_copy_35 rfl ?_
        refine bk_iconst hX bk_ci_1 dX9_copy_36 ?_
        refine bk_callV_i hX [.int (1 : Int32)] [] yk_X9_meets yv_X9_meets lk_X9_166 rfl rfl km_o rfl rfl (Nat.le_of_ble_eq_true rfl) ⟨Nat.le_of_ble_eq_true rfl, Nat.le_of_ble_eq_true rfl⟩ dX9_copy_37 (m_X9_meets w) (fun r23 σ24 => ?_)
        exact fun z => hret _ _ _ _ dX9_copy_40 rfl z
      · refine bk_if_eq hX 35 dX9_copy_23 rfl ?_ ?_
        · exact bk_pick [0, 1, 2, 3, 4, 5] rfl (hK3 ())
        · refine bk_aload_n hX 0 dX9_copy_26 rfl ?_
          refine bk_getr hX km_o rfl fl_X9_91 dX9_copy_27 ?_
          refine bk_iload_n hX 3 dX9_copy_30 rfl ?_
          refine bk_baload hX km_52 dX9_copy_31 ?_
          refine bk_if_ne hX 41 dX9_copy_32 rfl ?_ ?_
          · refine bk_aload_n hX 0 dX9_copy_41 rfl ?_
            refine bk_getr hX km_o rfl fl_X9_95 dX9_copy_42 ?_
            refine bk_iload_n hX 1 dX9_copy_45 rfl ?_
            refine bk_iaload hX km_53 dX9_copy_46 ?_
            refine bk_aload_n hX 0 dX9_copy_47 rfl ?_
            refine bk_getr hX km_o rfl fl_X9_95 dX9_copy_48 ?_
            refine bk_iload_n hX 3 dX9_copy_51 rfl ?_
            refine bk_iaload hX km_53 dX9_copy_52 ?_
            refine bk_icmp_eq hX 62 dX9_copy_53 rfl ?_ ?_
            · refine bk_iload_n hX 2 dX9_copy_62 rfl ?_
              refine bk_r_jn (α := Unit) (J := fun a => bk_At lyM w X 111 [(0, .ref (bk_r w 0)), (1, .int x1), (2, .int x2), (3, .int x3), (4, .int x4), (5, .int x5)] [] σ) (fun a6 => ?_) (fun K5 hK5 => ?_)
              · refine bk_aload_n hX 0 dX9_copy_111 rfl ?_
                refine bk_iconst hX bk_ci_2 dX9_copy_112 ?_
                refine bk_callV_i hX [.int (2 : Int32)] [] yk_X9_meets yv_X9_meets lk_X9_166 rfl rfl km_o rfl rfl (Nat.le_of_ble_eq_true rfl) ⟨Nat.le_of_ble_eq_true rfl, Nat.le_of_ble_eq_true rfl⟩ dX9_copy_113 (m_X9_meets w) (fun r19 σ20 => ?_)
                exact fun z => hret _ _ _ _ dX9_copy_116 rfl z
              · refine bk_if_lt hX 111 dX9_copy_63 rfl ?_ ?_
                · exact bk_pick [0, 1, 2, 3, 4, 5] rfl (hK5 ())
                · refine bk_iload hX 4 dX9_copy_66 rfl ?_
                  refine bk_if_lt hX 111 dX9_copy_68 rfl ?_ ?_
                  · exact bk_pick [0, 1, 2, 3, 4, 5] rfl (hK5 ())
                  · refine bk_iload hX 5 dX9_copy_71 rfl ?_
                    refine bk_if_lt hX 111 dX9_copy_73 rfl ?_ ?_
                    · exact bk_pick [0, 1, 2, 3, 4, 5] rfl (hK5 ())
                    · refine bk_iload_n hX 2 dX9_copy_76 rfl ?_
                      refine bk_i2l hX dX9_copy_77 ?_
                      refine bk_iload hX 5 dX9_copy_78 rfl ?_
                      refine bk_i2l hX dX9_copy_80 ?_
                      refine bk_ladd hX dX9_copy_81 ?_
                      refine bk_aload_n hX 0 dX9_copy_82 rfl ?_
                      refine bk_getr hX km_o rfl fl_X9_98 dX9_copy_83 ?_
                      refine bk_iload_n hX 1 dX9_copy_86 rfl ?_
                      refine bk_iaload hX km_54 dX9_copy_87 ?_
                      refine bk_i2l hX dX9_copy_88 ?_
                      refine bk_lcmp hX dX9_copy_89 ?_
                      refine bk_if_gt hX 111 dX9_copy_90 rfl ?_ ?_
                      · exact bk_pick [0, 1, 2, 3, 4, 5] rfl (hK5 ())
                      · refine bk_iload hX 4 dX9_copy_93 rfl ?_
                        refine bk_i2l hX dX9_copy_95 ?_
                        refine bk_iload hX 5 dX9_copy_96 rfl ?_
                        refine bk_i2l hX dX9_copy_98 ?_
                        refine bk_ladd hX dX9_copy_99 ?_
                        refine bk_aload_n hX 0 dX9_copy_100 rfl ?_
                        refine bk_getr hX km_o rfl fl_X9_98 dX9_copy_101 ?_
                        refine bk_iload_n hX 3 dX9_copy_104 rfl ?_
                        refine bk_iaload hX km_54 dX9_copy_105 ?_
                        refine bk_i2l hX dX9_copy_106 ?_
                        refine bk_lcmp hX dX9_copy_107 ?_
                        refine bk_if_le hX 117 dX9_copy_108 rfl ?_ ?_
                        · refine bk_iconst hX bk_ci_0 dX9_copy_117 ?_
                          refine bk_istore hX (fun v7 => [(6, .int v7), (0, .ref (bk_r w 0)), (1, .int x1), (2, .int x2), (3, .int x3), (4, .int x4), (5, .int x5)]) dX9_copy_118 (Nat.le_of_ble_eq_true rfl) (fun _ => rfl) (fun v7 => ?_)
                          refine bk_r_jn (α := bk_S) (J := fun a => bk_At lyM w X 154 [(0, .ref (bk_r w 0)), (1, .int x1), (2, .int x2), (3, .int x3), (4, .int x4), (5, .int x5)] [] a) (fun a9 => ?_) (fun K8 hK8 => ?_)
                          · refine bk_iconst hX bk_ci_0 dX9_copy_154 ?_
                            refine bk_istore hX (fun v14 => [(6, .int v14), (0, .ref (bk_r w 0)), (1, .int x1), (2, .int x2), (3, .int x3), (4, .int x4), (5, .int x5)]) dX9_copy_155 (Nat.le_of_ble_eq_true rfl) (fun _ => rfl) (fun v14 => ?_)
                            refine bk_pick [0, 1, 2, 3, 4, 5, 6] rfl (bk_r_loop (α := Int32 × bk_S) (J := fun a => bk_At lyM w X 157 [(6, .int a.1), (0, .ref (bk_r w 0)), (1, .int x1), (2, .int x2), (3, .int x3), (4, .int x4), (5, .int x5)] [] a.2) (v14, a9) (fun K15 hK15 a16 => ?_))
                            refine bk_iload hX 0 dX9_copy_157 rfl ?_
                            refine bk_iload hX 6 dX9_copy_159 rfl ?_
                            refine bk_icmp_ge hX 192 dX9_copy_161 rfl ?_ ?_
                            · refine bk_iconst hX bk_ci_1 dX9_copy_192 ?_
                              exact fun z => hret _ _ _ _ dX9_copy_193 rfl z
                            · refine bk_aload_n hX 1 dX9_copy_164 rfl ?_
                              refine bk_getr hX km_o rfl fl_X9_101 dX9_copy_165 ?_
                              refine bk_bipush hX bk_cb_60 dX9_copy_168 ?_
                              refine bk_iload_n hX 4 dX9_copy_170 rfl ?_
                              refine bk_imul hX dX9_copy_171 ?_
                              refine bk_iload hX 5 dX9_copy_172 rfl ?_
                              refine bk_iadd hX dX9_copy_174 ?_
                              refine bk_iload hX 0 dX9_copy_175 rfl ?_
                              refine bk_iadd hX dX9_copy_177 ?_
                              refine bk_aload_n hX 1 dX9_copy_178 rfl ?_
                              refine bk_getr hX km_o rfl fl_X9_104 dX9_copy_179 ?_
                              refine bk_iload hX 0 dX9_copy_182 rfl ?_
                              refine bk_iaload hX km_56 dX9_copy_184 ?_
                              refine bk_iastore hX km_55 dX9_copy_185 (fun σ17 => ?_)
                              refine bk_iinc hX 0 (fun v18 => [(6, .int v18), (0, .ref (bk_r w 0)), (1, .int x1), (2, .int x2), (3, .int x3), (4, .int x4), (5, .int x5)]) dX9_copy_186 rfl bk_ci_1 (Nat.le_of_ble_eq_true rfl) (fun _ => rfl) (fun v18 => ?_)
                              refine bk_goto hX 157 dX9_copy_189 rfl ?_
                              exact bk_pick [0, 1, 2, 3, 4, 5, 6] rfl (hK15 (v18, σ17))
                          · refine bk_pick [0, 1, 2, 3, 4, 5, 6] rfl (bk_r_loop (α := Int32 × bk_S) (J := fun a => bk_At lyM w X 120 [(6, .int a.1), (0, .ref (bk_r w 0)), (1, .int x1), (2, .int x2), (3, .int x3), (4, .int x4), (5, .int x5)] [] a.2) (v7, σ) (fun K10 hK10 a11 => ?_))
                            refine bk_iload hX 0 dX9_copy_120 rfl ?_
                            refine bk_iload hX 6 dX9_copy_122 rfl ?_
                            refine bk_icmp_ge hX 154 dX9_copy_124 rfl ?_ ?_
                            · exact bk_pick [1, 2, 3, 4, 5, 6] rfl (hK8 a11.2)
                            · refine bk_aload_n hX 1 dX9_copy_127 rfl ?_
                              refine bk_getr hX km_o rfl fl_X9_104 dX9_copy_128 ?_
                              refine bk_iload hX 0 dX9_copy_131 rfl ?_
                              refine bk_aload_n hX 1 dX9_copy_133 rfl ?_
                              refine bk_getr hX km_o rfl fl_X9_101 dX9_copy_134 ?_
                              refine bk_bipush hX bk_cb_60 dX9_copy_137 ?_
                              refine bk_iload_n hX 2 dX9_copy_139 rfl ?_
                              refine bk_imul hX dX9_copy_140 ?_
                              refine bk_iload_n hX 3 dX9_copy_141 rfl ?_
                              refine bk_iadd hX dX9_copy_142 ?_
                              refine bk_iload hX 0 dX9_copy_143 rfl ?_
                              refine bk_iadd hX dX9_copy_145 ?_
                              refine bk_iaload hX km_55 dX9_copy_146 ?_
                              refine bk_iastore hX km_56 dX9_copy_147 (fun σ12 => ?_)
                              refine bk_iinc hX 0 (fun v13 => [(6, .int v13), (0, .ref (bk_r w 0)), (1, .int x1), (2, .int x2), (3, .int x3), (4, .int x4), (5, .int x5)]) dX9_copy_148 rfl bk_ci_1 (Nat.le_of_ble_eq_true rfl) (fun _ => rfl) (fun v13 => ?_)
                              refine bk_goto hX 120 dX9_copy_151 rfl ?_
                              exact bk_pick [0, 1, 2, 3, 4, 5, 6] rfl (hK10 (v13, σ12))
                        · exact bk_pick [0, 1, 2, 3, 4, 5] rfl (hK5 ())
            · refine bk_aload_n hX 0 dX9_copy_56 rfl ?_
              refine bk_iconst hX bk_ci_4 dX9_copy_57 ?_
              refine bk_callV_i hX [.int (4 : Int32)] [] yk_X9_meets yv_X9_meets lk_X9_166 rfl rfl km_o rfl rfl (Nat.le_of_ble_eq_true rfl) ⟨Nat.le_of_ble_eq_true rfl, Nat.le_of_ble_eq_true rfl⟩ dX9_copy_58 (m_X9_meets w) (fun r21 σ22 => ?_)
              exact fun z => hret _ _ _ _ dX9_copy_61 rfl z
          · exact bk_pick [0, 1, 2, 3, 4, 5] rfl (hK3 ())
    · refine bk_bipush hX bk_cb_m2 dX9_copy_14 ?_
      exact fun z => hret _ _ _ _ dX9_copy_16 rfl z

def w_X9_write (x1 : Int32) (x2 : Int32) (σ : bk_S) (post : Int32 → bk_S → Prop) : Prop :=
  w_X9_isTwelve x1 (fun r1 =>
    (r1 = 0 → post (-2 : Int32) σ) ∧ (¬ r1 = 0 → (w_X9_isSheet x2 (fun r2 =>
      (¬ r2 = 0 → (vp_in x2 4 ∧ (¬ (σ 52 (Int32.toNatClampNeg x2)) = 0 → (w_X9_runsTold σ (fun σ3 =>
        bk_lt (α := Int32) (0 : Int32) fun v4 =>
        bk_loop (α := Int32 × bk_S) (fun K5 a6 =>
          vp_in x2 4 ∧ ((a6.2 54 (Int32.toNatClampNeg x2)) ≤ a6.1 → post a6.1 a6.2) ∧ (¬ (a6.2 54 (Int32.toNatClampNeg x2)) ≤ a6.1 → (((a6.2 0 2) ≤ a6.1 → post a6.1 a6.2) ∧ (¬ (a6.2 0 2) ≤ a6.1 → (vp_in (((12 : Int32) * x1) + a6.1) 144 ∧ w_X9_keep x2 a6.1 (a6.2 40 (Int32.toNatClampNeg (((12 : Int32) * x1) + a6.1))) a6.2 (fun σ7 =>
            bk_lt (α := Int32) (a6.1 + (1 : Int32)) fun v8 =>
            K5 (v8, σ7))))))) (v4, σ3)))) ∧ ((σ 52 (Int32.toNatClampNeg x2)) = 0 → (w_X9_meets (1 : Int32) σ (fun r9 σ10 =>
        post r9 σ10))))) ∧ (r2 = 0 → post (-2 : Int32) σ)))))
set_option maxRecDepth 20000 in
theorem m_X9_write (w : bk_W) {x1 : Int32} {x2 : Int32} {σ : bk_S} {post : Int32 → bk_S → Prop} : w_X9_write x1 x2 σ post → bk_Mi lyM w yX9_write cX9_write 4 .int 7 157 [.ref (bk_r w 0), .int x1, .int x2] σ post := by
  intro h0
  refine bk_mi (by decide) (Nat.le_of_ble_eq_true rfl) (fun X hX hret => ?_)
  revert h0
  unfold w_X9_write
  show _ → bk_At lyM w X 0 [(0, .ref (bk_r w 0)), (1, .int x1), (2, .int x2)] [] σ
  refine bk_iload_n hX 1 dX9_write_0 rfl ?_
  refine bk_callS_i hX [.int x1] [] yk_X9_isTwelve ys_X9_isTwelve lk_X9_157 rfl rfl (Nat.le_of_ble_eq_true rfl) ⟨Nat.le_of_ble_eq_true rfl, Nat.le_of_ble_eq_true rfl⟩ dX9_write_1 (m_X9_isTwelve w) (bk_pu (fun r1 => ?_))
  refine bk_if_eq hX 14 dX9_write_4 rfl ?_ ?_
  · refine bk_bipush hX bk_cb_m2 dX9_write_14 ?_
    exact fun z => hret _ _ _ _ dX9_write_16 rfl z
  · refine bk_iload_n hX 2 dX9_write_7 rfl ?_
    refine bk_callS_i hX [.int x2] [] yk_X9_isSheet ys_X9_isSheet lk_X9_163 rfl rfl (Nat.le_of_ble_eq_true rfl) ⟨Nat.le_of_ble_eq_true rfl, Nat.le_of_ble_eq_true rfl⟩ dX9_write_8 (m_X9_isSheet w) (bk_pu (fun r2 => ?_))
    refine bk_if_ne hX 17 dX9_write_11 rfl ?_ ?_
    · refine bk_aload_n hX 0 dX9_write_17 rfl ?_
      refine bk_getr hX km_o rfl fl_X9_91 dX9_write_18 ?_
      refine bk_iload_n hX 2 dX9_write_21 rfl ?_
      refine bk_baload hX km_52 dX9_write_22 ?_
      refine bk_if_ne hX 32 dX9_write_23 rfl ?_ ?_
      · refine bk_aload_n hX 0 dX9_write_32 rfl ?_
        refine bk_callV_v hX [] [] yk_X9_runsTold yv_X9_runsTold lk_X9_267 rfl rfl km_o rfl rfl (Nat.le_of_ble_eq_true rfl) ⟨Nat.le_of_ble_eq_true rfl, Nat.le_of_ble_eq_true rfl⟩ dX9_write_33 (m_X9_runsTold w) (fun σ3 => ?_)
        refine bk_iconst hX bk_ci_0 dX9_write_36 ?_
        refine bk_istore_n hX (fun v4 => [(3, .int v4), (0, .ref (bk_r w 0)), (1, .int x1), (2, .int x2)]) dX9_write_37 (Nat.le_of_ble_eq_true rfl) (fun _ => rfl) (fun v4 => ?_)
        refine bk_pick [0, 1, 2, 3] rfl (bk_r_loop (α := Int32 × bk_S) (J := fun a => bk_At lyM w X 38 [(3, .int a.1), (0, .ref (bk_r w 0)), (1, .int x1), (2, .int x2)] [] a.2) (v4, σ3) (fun K5 hK5 a6 => ?_))
        refine bk_iload_n hX 0 dX9_write_38 rfl ?_
        refine bk_aload_n hX 1 dX9_write_39 rfl ?_
        refine bk_getr hX km_o rfl fl_X9_98 dX9_write_40 ?_
        refine bk_iload_n hX 3 dX9_write_43 rfl ?_
        refine bk_iaload hX km_54 dX9_write_44 ?_
        refine bk_icmp_ge hX 79 dX9_write_45 rfl ?_ ?_
        · refine bk_iload_n hX 0 dX9_write_79 rfl ?_
          exact fun z => hret _ _ _ _ dX9_write_80 rfl z
        · refine bk_iload_n hX 0 dX9_write_48 rfl ?_
          refine bk_aload_n hX 1 dX9_write_49 rfl ?_
          refine bk_geti hX km_o rfl fl_X9_117 dX9_write_50 ?_
          refine bk_icmp_ge hX 79 dX9_write_53 rfl ?_ ?_
          · refine bk_iload_n hX 0 dX9_write_79 rfl ?_
            exact fun z => hret _ _ _ _ dX9_write_80 rfl z
          · refine bk_aload_n hX 1 dX9_write_56 rfl ?_
            refine bk_iload_n hX 3 dX9_write_57 rfl ?_
            refine bk_iload_n hX 0 dX9_write_58 rfl ?_
            refine bk_aload_n hX 1 dX9_write_59 rfl ?_
            refine bk_getr hX km_o rfl fl_X9_67 dX9_write_60 ?_
            refine bk_bipush hX bk_cb_12 dX9_write_63 ?_
            refine bk_iload_n hX 2 dX9_write_65 rfl ?_
            refine bk_imul hX dX9_write_66 ?_
            refine bk_iload_n hX 0 dX9_write_67 rfl ?_
            refine bk_iadd hX dX9_write_68 ?_
            refine bk_iaload hX km_40 dX9_write_69 ?_
            refine bk_callV_v hX [.int x2, .int a6.1, .int (a6.2 40 (Int32.toNatClampNeg (((12 : Int32) * x1) + a6.1)))] [] yk_X9_keep yv_X9_keep lk_X9_380 rfl rfl km_o rfl rfl (Nat.le_of_ble_eq_true rfl) ⟨Nat.le_of_ble_eq_true rfl, Nat.le_of_ble_eq_true rfl⟩ dX9_write_70 (m_X9_keep w) (fun σ7 => ?_)
            refine bk_iinc hX 0 (fun v8 => [(3, .int v8), (0, .ref (bk_r w 0)), (1, .int x1), (2, .int x2)]) dX9_write_73 rfl bk_ci_1 (Nat.le_of_ble_eq_true rfl) (fun _ => rfl) (fun v8 => ?_)
            refine bk_goto hX 38 dX9_write_76 rfl ?_
            exact bk_pick [0, 1, 2, 3] rfl (hK5 (v8, σ7))
      · refine bk_aload_n hX 0 dX9_write_26 rfl ?_
        refine bk_iconst hX bk_ci_1 dX9_write_27 ?_
        refine bk_callV_i hX [.int (1 : Int32)] [] yk_X9_meets yv_X9_meets lk_X9_166 rfl rfl km_o rfl rfl (Nat.le_of_ble_eq_true rfl) ⟨Nat.le_of_ble_eq_true rfl, Nat.le_of_ble_eq_true rfl⟩ dX9_write_28 (m_X9_meets w) (fun r9 σ10 => ?_)
        exact fun z => hret _ _ _ _ dX9_write_31 rfl z
    · refine bk_bipush hX bk_cb_m2 dX9_write_14 ?_
      exact fun z => hret _ _ _ _ dX9_write_16 rfl z

def w_X9_tellOf (x1 : Int32) (σ : bk_S) (post : Int32 → bk_S → Prop) : Prop :=
  w_X9_reads σ (fun σ1 =>
    (¬ x1 = 0 → post (σ1 0 4) σ1) ∧ (x1 = 0 → post (σ1 0 2) σ1))
set_option maxRecDepth 20000 in
theorem m_X9_tellOf (w : bk_W) {x1 : Int32} {σ : bk_S} {post : Int32 → bk_S → Prop} : w_X9_tellOf x1 σ post → bk_Mi lyM w yX9_tellOf cX9_tellOf 2 .int 5 115 [.ref (bk_r w 0), .int x1] σ post := by
  intro h0
  refine bk_mi (by decide) (Nat.le_of_ble_eq_true rfl) (fun X hX hret => ?_)
  revert h0
  unfold w_X9_tellOf
  show _ → bk_At lyM w X 0 [(0, .ref (bk_r w 0)), (1, .int x1)] [] σ
  refine bk_aload_n hX 0 dX9_tellOf_0 rfl ?_
  refine bk_callV_v hX [] [] yk_X9_reads yv_X9_reads lk_X9_142 rfl rfl km_o rfl rfl (Nat.le_of_ble_eq_true rfl) ⟨Nat.le_of_ble_eq_true rfl, Nat.le_of_ble_eq_true rfl⟩ dX9_tellOf_1 (m_X9_reads w) (fun σ1 => ?_)
  refine bk_iload_n hX 1 dX9_tellOf_4 rfl ?_
  refine bk_if_ne hX 15 dX9_tellOf_5 rfl ?_ ?_
  · refine bk_aload_n hX 0 dX9_tellOf_15 rfl ?_
    refine bk_geti hX km_o rfl fl_X9_125 dX9_tellOf_16 ?_
    exact fun z => hret _ _ _ _ dX9_tellOf_19 rfl z
  · refine bk_aload_n hX 0 dX9_tellOf_8 rfl ?_
    refine bk_geti hX km_o rfl fl_X9_117 dX9_tellOf_9 ?_
    refine bk_goto hX 19 dX9_tellOf_12 rfl ?_
    exact fun z => hret _ _ _ _ dX9_tellOf_19 rfl z

def w_X9_count (x1 : Int32) (σ : bk_S) (post : Int32 → bk_S → Prop) : Prop :=
  (x1 = (0 : Int32) → (w_X9_tellOf x1 σ (fun r3 σ4 =>
    post r3 σ4))) ∧ (¬ x1 = (0 : Int32) → ((x1 = (1 : Int32) → (w_X9_tellOf x1 σ (fun r7 σ8 =>
    post r7 σ8))) ∧ (¬ x1 = (1 : Int32) → ((x1 = (2 : Int32) → (vp_in (x1 - (2 : Int32)) 2 ∧ post (σ 1 (Int32.toNatClampNeg (x1 - (2 : Int32)))) σ)) ∧ (¬ x1 = (2 : Int32) → ((x1 = (3 : Int32) → (vp_in (x1 - (2 : Int32)) 2 ∧ post (σ 1 (Int32.toNatClampNeg (x1 - (2 : Int32)))) σ)) ∧ (¬ x1 = (3 : Int32) → ((x1 = (4 : Int32) → post (σ 0 8) σ) ∧ (¬ x1 = (4 : Int32) → ((x1 = (5 : Int32) → (w_X9_sumOf (0 : Int32) σ (fun r17 σ18 =>
    post r17 σ18))) ∧ (¬ x1 = (5 : Int32) → ((x1 = (6 : Int32) → (w_X9_sumOf (2 : Int32) σ (fun r21 σ22 =>
    post r21 σ22))) ∧ (¬ x1 = (6 : Int32) → ((x1 = (7 : Int32) → post (σ 0 46) σ) ∧ (¬ x1 = (7 : Int32) → ((x1 = (8 : Int32) → post (σ 0 56) σ) ∧ (¬ x1 = (8 : Int32) → post (-2 : Int32) σ)))))))))))))))))
set_option maxRecDepth 20000 in
theorem m_X9_count (w : bk_W) {x1 : Int32} {σ : bk_S} {post : Int32 → bk_S → Prop} : w_X9_count x1 σ post → bk_Mi lyM w yX9_count cX9_count 2 .int 8 178 [.ref (bk_r w 0), .int x1] σ post := by
  intro h0
  refine bk_mi (by decide) (Nat.le_of_ble_eq_true rfl) (fun X hX hret => ?_)
  revert h0
  unfold w_X9_count
  show _ → bk_At lyM w X 0 [(0, .ref (bk_r w 0)), (1, .int x1)] [] σ
  refine bk_iload_n hX 1 dX9_count_0 rfl ?_
  refine bk_case (fun he2 => ?_) (fun hn1 => ?_)
  · refine bk_swI hX 52 (0 : Int32) he2 dX9_count_1 (by decide +kernel) ?_
    refine bk_aload_n hX 0 dX9_count_52 rfl ?_
    refine bk_iload_n hX 1 dX9_count_53 rfl ?_
    refine bk_callV_i hX [.int x1] [] yk_X9_tellOf yv_X9_tellOf lk_X9_385 rfl rfl km_o rfl rfl (Nat.le_of_ble_eq_true rfl) ⟨Nat.le_of_ble_eq_true rfl, Nat.le_of_ble_eq_true rfl⟩ dX9_count_54 (m_X9_tellOf w) (fun r3 σ4 => ?_)
    exact fun z => hret _ _ _ _ dX9_count_57 rfl z
  · refine bk_case (fun he6 => ?_) (fun hn5 => ?_)
    · refine bk_swI hX 52 (1 : Int32) he6 dX9_count_1 (by decide +kernel) ?_
      refine bk_aload_n hX 0 dX9_count_52 rfl ?_
      refine bk_iload_n hX 1 dX9_count_53 rfl ?_
      refine bk_callV_i hX [.int x1] [] yk_X9_tellOf yv_X9_tellOf lk_X9_385 rfl rfl km_o rfl rfl (Nat.le_of_ble_eq_true rfl) ⟨Nat.le_of_ble_eq_true rfl, Nat.le_of_ble_eq_true rfl⟩ dX9_count_54 (m_X9_tellOf w) (fun r7 σ8 => ?_)
      exact fun z => hret _ _ _ _ dX9_count_57 rfl z
    · refine bk_case (fun he10 => ?_) (fun hn9 => ?_)
      · refine bk_swI hX 58 (2 : Int32) he10 dX9_count_1 (by decide +kernel) ?_
        refine bk_aload_n hX 0 dX9_count_58 rfl ?_
        refine bk_getr hX km_o rfl fl_X9_7 dX9_count_59 ?_
        refine bk_iload_n hX 1 dX9_count_62 rfl ?_
        refine bk_iconst hX bk_ci_2 dX9_count_63 ?_
        refine bk_isub hX dX9_count_64 ?_
        refine bk_iaload hX km_1 dX9_count_65 ?_
        exact fun z => hret _ _ _ _ dX9_count_66 rfl z
      · refine bk_case (fun he12 => ?_) (fun hn11 => ?_)
        · refine bk_swI hX 58 (3 : Int32) he12 dX9_count_1 (by decide +kernel) ?_
          refine bk_aload_n hX 0 dX9_count_58 rfl ?_
          refine bk_getr hX km_o rfl fl_X9_7 dX9_count_59 ?_
          refine bk_iload_n hX 1 dX9_count_62 rfl ?_
          refine bk_iconst hX bk_ci_2 dX9_count_63 ?_
          refine bk_isub hX dX9_count_64 ?_
          refine bk_iaload hX km_1 dX9_count_65 ?_
          exact fun z => hret _ _ _ _ dX9_count_66 rfl z
        · refine bk_case (fun he14 => ?_) (fun hn13 => ?_)
          · refine bk_swI hX 67 (4 : Int32) he14 dX9_count_1 (by decide +kernel) ?_
            refine bk_aload_n hX 0 dX9_count_67 rfl ?_
            refine bk_geti hX km_o rfl fl_X9_160 dX9_count_68 ?_
            exact fun z => hret _ _ _ _ dX9_count_71 rfl z
          · refine bk_case (fun he16 => ?_) (fun hn15 => ?_)
            · refine bk_swI hX 72 (5 : Int32) he16 dX9_count_1 (by decide +kernel) ?_
              refine bk_aload_n hX 0 dX9_count_72 rfl ?_
              refine bk_iconst hX bk_ci_0 dX9_count_73 ?_
              refine bk_callV_i hX [.int (0 : Int32)] [] yk_X9_sumOf yv_X9_sumOf lk_X9_285 rfl rfl km_o rfl rfl (Nat.le_of_ble_eq_true rfl) ⟨Nat.le_of_ble_eq_true rfl, Nat.le_of_ble_eq_true rfl⟩ dX9_count_74 (m_X9_sumOf w) (fun r17 σ18 => ?_)
              exact fun z => hret _ _ _ _ dX9_count_77 rfl z
            · refine bk_case (fun he20 => ?_) (fun hn19 => ?_)
              · refine bk_swI hX 78 (6 : Int32) he20 dX9_count_1 (by decide +kernel) ?_
                refine bk_aload_n hX 0 dX9_count_78 rfl ?_
                refine bk_iconst hX bk_ci_2 dX9_count_79 ?_
                refine bk_callV_i hX [.int (2 : Int32)] [] yk_X9_sumOf yv_X9_sumOf lk_X9_285 rfl rfl km_o rfl rfl (Nat.le_of_ble_eq_true rfl) ⟨Nat.le_of_ble_eq_true rfl, Nat.le_of_ble_eq_true rfl⟩ dX9_count_80 (m_X9_sumOf w) (fun r21 σ22 => ?_)
                exact fun z => hret _ _ _ _ dX9_count_83 rfl z
              · refine bk_case (fun he24 => ?_) (fun hn23 => ?_)
                · refine bk_swI hX 84 (7 : Int32) he24 dX9_count_1 (by decide +kernel) ?_
                  refine bk_aload_n hX 0 dX9_count_84 rfl ?_
                  refine bk_geti hX km_o rfl fl_X9_339 dX9_count_85 ?_
                  exact fun z => hret _ _ _ _ dX9_count_88 rfl z
                · refine bk_case (fun he26 => ?_) (fun hn25 => ?_)
                  · refine bk_swI hX 89 (8 : Int32) he26 dX9_count_1 (by decide +kernel) ?_
                    refine bk_aload_n hX 0 dX9_count_89 rfl ?_
                    refine bk_geti hX km_o rfl fl_X9_374 dX9_count_90 ?_
                    exact fun z => hret _ _ _ _ dX9_count_93 rfl z
                  · refine bk_swD hX 94 dX9_count_1 [0, 1, 2, 3, 4, 5, 6, 7, 8] ⟨hn1, hn5, hn9, hn11, hn13, hn15, hn19, hn23, hn25, trivial⟩ (by decide +kernel) ?_
                    refine bk_bipush hX bk_cb_m2 dX9_count_94 ?_
                    exact fun z => hret _ _ _ _ dX9_count_96 rfl z

def w_X9_heatDigest (x1 : Int64) (x3 : Int32) (x4 : Int32) (σ : bk_S) (post : Int64 → bk_S → Prop) : Prop :=
  w_X9_heatOf x3 x4 (0 : Int32) σ (fun r1 σ2 =>
    bk_lt (α := Int64) (((31 : Int64) * x1) + (Int32.toInt64 r1)) fun v3 =>
    w_X9_heatOf x3 x4 (1 : Int32) σ2 (fun r4 σ5 =>
      post (((31 : Int64) * v3) + (Int32.toInt64 r4)) σ5))
set_option maxRecDepth 20000 in
theorem m_X9_heatDigest (w : bk_W) {x1 : Int64} {x3 : Int32} {x4 : Int32} {σ : bk_S} {post : Int64 → bk_S → Prop} : w_X9_heatDigest x1 x3 x4 σ post → bk_Ml lyM w yX9_heatDigest cX9_heatDigest 7 8 180 [.ref (bk_r w 0), .long x1, .int x3, .int x4] σ post := by
  intro h0
  refine bk_ml (by decide) (Nat.le_of_ble_eq_true rfl) (fun X hX hret => ?_)
  revert h0
  unfold w_X9_heatDigest
  show _ → bk_At lyM w X 0 [(0, .ref (bk_r w 0)), (1, .long x1), (3, .int x3), (4, .int x4)] [] σ
  refine bk_ldc2 hX kn_X9_388 dX9_heatDigest_0 ?_
  refine bk_lload_n hX 1 dX9_heatDigest_3 rfl ?_
  refine bk_lmul hX dX9_heatDigest_4 ?_
  refine bk_aload_n hX 0 dX9_heatDigest_5 rfl ?_
  refine bk_iload_n hX 2 dX9_heatDigest_6 rfl ?_
  refine bk_iload hX 3 dX9_heatDigest_7 rfl ?_
  refine bk_iconst hX bk_ci_0 dX9_heatDigest_9 ?_
  refine bk_callV_i hX [.int x3, .int x4, .int (0 : Int32)] [.long ((31 : Int64) * x1)] yk_X9_heatOf yv_X9_heatOf lk_X9_270 rfl rfl km_o rfl rfl (Nat.le_of_ble_eq_true rfl) ⟨Nat.le_of_ble_eq_true rfl, Nat.le_of_ble_eq_true rfl⟩ dX9_heatDigest_10 (m_X9_heatOf w) (fun r1 σ2 => ?_)
  refine bk_i2l hX dX9_heatDigest_13 ?_
  refine bk_ladd hX dX9_heatDigest_14 ?_
  refine bk_lstore hX (fun v3 => [(5, .long v3), (0, .ref (bk_r w 0)), (1, .long x1), (3, .int x3), (4, .int x4)]) dX9_heatDigest_15 (Nat.le_of_ble_eq_true rfl) (fun _ => rfl) (fun v3 => ?_)
  refine bk_ldc2 hX kn_X9_388 dX9_heatDigest_17 ?_
  refine bk_lload hX 0 dX9_heatDigest_20 rfl ?_
  refine bk_lmul hX dX9_heatDigest_22 ?_
  refine bk_aload_n hX 1 dX9_heatDigest_23 rfl ?_
  refine bk_iload_n hX 3 dX9_heatDigest_24 rfl ?_
  refine bk_iload hX 4 dX9_heatDigest_25 rfl ?_
  refine bk_iconst hX bk_ci_1 dX9_heatDigest_27 ?_
  refine bk_callV_i hX [.int x3, .int x4, .int (1 : Int32)] [.long ((31 : Int64) * v3)] yk_X9_heatOf yv_X9_heatOf lk_X9_270 rfl rfl km_o rfl rfl (Nat.le_of_ble_eq_true rfl) ⟨Nat.le_of_ble_eq_true rfl, Nat.le_of_ble_eq_true rfl⟩ dX9_heatDigest_28 (m_X9_heatOf w) (fun r4 σ5 => ?_)
  refine bk_i2l hX dX9_heatDigest_31 ?_
  refine bk_ladd hX dX9_heatDigest_32 ?_
  exact fun z => hret _ _ _ _ dX9_heatDigest_33 z

def w_X9_thingDigest (x1 : Int64) (x3 : Int32) (σ : bk_S) (post : Int64 → bk_S → Prop) : Prop :=
  bk_lt (α := Int64) x1 fun v1 =>
  bk_lt (α := Int32) (0 : Int32) fun v2 =>
  bk_jn (α := Int64) (fun a4 =>
    w_X9_heatDigest a4 (0 : Int32) x3 σ (fun r10 σ11 =>
      bk_lt (α := Int64) r10 fun v12 =>
      w_X9_heatDigest v12 (4 : Int32) x3 σ11 (fun r13 σ14 =>
        bk_lt (α := Int64) r13 fun v15 =>
        w_X9_heatDigest v15 (11 : Int32) x3 σ14 (fun r16 σ17 =>
          bk_lt (α := Int64) r16 fun v18 =>
          w_X9_settledOf x3 σ17 (fun r19 σ20 =>
            bk_lt (α := Int64) (((31 : Int64) * v18) + (Int32.toInt64 r19)) fun v21 =>
            w_X9_highestOf x3 σ20 (fun r22 σ23 =>
              bk_lt (α := Int64) (((31 : Int64) * v21) + (Int32.toInt64 r22)) fun v24 =>
              w_X9_heatsBy x3 σ23 (fun r25 σ26 =>
                bk_lt (α := Int64) (((31 : Int64) * v24) + (Int32.toInt64 r25)) fun v27 =>
                w_X9_sortsBy x3 σ26 (fun r28 σ29 =>
                  bk_lt (α := Int64) (((31 : Int64) * v27) + (Int32.toInt64 r28)) fun v30 =>
                  w_X9_askOf x3 σ29 (fun r31 σ32 =>
                    bk_lt (α := Int64) (((31 : Int64) * v30) + (Int32.toInt64 r31)) fun v33 =>
                    w_X9_chanceOf (5 : Int32) x3 (0 : Int32) σ32 (fun r34 σ35 =>
                      bk_lt (α := Int64) (((31 : Int64) * v33) + r34) fun v36 =>
                      w_X9_chanceOf (5 : Int32) x3 (1 : Int32) σ35 (fun r37 σ38 =>
                        post (((31 : Int64) * v36) + r37) σ38))))))))))) (fun K3 =>
    bk_loop (α := Int64 × Int32) (fun K5 a6 =>
      ((3 : Int32) ≤ a6.2 → K3 a6.1) ∧ (¬ (3 : Int32) ≤ a6.2 → (w_X9_thingOf x3 a6.2 σ (fun r7 =>
        bk_lt (α := Int64) (((31 : Int64) * a6.1) + (Int32.toInt64 r7)) fun v8 =>
        bk_lt (α := Int32) (a6.2 + (1 : Int32)) fun v9 =>
        K5 (v8, v9))))) (v1, v2))
set_option maxRecDepth 20000 in
theorem m_X9_thingDigest (w : bk_W) {x1 : Int64} {x3 : Int32} {σ : bk_S} {post : Int64 → bk_S → Prop} : w_X9_thingDigest x1 x3 σ post → bk_Ml lyM w yX9_thingDigest cX9_thingDigest 7 9 212 [.ref (bk_r w 0), .long x1, .int x3] σ post := by
  intro h0
  refine bk_ml (by decide) (Nat.le_of_ble_eq_true rfl) (fun X hX hret => ?_)
  revert h0
  unfold w_X9_thingDigest
  show _ → bk_At lyM w X 0 [(0, .ref (bk_r w 0)), (1, .long x1), (3, .int x3)] [] σ
  refine bk_lload_n hX 1 dX9_thingDigest_0 rfl ?_
  refine bk_lstore hX (fun v1 => [(4, .long v1), (0, .ref (bk_r w 0)), (1, .long x1), (3, .int x3)]) dX9_thingDigest_1 (Nat.le_of_ble_eq_true rfl) (fun _ => rfl) (fun v1 => ?_)
  refine bk_iconst hX bk_ci_0 dX9_thingDigest_3 ?_
  refine bk_istore hX (fun v2 => [(6, .int v2), (4, .long v1), (0, .ref (bk_r w 0)), (1, .long x1), (3, .int x3)]) dX9_thingDigest_4 (Nat.le_of_ble_eq_true rfl) (fun _ => rfl) (fun v2 => ?_)
  refine bk_r_jn (α := Int64) (J := fun a => bk_At lyM w X 35 [(4, .long a), (0, .ref (bk_r w 0)), (1, .long x1), (3, .int x3)] [] σ) (fun a4 => ?_) (fun K3 hK3 => ?_)
  · refine bk_aload_n hX 1 dX9_thingDigest_35 rfl ?_
    refine bk_lload hX 0 dX9_thingDigest_36 rfl ?_
    refine bk_iconst hX bk_ci_0 dX9_thingDigest_38 ?_
    refine bk_iload_n hX 3 dX9_thingDigest_39 rfl ?_
    refine bk_callV_l hX [.long a4, .int (0 : Int32), .int x3] [] yk_X9_heatDigest yv_X9_heatDigest lk_X9_390 rfl rfl km_o rfl rfl (Nat.le_of_ble_eq_true rfl) ⟨Nat.le_of_ble_eq_true rfl, Nat.le_of_ble_eq_true rfl⟩ dX9_thingDigest_40 (m_X9_heatDigest w) (fun r10 σ11 => ?_)
    refine bk_lstore hX (fun v12 => [(4, .long v12), (0, .ref (bk_r w 0)), (1, .long x1), (3, .int x3)]) dX9_thingDigest_43 (Nat.le_of_ble_eq_true rfl) (fun _ => rfl) (fun v12 => ?_)
    refine bk_aload_n hX 1 dX9_thingDigest_45 rfl ?_
    refine bk_lload hX 0 dX9_thingDigest_46 rfl ?_
    refine bk_iconst hX bk_ci_4 dX9_thingDigest_48 ?_
    refine bk_iload_n hX 3 dX9_thingDigest_49 rfl ?_
    refine bk_callV_l hX [.long v12, .int (4 : Int32), .int x3] [] yk_X9_heatDigest yv_X9_heatDigest lk_X9_390 rfl rfl km_o rfl rfl (Nat.le_of_ble_eq_true rfl) ⟨Nat.le_of_ble_eq_true rfl, Nat.le_of_ble_eq_true rfl⟩ dX9_thingDigest_50 (m_X9_heatDigest w) (fun r13 σ14 => ?_)
    refine bk_lstore hX (fun v15 => [(4, .long v15), (0, .ref (bk_r w 0)), (1, .long x1), (3, .int x3)]) dX9_thingDigest_53 (Nat.le_of_ble_eq_true rfl) (fun _ => rfl) (fun v15 => ?_)
    refine bk_aload_n hX 1 dX9_thingDigest_55 rfl ?_
    refine bk_lload hX 0 dX9_thingDigest_56 rfl ?_
    refine bk_bipush hX bk_cb_11 dX9_thingDigest_58 ?_
    refine bk_iload_n hX 3 dX9_thingDigest_60 rfl ?_
    refine bk_callV_l hX [.long v15, .int (11 : Int32), .int x3] [] yk_X9_heatDigest yv_X9_heatDigest lk_X9_390 rfl rfl km_o rfl rfl (Nat.le_of_ble_eq_true rfl) ⟨Nat.le_of_ble_eq_true rfl, Nat.le_of_ble_eq_true rfl⟩ dX9_thingDigest_61 (m_X9_heatDigest w) (fun r16 σ17 => ?_)
    refine bk_lstore hX (fun v18 => [(4, .long v18), (0, .ref (bk_r w 0)), (1, .long x1), (3, .int x3)]) dX9_thingDigest_64 (Nat.le_of_ble_eq_true rfl) (fun _ => rfl) (fun v18 => ?_)
    refine bk_ldc2 hX kn_X9_388 dX9_thingDigest_66 ?_
    refine bk_lload hX 0 dX9_thingDigest_69 rfl ?_
    refine bk_lmul hX dX9_thingDigest_71 ?_
    refine bk_aload_n hX 1 dX9_thingDigest_72 rfl ?_
    refine bk_iload_n hX 3 dX9_thingDigest_73 rfl ?_
    refine bk_callV_i hX [.int x3] [.long ((31 : Int64) * v18)] yk_X9_settledOf yv_X9_settledOf lk_X9_279 rfl rfl km_o rfl rfl (Nat.le_of_ble_eq_true rfl) ⟨Nat.le_of_ble_eq_true rfl, Nat.le_of_ble_eq_true rfl⟩ dX9_thingDigest_74 (m_X9_settledOf w) (fun r19 σ20 => ?_)
    refine bk_i2l hX dX9_thingDigest_77 ?_
    refine bk_ladd hX dX9_thingDigest_78 ?_
    refine bk_lstore hX (fun v21 => [(4, .long v21), (0, .ref (bk_r w 0)), (1, .long x1), (3, .int x3)]) dX9_thingDigest_79 (Nat.le_of_ble_eq_true rfl) (fun _ => rfl) (fun v21 => ?_)
    refine bk_ldc2 hX kn_X9_388 dX9_thingDigest_81 ?_
    refine bk_lload hX 0 dX9_thingDigest_84 rfl ?_
    refine bk_lmul hX dX9_thingDigest_86 ?_
    refine bk_aload_n hX 1 dX9_thingDigest_87 rfl ?_
    refine bk_iload_n hX 3 dX9_thingDigest_88 rfl ?_
    refine bk_callV_i hX [.int x3] [.long ((31 : Int64) * v21)] yk_X9_highestOf yv_X9_highestOf lk_X9_294 rfl rfl km_o rfl rfl (Nat.le_of_ble_eq_true rfl) ⟨Nat.le_of_ble_eq_true rfl, Nat.le_of_ble_eq_true rfl⟩ dX9_thingDigest_89 (m_X9_highestOf w) (fun r22 σ23 => ?_)
    refine bk_i2l hX dX9_thingDigest_92 ?_
    refine bk_ladd hX dX9_thingDigest_93 ?_
    refine bk_lstore hX (fun v24 => [(4, .long v24), (0, .ref (bk_r w 0)), (1, .long x1), (3, .int x3)]) dX9_thingDigest_94 (Nat.le_of_ble_eq_true rfl) (fun _ => rfl) (fun v24 => ?_)
    refine bk_ldc2 hX kn_X9_388 dX9_thingDigest_96 ?_
    refine bk_lload hX 0 dX9_thingDigest_99 rfl ?_
    refine bk_lmul hX dX9_thingDigest_101 ?_
    refine bk_aload_n hX 1 dX9_thingDigest_102 rfl ?_
    refine bk_iload_n hX 3 dX9_thingDigest_103 rfl ?_
    refine bk_callV_i hX [.int x3] [.long ((31 : Int64) * v24)] yk_X9_heatsBy yv_X9_heatsBy lk_X9_349 rfl rfl km_o rfl rfl (Nat.le_of_ble_eq_true rfl) ⟨Nat.le_of_ble_eq_true rfl, Nat.le_of_ble_eq_true rfl⟩ dX9_thingDigest_104 (m_X9_heatsBy w) (fun r25 σ26 => ?_)
    refine bk_i2l hX dX9_thingDigest_107 ?_
    refine bk_ladd hX dX9_thingDigest_108 ?_
    refine bk_lstore hX (fun v27 => [(4, .long v27), (0, .ref (bk_r w 0)), (1, .long x1), (3, .int x3)]) dX9_thingDigest_109 (Nat.le_of_ble_eq_true rfl) (fun _ => rfl) (fun v27 => ?_)
    refine bk_ldc2 hX kn_X9_388 dX9_thingDigest_111 ?_
    refine bk_lload hX 0 dX9_thingDigest_114 rfl ?_
    refine bk_lmul hX dX9_thingDigest_116 ?_
    refine bk_aload_n hX 1 dX9_thingDigest_117 rfl ?_
    refine bk_iload_n hX 3 dX9_thingDigest_118 rfl ?_
    refine bk_callV_i hX [.int x3] [.long ((31 : Int64) * v27)] yk_X9_sortsBy yv_X9_sortsBy lk_X9_352 rfl rfl km_o rfl rfl (Nat.le_of_ble_eq_true rfl) ⟨Nat.le_of_ble_eq_true rfl, Nat.le_of_ble_eq_true rfl⟩ dX9_thingDigest_119 (m_X9_sortsBy w) (fun r28 σ29 => ?_)
    refine bk_i2l hX dX9_thingDigest_122 ?_
    refine bk_ladd hX dX9_thingDigest_123 ?_
    refine bk_lstore hX (fun v30 => [(4, .long v30), (0, .ref (bk_r w 0)), (1, .long x1), (3, .int x3)]) dX9_thingDigest_124 (Nat.le_of_ble_eq_true rfl) (fun _ => rfl) (fun v30 => ?_)
    refine bk_ldc2 hX kn_X9_388 dX9_thingDigest_126 ?_
    refine bk_lload hX 0 dX9_thingDigest_129 rfl ?_
    refine bk_lmul hX dX9_thingDigest_131 ?_
    refine bk_aload_n hX 1 dX9_thingDigest_132 rfl ?_
    refine bk_iload_n hX 3 dX9_thingDigest_133 rfl ?_
    refine bk_callV_i hX [.int x3] [.long ((31 : Int64) * v30)] yk_X9_askOf yv_X9_askOf lk_X9_355 rfl rfl km_o rfl rfl (Nat.le_of_ble_eq_true rfl) ⟨Nat.le_of_ble_eq_true rfl, Nat.le_of_ble_eq_true rfl⟩ dX9_thingDigest_134 (m_X9_askOf w) (fun r31 σ32 => ?_)
    refine bk_i2l hX dX9_thingDigest_137 ?_
    refine bk_ladd hX dX9_thingDigest_138 ?_
    refine bk_lstore hX (fun v33 => [(4, .long v33), (0, .ref (bk_r w 0)), (1, .long x1), (3, .int x3)]) dX9_thingDigest_139 (Nat.le_of_ble_eq_true rfl) (fun _ => rfl) (fun v33 => ?_)
    refine bk_ldc2 hX kn_X9_388 dX9_thingDigest_141 ?_
    refine bk_lload hX 0 dX9_thingDigest_144 rfl ?_
    refine bk_lmul hX dX9_thingDigest_146 ?_
    refine bk_aload_n hX 1 dX9_thingDigest_147 rfl ?_
    refine bk_iconst hX bk_ci_5 dX9_thingDigest_148 ?_
    refine bk_iload_n hX 3 dX9_thingDigest_149 rfl ?_
    refine bk_iconst hX bk_ci_0 dX9_thingDigest_150 ?_
    refine bk_callV_l hX [.int (5 : Int32), .int x3, .int (0 : Int32)] [.long ((31 : Int64) * v33)] yk_X9_chanceOf yv_X9_chanceOf lk_X9_362 rfl rfl km_o rfl rfl (Nat.le_of_ble_eq_true rfl) ⟨Nat.le_of_ble_eq_true rfl, Nat.le_of_ble_eq_true rfl⟩ dX9_thingDigest_151 (m_X9_chanceOf w) (fun r34 σ35 => ?_)
    refine bk_ladd hX dX9_thingDigest_154 ?_
    refine bk_lstore hX (fun v36 => [(4, .long v36), (0, .ref (bk_r w 0)), (1, .long x1), (3, .int x3)]) dX9_thingDigest_155 (Nat.le_of_ble_eq_true rfl) (fun _ => rfl) (fun v36 => ?_)
    refine bk_ldc2 hX kn_X9_388 dX9_thingDigest_157 ?_
    refine bk_lload hX 0 dX9_thingDigest_160 rfl ?_
    refine bk_lmul hX dX9_thingDigest_162 ?_
    refine bk_aload_n hX 1 dX9_thingDigest_163 rfl ?_
    refine bk_iconst hX bk_ci_5 dX9_thingDigest_164 ?_
    refine bk_iload_n hX 3 dX9_thingDigest_165 rfl ?_
    refine bk_iconst hX bk_ci_1 dX9_thingDigest_166 ?_
    refine bk_callV_l hX [.int (5 : Int32), .int x3, .int (1 : Int32)] [.long ((31 : Int64) * v36)] yk_X9_chanceOf yv_X9_chanceOf lk_X9_362 rfl rfl km_o rfl rfl (Nat.le_of_ble_eq_true rfl) ⟨Nat.le_of_ble_eq_true rfl, Nat.le_of_ble_eq_true rfl⟩ dX9_thingDigest_167 (m_X9_chanceOf w) (fun r37 σ38 => ?_)
    refine bk_ladd hX dX9_thingDigest_170 ?_
    exact fun z => hret _ _ _ _ dX9_thingDigest_171 z
  · refine bk_pick [0, 1, 2, 3, 4] rfl (bk_r_loop (α := Int64 × Int32) (J := fun a => bk_At lyM w X 6 [(6, .int a.2), (4, .long a.1), (0, .ref (bk_r w 0)), (1, .long x1), (3, .int x3)] [] σ) (v1, v2) (fun K5 hK5 a6 => ?_))
    refine bk_iload hX 0 dX9_thingDigest_6 rfl ?_
    refine bk_iconst hX bk_ci_3 dX9_thingDigest_8 ?_
    refine bk_icmp_ge hX 35 dX9_thingDigest_9 rfl ?_ ?_
    · exact bk_pick [1, 2, 3, 4] rfl (hK3 a6.1)
    · refine bk_ldc2 hX kn_X9_388 dX9_thingDigest_12 ?_
      refine bk_lload hX 1 dX9_thingDigest_15 rfl ?_
      refine bk_lmul hX dX9_thingDigest_17 ?_
      refine bk_aload_n hX 2 dX9_thingDigest_18 rfl ?_
      refine bk_iload_n hX 4 dX9_thingDigest_19 rfl ?_
      refine bk_iload hX 0 dX9_thingDigest_20 rfl ?_
      refine bk_callV_i hX [.int x3, .int a6.2] [.long ((31 : Int64) * a6.1)] yk_X9_thingOf yv_X9_thingOf lk_X9_154 rfl rfl km_o rfl rfl (Nat.le_of_ble_eq_true rfl) ⟨Nat.le_of_ble_eq_true rfl, Nat.le_of_ble_eq_true rfl⟩ dX9_thingDigest_22 (m_X9_thingOf w) (bk_pu (fun r7 => ?_))
      refine bk_i2l hX dX9_thingDigest_25 ?_
      refine bk_ladd hX dX9_thingDigest_26 ?_
      refine bk_lstore hX (fun v8 => [(4, .long v8), (6, .int a6.2), (0, .ref (bk_r w 0)), (1, .long x1), (3, .int x3)]) dX9_thingDigest_27 (Nat.le_of_ble_eq_true rfl) (fun _ => rfl) (fun v8 => ?_)
      refine bk_iinc hX 1 (fun v9 => [(6, .int v9), (4, .long v8), (0, .ref (bk_r w 0)), (1, .long x1), (3, .int x3)]) dX9_thingDigest_29 rfl bk_ci_1 (Nat.le_of_ble_eq_true rfl) (fun _ => rfl) (fun v9 => ?_)
      refine bk_goto hX 6 dX9_thingDigest_32 rfl ?_
      exact bk_pick [0, 1, 2, 3, 4] rfl (hK5 (v8, v9))

def w_X9_digest (σ : bk_S) (post : Int64 → bk_S → Prop) : Prop :=
  bk_lt (α := Int64) (17 : Int64) fun v1 =>
  bk_lt (α := Int32) (0 : Int32) fun v2 =>
  bk_jn (α := Int64 × bk_S) (fun a4 =>
    w_X9_faultOf (0 : Int32) a4.2 (fun r11 σ12 =>
      bk_lt (α := Int64) (((31 : Int64) * a4.1) + (Int32.toInt64 r11)) fun v13 =>
      w_X9_faultOf (1 : Int32) σ12 (fun r14 σ15 =>
        bk_lt (α := Int64) (((31 : Int64) * v13) + (Int32.toInt64 r14)) fun v16 =>
        bk_lt (α := Int32) (0 : Int32) fun v17 =>
        bk_jn (α := Int64 × bk_S) (fun a19 =>
          bk_lt (α := Int32) (0 : Int32) fun v33 =>
          bk_jn (α := Int64 × bk_S) (fun a35 =>
            bk_lt (α := Int32) (0 : Int32) fun v55 =>
            bk_jn (α := Int64 × bk_S) (fun a57 =>
              bk_lt (α := Int32) (0 : Int32) fun v64 =>
              bk_jn (α := Int64 × bk_S) (fun a66 =>
                w_X9_peaceOf a66.2 (fun r73 σ74 =>
                  bk_lt (α := Int64) (((31 : Int64) * a66.1) + (Int32.toInt64 r73)) fun v75 =>
                  w_X9_longestOf σ74 (fun r76 σ77 =>
                    bk_lt (α := Int64) (((31 : Int64) * v75) + (Int32.toInt64 r76)) fun v78 =>
                    w_X9_soreOf σ77 (fun r79 σ80 =>
                      bk_lt (α := Int64) (((31 : Int64) * v78) + (Int32.toInt64 r79)) fun v81 =>
                      bk_lt (α := Int32) (0 : Int32) fun v82 =>
                      bk_jn (α := Int64 × bk_S) (fun a84 =>
                        w_X9_fitOf a84.2 (fun r91 σ92 =>
                          bk_lt (α := Int64) (((31 : Int64) * a84.1) + (Int32.toInt64 r91)) fun v93 =>
                          w_X9_spareBy σ92 (fun r94 σ95 =>
                            bk_lt (α := Int32) r94 fun v96 =>
                            bk_lt (α := Int64) (((31 : Int64) * v93) + (Int32.toInt64 v96)) fun v97 =>
                            w_X9_ofRow v96 (0 : Int32) σ95 (fun r98 =>
                              bk_lt (α := Int64) (((31 : Int64) * v97) + (Int32.toInt64 r98)) fun v99 =>
                              w_X9_neverNow σ95 (fun r100 σ101 =>
                                bk_lt (α := Int64) (((31 : Int64) * v99) + (Int32.toInt64 r100)) fun v102 =>
                                w_X9_seasonsOf (7 : Int32) (6 : Int32) (0 : Int32) σ101 (fun r103 σ104 =>
                                  bk_lt (α := Int64) (((31 : Int64) * v102) + (Int32.toInt64 r103)) fun v105 =>
                                  w_X9_seasonsOf (7 : Int32) (6 : Int32) (1 : Int32) σ104 (fun r106 σ107 =>
                                    post (((31 : Int64) * v105) + (Int32.toInt64 r106)) σ107))))))) (fun K83 =>
                        bk_loop (α := Int64 × Int32 × bk_S) (fun K85 a86 =>
                          ((4 : Int32) ≤ a86.2.1 → K83 (a86.1, a86.2.2)) ∧ (¬ (4 : Int32) ≤ a86.2.1 → (w_X9_swapOf a86.2.1 a86.2.2 (fun r87 σ88 =>
                            bk_lt (α := Int64) (((31 : Int64) * a86.1) + (Int32.toInt64 r87)) fun v89 =>
                            bk_lt (α := Int32) (a86.2.1 + (1 : Int32)) fun v90 =>
                            K85 (v89, v90, σ88))))) (v81, v82, σ80)))))) (fun K65 =>
                bk_loop (α := Int64 × Int32 × bk_S) (fun K67 a68 =>
                  ((4 : Int32) ≤ a68.2.1 → K65 (a68.1, a68.2.2)) ∧ (¬ (4 : Int32) ≤ a68.2.1 → (w_X9_sumOf a68.2.1 a68.2.2 (fun r69 σ70 =>
                    bk_lt (α := Int64) (((31 : Int64) * a68.1) + (Int32.toInt64 r69)) fun v71 =>
                    bk_lt (α := Int32) (a68.2.1 + (1 : Int32)) fun v72 =>
                    K67 (v71, v72, σ70))))) (a57.1, v64, a57.2))) (fun K56 =>
              bk_loop (α := Int64 × Int32 × bk_S) (fun K58 a59 =>
                ((a59.2.2 0 4) ≤ a59.2.1 → K56 (a59.1, a59.2.2)) ∧ (¬ (a59.2.2 0 4) ≤ a59.2.1 → (w_X9_thingDigest a59.1 a59.2.1 a59.2.2 (fun r60 σ61 =>
                  bk_lt (α := Int64) r60 fun v62 =>
                  bk_lt (α := Int32) (a59.2.1 + (1 : Int32)) fun v63 =>
                  K58 (v62, v63, σ61))))) (a35.1, v55, a35.2))) (fun K34 =>
            bk_loop (α := Int64 × Int32 × bk_S) (fun K36 a37 =>
              ((12 : Int32) ≤ a37.2.1 → K34 (a37.1, a37.2.2)) ∧ (¬ (12 : Int32) ≤ a37.2.1 → (bk_lt (α := Int32) (0 : Int32) fun v38 =>
              bk_jn (α := Int64 × bk_S) (fun a40 =>
                bk_lt (α := Int32) (0 : Int32) fun v47 =>
                bk_loop (α := Int64 × Int32 × bk_S) (fun K48 a49 =>
                  ((3 : Int32) ≤ a49.2.1 → (bk_lt (α := Int32) (a37.2.1 + (1 : Int32)) fun v50 =>
                  K36 (a49.1, v50, a49.2.2))) ∧ (¬ (3 : Int32) ≤ a49.2.1 → (w_X9_leaveTold a37.2.1 a49.2.1 a49.2.2 (fun r51 σ52 =>
                    bk_lt (α := Int64) (((31 : Int64) * a49.1) + (Int32.toInt64 r51)) fun v53 =>
                    bk_lt (α := Int32) (a49.2.1 + (1 : Int32)) fun v54 =>
                    K48 (v53, v54, σ52))))) (a40.1, v47, a40.2)) (fun K39 =>
                bk_loop (α := Int64 × Int32 × bk_S) (fun K41 a42 =>
                  ((4 : Int32) ≤ a42.2.1 → K39 (a42.1, a42.2.2)) ∧ (¬ (4 : Int32) ≤ a42.2.1 → (w_X9_atOf a37.2.1 a42.2.1 a42.2.2 (fun r43 σ44 =>
                    bk_lt (α := Int64) (((31 : Int64) * a42.1) + (Int32.toInt64 r43)) fun v45 =>
                    bk_lt (α := Int32) (a42.2.1 + (1 : Int32)) fun v46 =>
                    K41 (v45, v46, σ44))))) (a37.1, v38, a37.2.2))))) (a19.1, v33, a19.2))) (fun K18 =>
          bk_loop (α := Int64 × Int32 × bk_S) (fun K20 a21 =>
            ((a21.2.2 0 2) ≤ a21.2.1 → K18 (a21.1, a21.2.2)) ∧ (¬ (a21.2.2 0 2) ≤ a21.2.1 → (vp_in a21.2.1 12 ∧ bk_lt (α := Int64) (((31 : Int64) * a21.1) + (Int32.toInt64 (a21.2.2 4 (Int32.toNatClampNeg a21.2.1)))) fun v22 =>
            w_X9_saidOf (0 : Int32) a21.2.1 a21.2.2 (fun r23 σ24 =>
              bk_lt (α := Int64) (((31 : Int64) * v22) + (Int32.toInt64 r23)) fun v25 =>
              w_X9_saidOf (3 : Int32) a21.2.1 σ24 (fun r26 σ27 =>
                bk_lt (α := Int64) (((31 : Int64) * v25) + (Int32.toInt64 r26)) fun v28 =>
                w_X9_saidOf (11 : Int32) a21.2.1 σ27 (fun r29 σ30 =>
                  bk_lt (α := Int64) (((31 : Int64) * v28) + (Int32.toInt64 r29)) fun v31 =>
                  bk_lt (α := Int32) (a21.2.1 + (1 : Int32)) fun v32 =>
                  K20 (v31, v32, σ30))))))) (v16, v17, σ15))))) (fun K3 =>
    bk_loop (α := Int64 × Int32 × bk_S) (fun K5 a6 =>
      ((8 : Int32) ≤ a6.2.1 → K3 (a6.1, a6.2.2)) ∧ (¬ (8 : Int32) ≤ a6.2.1 → (w_X9_count a6.2.1 a6.2.2 (fun r7 σ8 =>
        bk_lt (α := Int64) (((31 : Int64) * a6.1) + (Int32.toInt64 r7)) fun v9 =>
        bk_lt (α := Int32) (a6.2.1 + (1 : Int32)) fun v10 =>
        K5 (v9, v10, σ8))))) (v1, v2, σ))
set_option maxRecDepth 20000 in
theorem m_X9_digest (w : bk_W) {σ : bk_S} {post : Int64 → bk_S → Prop} : w_X9_digest σ post → bk_Ml lyM w yX9_digest cX9_digest 5 10 238 [.ref (bk_r w 0)] σ post := by
  intro h0
  refine bk_ml (by decide) (Nat.le_of_ble_eq_true rfl) (fun X hX hret => ?_)
  revert h0
  unfold w_X9_digest
  show _ → bk_At lyM w X 0 [(0, .ref (bk_r w 0))] [] σ
  refine bk_ldc2 hX kn_X9_394 dX9_digest_0 ?_
  refine bk_lstore_n hX (fun v1 => [(1, .long v1), (0, .ref (bk_r w 0))]) dX9_digest_3 (Nat.le_of_ble_eq_true rfl) (fun _ => rfl) (fun v1 => ?_)
  refine bk_iconst hX bk_ci_0 dX9_digest_4 ?_
  refine bk_istore_n hX (fun v2 => [(3, .int v2), (1, .long v1), (0, .ref (bk_r w 0))]) dX9_digest_5 (Nat.le_of_ble_eq_true rfl) (fun _ => rfl) (fun v2 => ?_)
  refine bk_r_jn (α := Int64 × bk_S) (J := fun a => bk_At lyM w X 31 [(1, .long a.1), (0, .ref (bk_r w 0))] [] a.2) (fun a4 => ?_) (fun K3 hK3 => ?_)
  · refine bk_ldc2 hX kn_X9_388 dX9_digest_31 ?_
    refine bk_lload_n hX 0 dX9_digest_34 rfl ?_
    refine bk_lmul hX dX9_digest_35 ?_
    refine bk_aload_n hX 1 dX9_digest_36 rfl ?_
    refine bk_iconst hX bk_ci_0 dX9_digest_37 ?_
    refine bk_callV_i hX [.int (0 : Int32)] [.long ((31 : Int64) * a4.1)] yk_X9_faultOf yv_X9_faultOf lk_X9_138 rfl rfl km_o rfl rfl (Nat.le_of_ble_eq_true rfl) ⟨Nat.le_of_ble_eq_true rfl, Nat.le_of_ble_eq_true rfl⟩ dX9_digest_38 (m_X9_faultOf w) (fun r11 σ12 => ?_)
    refine bk_i2l hX dX9_digest_41 ?_
    refine bk_ladd hX dX9_digest_42 ?_
    refine bk_lstore_n hX (fun v13 => [(1, .long v13), (0, .ref (bk_r w 0))]) dX9_digest_43 (Nat.le_of_ble_eq_true rfl) (fun _ => rfl) (fun v13 => ?_)
    refine bk_ldc2 hX kn_X9_388 dX9_digest_44 ?_
    refine bk_lload_n hX 0 dX9_digest_47 rfl ?_
    refine bk_lmul hX dX9_digest_48 ?_
    refine bk_aload_n hX 1 dX9_digest_49 rfl ?_
    refine bk_iconst hX bk_ci_1 dX9_digest_50 ?_
    refine bk_callV_i hX [.int (1 : Int32)] [.long ((31 : Int64) * v13)] yk_X9_faultOf yv_X9_faultOf lk_X9_138 rfl rfl km_o rfl rfl (Nat.le_of_ble_eq_true rfl) ⟨Nat.le_of_ble_eq_true rfl, Nat.le_of_ble_eq_true rfl⟩ dX9_digest_51 (m_X9_faultOf w) (fun r14 σ15 => ?_)
    refine bk_i2l hX dX9_digest_54 ?_
    refine bk_ladd hX dX9_digest_55 ?_
    refine bk_lstore_n hX (fun v16 => [(1, .long v16), (0, .ref (bk_r w 0))]) dX9_digest_56 (Nat.le_of_ble_eq_true rfl) (fun _ => rfl) (fun v16 => ?_)
    refine bk_iconst hX bk_ci_0 dX9_digest_57 ?_
    refine bk_istore_n hX (fun v17 => [(3, .int v17), (1, .long v16), (0, .ref (bk_r w 0))]) dX9_digest_58 (Nat.le_of_ble_eq_true rfl) (fun _ => rfl) (fun v17 => ?_)
    refine bk_r_jn (α := Int64 × bk_S) (J := fun a => bk_At lyM w X 130 [(1, .long a.1), (0, .ref (bk_r w 0))] [] a.2) (fun a19 => ?_) (fun K18 hK18 => ?_)
    · refine bk_iconst hX bk_ci_0 dX9_digest_130 ?_
      refine bk_istore_n hX (fun v33 => [(3, .int v33), (1, .long a19.1), (0, .ref (bk_r w 0))]) dX9_digest_131 (Nat.le_of_ble_eq_true rfl) (fun _ => rfl) (fun v33 => ?_)
      refine bk_r_jn (α := Int64 × bk_S) (J := fun a => bk_At lyM w X 204 [(1, .long a.1), (0, .ref (bk_r w 0))] [] a.2) (fun a35 => ?_) (fun K34 hK34 => ?_)
      · refine bk_iconst hX bk_ci_0 dX9_digest_204 ?_
        refine bk_istore_n hX (fun v55 => [(3, .int v55), (1, .long a35.1), (0, .ref (bk_r w 0))]) dX9_digest_205 (Nat.le_of_ble_eq_true rfl) (fun _ => rfl) (fun v55 => ?_)
        refine bk_r_jn (α := Int64 × bk_S) (J := fun a => bk_At lyM w X 227 [(1, .long a.1), (0, .ref (bk_r w 0))] [] a.2) (fun a57 => ?_) (fun K56 hK56 => ?_)
        · refine bk_iconst hX bk_ci_0 dX9_digest_227 ?_
          refine bk_istore_n hX (fun v64 => [(3, .int v64), (1, .long a57.1), (0, .ref (bk_r w 0))]) dX9_digest_228 (Nat.le_of_ble_eq_true rfl) (fun _ => rfl) (fun v64 => ?_)
          refine bk_r_jn (α := Int64 × bk_S) (J := fun a => bk_At lyM w X 253 [(1, .long a.1), (0, .ref (bk_r w 0))] [] a.2) (fun a66 => ?_) (fun K65 hK65 => ?_)
          · refine bk_ldc2 hX kn_X9_388 dX9_digest_253 ?_
            refine bk_lload_n hX 0 dX9_digest_256 rfl ?_
            refine bk_lmul hX dX9_digest_257 ?_
            refine bk_aload_n hX 1 dX9_digest_258 rfl ?_
            refine bk_callV_i hX [] [.long ((31 : Int64) * a66.1)] yk_X9_peaceOf yv_X9_peaceOf lk_X9_288 rfl rfl km_o rfl rfl (Nat.le_of_ble_eq_true rfl) ⟨Nat.le_of_ble_eq_true rfl, Nat.le_of_ble_eq_true rfl⟩ dX9_digest_259 (m_X9_peaceOf w) (fun r73 σ74 => ?_)
            refine bk_i2l hX dX9_digest_262 ?_
            refine bk_ladd hX dX9_digest_263 ?_
            refine bk_lstore_n hX (fun v75 => [(1, .long v75), (0, .ref (bk_r w 0))]) dX9_digest_264 (Nat.le_of_ble_eq_true rfl) (fun _ => rfl) (fun v75 => ?_)
            refine bk_ldc2 hX kn_X9_388 dX9_digest_265 ?_
            refine bk_lload_n hX 0 dX9_digest_268 rfl ?_
            refine bk_lmul hX dX9_digest_269 ?_
            refine bk_aload_n hX 1 dX9_digest_270 rfl ?_
            refine bk_callV_i hX [] [.long ((31 : Int64) * v75)] yk_X9_longestOf yv_X9_longestOf lk_X9_291 rfl rfl km_o rfl rfl (Nat.le_of_ble_eq_true rfl) ⟨Nat.le_of_ble_eq_true rfl, Nat.le_of_ble_eq_true rfl⟩ dX9_digest_271 (m_X9_longestOf w) (fun r76 σ77 => ?_)
            refine bk_i2l hX dX9_digest_274 ?_
            refine bk_ladd hX dX9_digest_275 ?_
            refine bk_lstore_n hX (fun v78 => [(1, .long v78), (0, .ref (bk_r w 0))]) dX9_digest_276 (Nat.le_of_ble_eq_true rfl) (fun _ => rfl) (fun v78 => ?_)
            refine bk_ldc2 hX kn_X9_388 dX9_digest_277 ?_
            refine bk_lload_n hX 0 dX9_digest_280 rfl ?_
            refine bk_lmul hX dX9_digest_281 ?_
            refine bk_aload_n hX 1 dX9_digest_282 rfl ?_
            refine bk_callV_i hX [] [.long ((31 : Int64) * v78)] yk_X9_soreOf yv_X9_soreOf lk_X9_297 rfl rfl km_o rfl rfl (Nat.le_of_ble_eq_true rfl) ⟨Nat.le_of_ble_eq_true rfl, Nat.le_of_ble_eq_true rfl⟩ dX9_digest_283 (m_X9_soreOf w) (fun r79 σ80 => ?_)
            refine bk_i2l hX dX9_digest_286 ?_
            refine bk_ladd hX dX9_digest_287 ?_
            refine bk_lstore_n hX (fun v81 => [(1, .long v81), (0, .ref (bk_r w 0))]) dX9_digest_288 (Nat.le_of_ble_eq_true rfl) (fun _ => rfl) (fun v81 => ?_)
            refine bk_iconst hX bk_ci_0 dX9_digest_289 ?_
            refine bk_istore_n hX (fun v82 => [(3, .int v82), (1, .long v81), (0, .ref (bk_r w 0))]) dX9_digest_290 (Nat.le_of_ble_eq_true rfl) (fun _ => rfl) (fun v82 => ?_)
            refine bk_r_jn (α := Int64 × bk_S) (J := fun a => bk_At lyM w X 315 [(1, .long a.1), (0, .ref (bk_r w 0))] [] a.2) (fun a84 => ?_) (fun K83 hK83 => ?_)
            · refine bk_ldc2 hX kn_X9_388 dX9_digest_315 ?_
              refine bk_lload_n hX 0 dX9_digest_318 rfl ?_
              refine bk_lmul hX dX9_digest_319 ?_
              refine bk_aload_n hX 1 dX9_digest_320 rfl ?_
              refine bk_callV_i hX [] [.long ((31 : Int64) * a84.1)] yk_X9_fitOf yv_X9_fitOf lk_X9_321 rfl rfl km_o rfl rfl (Nat.le_of_ble_eq_true rfl) ⟨Nat.le_of_ble_eq_true rfl, Nat.le_of_ble_eq_true rfl⟩ dX9_digest_321 (m_X9_fitOf w) (fun r91 σ92 => ?_)
              refine bk_i2l hX dX9_digest_324 ?_
              refine bk_ladd hX dX9_digest_325 ?_
              refine bk_lstore_n hX (fun v93 => [(1, .long v93), (0, .ref (bk_r w 0))]) dX9_digest_326 (Nat.le_of_ble_eq_true rfl) (fun _ => rfl) (fun v93 => ?_)
              refine bk_aload_n hX 1 dX9_digest_327 rfl ?_
              refine bk_callV_i hX [] [] yk_X9_spareBy yv_X9_spareBy lk_X9_333 rfl rfl km_o rfl rfl (Nat.le_of_ble_eq_true rfl) ⟨Nat.le_of_ble_eq_true rfl, Nat.le_of_ble_eq_true rfl⟩ dX9_digest_328 (m_X9_spareBy w) (fun r94 σ95 => ?_)
              refine bk_istore_n hX (fun v96 => [(3, .int v96), (1, .long v93), (0, .ref (bk_r w 0))]) dX9_digest_331 (Nat.le_of_ble_eq_true rfl) (fun _ => rfl) (fun v96 => ?_)
              refine bk_ldc2 hX kn_X9_388 dX9_digest_332 ?_
              refine bk_lload_n hX 1 dX9_digest_335 rfl ?_
              refine bk_lmul hX dX9_digest_336 ?_
              refine bk_iload_n hX 0 dX9_digest_337 rfl ?_
              refine bk_i2l hX dX9_digest_338 ?_
              refine bk_ladd hX dX9_digest_339 ?_
              refine bk_lstore_n hX (fun v97 => [(1, .long v97), (3, .int v96), (0, .ref (bk_r w 0))]) dX9_digest_340 (Nat.le_of_ble_eq_true rfl) (fun _ => rfl) (fun v97 => ?_)
              refine bk_ldc2 hX kn_X9_388 dX9_digest_341 ?_
              refine bk_lload_n hX 0 dX9_digest_344 rfl ?_
              refine bk_lmul hX dX9_digest_345 ?_
              refine bk_aload_n hX 2 dX9_digest_346 rfl ?_
              refine bk_iload_n hX 1 dX9_digest_347 rfl ?_
              refine bk_iconst hX bk_ci_0 dX9_digest_348 ?_
              refine bk_callV_i hX [.int v96, .int (0 : Int32)] [.long ((31 : Int64) * v97)] yk_X9_ofRow yv_X9_ofRow lk_X9_336 rfl rfl km_o rfl rfl (Nat.le_of_ble_eq_true rfl) ⟨Nat.le_of_ble_eq_true rfl, Nat.le_of_ble_eq_true rfl⟩ dX9_digest_349 (m_X9_ofRow w) (bk_pu (fun r98 => ?_))
              refine bk_i2l hX dX9_digest_352 ?_
              refine bk_ladd hX dX9_digest_353 ?_
              refine bk_lstore_n hX (fun v99 => [(1, .long v99), (3, .int v96), (0, .ref (bk_r w 0))]) dX9_digest_354 (Nat.le_of_ble_eq_true rfl) (fun _ => rfl) (fun v99 => ?_)
              refine bk_ldc2 hX kn_X9_388 dX9_digest_355 ?_
              refine bk_lload_n hX 0 dX9_digest_358 rfl ?_
              refine bk_lmul hX dX9_digest_359 ?_
              refine bk_aload_n hX 2 dX9_digest_360 rfl ?_
              refine bk_callV_i hX [] [.long ((31 : Int64) * v99)] yk_X9_neverNow yv_X9_neverNow lk_X9_346 rfl rfl km_o rfl rfl (Nat.le_of_ble_eq_true rfl) ⟨Nat.le_of_ble_eq_true rfl, Nat.le_of_ble_eq_true rfl⟩ dX9_digest_361 (m_X9_neverNow w) (fun r100 σ101 => ?_)
              refine bk_i2l hX dX9_digest_364 ?_
              refine bk_ladd hX dX9_digest_365 ?_
              refine bk_lstore_n hX (fun v102 => [(1, .long v102), (3, .int v96), (0, .ref (bk_r w 0))]) dX9_digest_366 (Nat.le_of_ble_eq_true rfl) (fun _ => rfl) (fun v102 => ?_)
              refine bk_ldc2 hX kn_X9_388 dX9_digest_367 ?_
              refine bk_lload_n hX 0 dX9_digest_370 rfl ?_
              refine bk_lmul hX dX9_digest_371 ?_
              refine bk_aload_n hX 2 dX9_digest_372 rfl ?_
              refine bk_bipush hX bk_cb_7 dX9_digest_373 ?_
              refine bk_bipush hX bk_cb_6 dX9_digest_375 ?_
              refine bk_iconst hX bk_ci_0 dX9_digest_377 ?_
              refine bk_callV_i hX [.int (7 : Int32), .int (6 : Int32), .int (0 : Int32)] [.long ((31 : Int64) * v102)] yk_X9_seasonsOf yv_X9_seasonsOf lk_X9_371 rfl rfl km_o rfl rfl (Nat.le_of_ble_eq_true rfl) ⟨Nat.le_of_ble_eq_true rfl, Nat.le_of_ble_eq_true rfl⟩ dX9_digest_378 (m_X9_seasonsOf w) (fun r103 σ104 => ?_)
              refine bk_i2l hX dX9_digest_381 ?_
              refine bk_ladd hX dX9_digest_382 ?_
              refine bk_lstore_n hX (fun v105 => [(1, .long v105), (3, .int v96), (0, .ref (bk_r w 0))]) dX9_digest_383 (Nat.le_of_ble_eq_true rfl) (fun _ => rfl) (fun v105 => ?_)
              refine bk_ldc2 hX kn_X9_388 dX9_digest_384 ?_
              refine bk_lload_n hX 0 dX9_digest_387 rfl ?_
              refine bk_lmul hX dX9_digest_388 ?_
              refine bk_aload_n hX 2 dX9_digest_389 rfl ?_
              refine bk_bipush hX bk_cb_7 dX9_digest_390 ?_
              refine bk_bipush hX bk_cb_6 dX9_digest_392 ?_
              refine bk_iconst hX bk_ci_1 dX9_digest_394 ?_
              refine bk_callV_i hX [.int (7 : Int32), .int (6 : Int32), .int (1 : Int32)] [.long ((31 : Int64) * v105)] yk_X9_seasonsOf yv_X9_seasonsOf lk_X9_371 rfl rfl km_o rfl rfl (Nat.le_of_ble_eq_true rfl) ⟨Nat.le_of_ble_eq_true rfl, Nat.le_of_ble_eq_true rfl⟩ dX9_digest_395 (m_X9_seasonsOf w) (fun r106 σ107 => ?_)
              refine bk_i2l hX dX9_digest_398 ?_
              refine bk_ladd hX dX9_digest_399 ?_
              exact fun z => hret _ _ _ _ dX9_digest_400 z
            · refine bk_pick [0, 1, 2] rfl (bk_r_loop (α := Int64 × Int32 × bk_S) (J := fun a => bk_At lyM w X 291 [(3, .int a.2.1), (1, .long a.1), (0, .ref (bk_r w 0))] [] a.2.2) (v81, v82, σ80) (fun K85 hK85 a86 => ?_))
              refine bk_iload_n hX 0 dX9_digest_291 rfl ?_
              refine bk_iconst hX bk_ci_4 dX9_digest_292 ?_
              refine bk_icmp_ge hX 315 dX9_digest_293 rfl ?_ ?_
              · exact bk_pick [1, 2] rfl (hK83 (a86.1, a86.2.2))
              · refine bk_ldc2 hX kn_X9_388 dX9_digest_296 ?_
                refine bk_lload_n hX 1 dX9_digest_299 rfl ?_
                refine bk_lmul hX dX9_digest_300 ?_
                refine bk_aload_n hX 2 dX9_digest_301 rfl ?_
                refine bk_iload_n hX 0 dX9_digest_302 rfl ?_
                refine bk_callV_i hX [.int a86.2.1] [.long ((31 : Int64) * a86.1)] yk_X9_swapOf yv_X9_swapOf lk_X9_318 rfl rfl km_o rfl rfl (Nat.le_of_ble_eq_true rfl) ⟨Nat.le_of_ble_eq_true rfl, Nat.le_of_ble_eq_true rfl⟩ dX9_digest_303 (m_X9_swapOf w) (fun r87 σ88 => ?_)
                refine bk_i2l hX dX9_digest_306 ?_
                refine bk_ladd hX dX9_digest_307 ?_
                refine bk_lstore_n hX (fun v89 => [(1, .long v89), (3, .int a86.2.1), (0, .ref (bk_r w 0))]) dX9_digest_308 (Nat.le_of_ble_eq_true rfl) (fun _ => rfl) (fun v89 => ?_)
                refine bk_iinc hX 1 (fun v90 => [(3, .int v90), (1, .long v89), (0, .ref (bk_r w 0))]) dX9_digest_309 rfl bk_ci_1 (Nat.le_of_ble_eq_true rfl) (fun _ => rfl) (fun v90 => ?_)
                refine bk_goto hX 291 dX9_digest_312 rfl ?_
                exact bk_pick [0, 1, 2] rfl (hK85 (v89, v90, σ88))
          · refine bk_pick [0, 1, 2] rfl (bk_r_loop (α := Int64 × Int32 × bk_S) (J := fun a => bk_At lyM w X 229 [(3, .int a.2.1), (1, .long a.1), (0, .ref (bk_r w 0))] [] a.2.2) (a57.1, v64, a57.2) (fun K67 hK67 a68 => ?_))
            refine bk_iload_n hX 0 dX9_digest_229 rfl ?_
            refine bk_iconst hX bk_ci_4 dX9_digest_230 ?_
            refine bk_icmp_ge hX 253 dX9_digest_231 rfl ?_ ?_
            · exact bk_pick [1, 2] rfl (hK65 (a68.1, a68.2.2))
            · refine bk_ldc2 hX kn_X9_388 dX9_digest_234 ?_
              refine bk_lload_n hX 1 dX9_digest_237 rfl ?_
              refine bk_lmul hX dX9_digest_238 ?_
              refine bk_aload_n hX 2 dX9_digest_239 rfl ?_
              refine bk_iload_n hX 0 dX9_digest_240 rfl ?_
              refine bk_callV_i hX [.int a68.2.1] [.long ((31 : Int64) * a68.1)] yk_X9_sumOf yv_X9_sumOf lk_X9_285 rfl rfl km_o rfl rfl (Nat.le_of_ble_eq_true rfl) ⟨Nat.le_of_ble_eq_true rfl, Nat.le_of_ble_eq_true rfl⟩ dX9_digest_241 (m_X9_sumOf w) (fun r69 σ70 => ?_)
              refine bk_i2l hX dX9_digest_244 ?_
              refine bk_ladd hX dX9_digest_245 ?_
              refine bk_lstore_n hX (fun v71 => [(1, .long v71), (3, .int a68.2.1), (0, .ref (bk_r w 0))]) dX9_digest_246 (Nat.le_of_ble_eq_true rfl) (fun _ => rfl) (fun v71 => ?_)
              refine bk_iinc hX 1 (fun v72 => [(3, .int v72), (1, .long v71), (0, .ref (bk_r w 0))]) dX9_digest_247 rfl bk_ci_1 (Nat.le_of_ble_eq_true rfl) (fun _ => rfl) (fun v72 => ?_)
              refine bk_goto hX 229 dX9_digest_250 rfl ?_
              exact bk_pick [0, 1, 2] rfl (hK67 (v71, v72, σ70))
        · refine bk_pick [0, 1, 2] rfl (bk_r_loop (α := Int64 × Int32 × bk_S) (J := fun a => bk_At lyM w X 206 [(3, .int a.2.1), (1, .long a.1), (0, .ref (bk_r w 0))] [] a.2.2) (a35.1, v55, a35.2) (fun K58 hK58 a59 => ?_))
          refine bk_iload_n hX 0 dX9_digest_206 rfl ?_
          refine bk_aload_n hX 2 dX9_digest_207 rfl ?_
          refine bk_geti hX km_o rfl fl_X9_125 dX9_digest_208 ?_
          refine bk_icmp_ge hX 227 dX9_digest_211 rfl ?_ ?_
          · exact bk_pick [1, 2] rfl (hK56 (a59.1, a59.2.2))
          · refine bk_aload_n hX 2 dX9_digest_214 rfl ?_
            refine bk_lload_n hX 1 dX9_digest_215 rfl ?_
            refine bk_iload_n hX 0 dX9_digest_216 rfl ?_
            refine bk_callV_l hX [.long a59.1, .int a59.2.1] [] yk_X9_thingDigest yv_X9_thingDigest lk_X9_399 rfl rfl km_o rfl rfl (Nat.le_of_ble_eq_true rfl) ⟨Nat.le_of_ble_eq_true rfl, Nat.le_of_ble_eq_true rfl⟩ dX9_digest_217 (m_X9_thingDigest w) (fun r60 σ61 => ?_)
            refine bk_lstore_n hX (fun v62 => [(1, .long v62), (3, .int a59.2.1), (0, .ref (bk_r w 0))]) dX9_digest_220 (Nat.le_of_ble_eq_true rfl) (fun _ => rfl) (fun v62 => ?_)
            refine bk_iinc hX 1 (fun v63 => [(3, .int v63), (1, .long v62), (0, .ref (bk_r w 0))]) dX9_digest_221 rfl bk_ci_1 (Nat.le_of_ble_eq_true rfl) (fun _ => rfl) (fun v63 => ?_)
            refine bk_goto hX 206 dX9_digest_224 rfl ?_
            exact bk_pick [0, 1, 2] rfl (hK58 (v62, v63, σ61))
      · refine bk_pick [0, 1, 2] rfl (bk_r_loop (α := Int64 × Int32 × bk_S) (J := fun a => bk_At lyM w X 132 [(3, .int a.2.1), (1, .long a.1), (0, .ref (bk_r w 0))] [] a.2.2) (a19.1, v33, a19.2) (fun K36 hK36 a37 => ?_))
        refine bk_iload_n hX 0 dX9_digest_132 rfl ?_
        refine bk_bipush hX bk_cb_12 dX9_digest_133 ?_
        refine bk_icmp_ge hX 204 dX9_digest_135 rfl ?_ ?_
        · exact bk_pick [1, 2] rfl (hK34 (a37.1, a37.2.2))
        · refine bk_iconst hX bk_ci_0 dX9_digest_138 ?_
          refine bk_istore hX (fun v38 => [(4, .int v38), (3, .int a37.2.1), (1, .long a37.1), (0, .ref (bk_r w 0))]) dX9_digest_139 (Nat.le_of_ble_eq_true rfl) (fun _ => rfl) (fun v38 => ?_)
          refine bk_r_jn (α := Int64 × bk_S) (J := fun a => bk_At lyM w X 168 [(3, .int a37.2.1), (1, .long a.1), (0, .ref (bk_r w 0))] [] a.2) (fun a40 => ?_) (fun K39 hK39 => ?_)
          · refine bk_iconst hX bk_ci_0 dX9_digest_168 ?_
            refine bk_istore hX (fun v47 => [(4, .int v47), (3, .int a37.2.1), (1, .long a40.1), (0, .ref (bk_r w 0))]) dX9_digest_169 (Nat.le_of_ble_eq_true rfl) (fun _ => rfl) (fun v47 => ?_)
            refine bk_pick [0, 1, 2, 3] rfl (bk_r_loop (α := Int64 × Int32 × bk_S) (J := fun a => bk_At lyM w X 171 [(4, .int a.2.1), (3, .int a37.2.1), (1, .long a.1), (0, .ref (bk_r w 0))] [] a.2.2) (a40.1, v47, a40.2) (fun K48 hK48 a49 => ?_))
            refine bk_iload hX 0 dX9_digest_171 rfl ?_
            refine bk_iconst hX bk_ci_3 dX9_digest_173 ?_
            refine bk_icmp_ge hX 198 dX9_digest_174 rfl ?_ ?_
            · refine bk_iinc hX 1 (fun v50 => [(3, .int v50), (4, .int a49.2.1), (1, .long a49.1), (0, .ref (bk_r w 0))]) dX9_digest_198 rfl bk_ci_1 (Nat.le_of_ble_eq_true rfl) (fun _ => rfl) (fun v50 => ?_)
              refine bk_goto hX 132 dX9_digest_201 rfl ?_
              exact bk_pick [0, 2, 3] rfl (hK36 (a49.1, v50, a49.2.2))
            · refine bk_ldc2 hX kn_X9_388 dX9_digest_177 ?_
              refine bk_lload_n hX 2 dX9_digest_180 rfl ?_
              refine bk_lmul hX dX9_digest_181 ?_
              refine bk_aload_n hX 3 dX9_digest_182 rfl ?_
              refine bk_iload_n hX 1 dX9_digest_183 rfl ?_
              refine bk_iload hX 0 dX9_digest_184 rfl ?_
              refine bk_callV_i hX [.int a37.2.1, .int a49.2.1] [.long ((31 : Int64) * a49.1)] yk_X9_leaveTold yv_X9_leaveTold lk_X9_327 rfl rfl km_o rfl rfl (Nat.le_of_ble_eq_true rfl) ⟨Nat.le_of_ble_eq_true rfl, Nat.le_of_ble_eq_true rfl⟩ dX9_digest_186 (m_X9_leaveTold w) (fun r51 σ52 => ?_)
              refine bk_i2l hX dX9_digest_189 ?_
              refine bk_ladd hX dX9_digest_190 ?_
              refine bk_lstore_n hX (fun v53 => [(1, .long v53), (4, .int a49.2.1), (3, .int a37.2.1), (0, .ref (bk_r w 0))]) dX9_digest_191 (Nat.le_of_ble_eq_true rfl) (fun _ => rfl) (fun v53 => ?_)
              refine bk_iinc hX 1 (fun v54 => [(4, .int v54), (1, .long v53), (3, .int a37.2.1), (0, .ref (bk_r w 0))]) dX9_digest_192 rfl bk_ci_1 (Nat.le_of_ble_eq_true rfl) (fun _ => rfl) (fun v54 => ?_)
              refine bk_goto hX 171 dX9_digest_195 rfl ?_
              exact bk_pick [0, 2, 1, 3] rfl (hK48 (v53, v54, σ52))
          · refine bk_pick [0, 1, 2, 3] rfl (bk_r_loop (α := Int64 × Int32 × bk_S) (J := fun a => bk_At lyM w X 141 [(4, .int a.2.1), (3, .int a37.2.1), (1, .long a.1), (0, .ref (bk_r w 0))] [] a.2.2) (a37.1, v38, a37.2.2) (fun K41 hK41 a42 => ?_))
            refine bk_iload hX 0 dX9_digest_141 rfl ?_
            refine bk_iconst hX bk_ci_4 dX9_digest_143 ?_
            refine bk_icmp_ge hX 168 dX9_digest_144 rfl ?_ ?_
            · exact bk_pick [1, 2, 3] rfl (hK39 (a42.1, a42.2.2))
            · refine bk_ldc2 hX kn_X9_388 dX9_digest_147 ?_
              refine bk_lload_n hX 2 dX9_digest_150 rfl ?_
              refine bk_lmul hX dX9_digest_151 ?_
              refine bk_aload_n hX 3 dX9_digest_152 rfl ?_
              refine bk_iload_n hX 1 dX9_digest_153 rfl ?_
              refine bk_iload hX 0 dX9_digest_154 rfl ?_
              refine bk_callV_i hX [.int a37.2.1, .int a42.2.1] [.long ((31 : Int64) * a42.1)] yk_X9_atOf yv_X9_atOf lk_X9_276 rfl rfl km_o rfl rfl (Nat.le_of_ble_eq_true rfl) ⟨Nat.le_of_ble_eq_true rfl, Nat.le_of_ble_eq_true rfl⟩ dX9_digest_156 (m_X9_atOf w) (fun r43 σ44 => ?_)
              refine bk_i2l hX dX9_digest_159 ?_
              refine bk_ladd hX dX9_digest_160 ?_
              refine bk_lstore_n hX (fun v45 => [(1, .long v45), (4, .int a42.2.1), (3, .int a37.2.1), (0, .ref (bk_r w 0))]) dX9_digest_161 (Nat.le_of_ble_eq_true rfl) (fun _ => rfl) (fun v45 => ?_)
              refine bk_iinc hX 1 (fun v46 => [(4, .int v46), (1, .long v45), (3, .int a37.2.1), (0, .ref (bk_r w 0))]) dX9_digest_162 rfl bk_ci_1 (Nat.le_of_ble_eq_true rfl) (fun _ => rfl) (fun v46 => ?_)
              refine bk_goto hX 141 dX9_digest_165 rfl ?_
              exact bk_pick [0, 2, 1, 3] rfl (hK41 (v45, v46, σ44))
    · refine bk_pick [0, 1, 2] rfl (bk_r_loop (α := Int64 × Int32 × bk_S) (J := fun a => bk_At lyM w X 59 [(3, .int a.2.1), (1, .long a.1), (0, .ref (bk_r w 0))] [] a.2.2) (v16, v17, σ15) (fun K20 hK20 a21 => ?_))
      refine bk_iload_n hX 0 dX9_digest_59 rfl ?_
      refine bk_aload_n hX 2 dX9_digest_60 rfl ?_
      refine bk_geti hX km_o rfl fl_X9_117 dX9_digest_61 ?_
      refine bk_icmp_ge hX 130 dX9_digest_64 rfl ?_ ?_
      · exact bk_pick [1, 2] rfl (hK18 (a21.1, a21.2.2))
      · refine bk_ldc2 hX kn_X9_388 dX9_digest_67 ?_
        refine bk_lload_n hX 1 dX9_digest_70 rfl ?_
        refine bk_lmul hX dX9_digest_71 ?_
        refine bk_aload_n hX 2 dX9_digest_72 rfl ?_
        refine bk_getr hX km_o rfl fl_X9_16 dX9_digest_73 ?_
        refine bk_iload_n hX 0 dX9_digest_76 rfl ?_
        refine bk_iaload hX km_4 dX9_digest_77 ?_
        refine bk_i2l hX dX9_digest_78 ?_
        refine bk_ladd hX dX9_digest_79 ?_
        refine bk_lstore_n hX (fun v22 => [(1, .long v22), (3, .int a21.2.1), (0, .ref (bk_r w 0))]) dX9_digest_80 (Nat.le_of_ble_eq_true rfl) (fun _ => rfl) (fun v22 => ?_)
        refine bk_ldc2 hX kn_X9_388 dX9_digest_81 ?_
        refine bk_lload_n hX 0 dX9_digest_84 rfl ?_
        refine bk_lmul hX dX9_digest_85 ?_
        refine bk_aload_n hX 2 dX9_digest_86 rfl ?_
        refine bk_iconst hX bk_ci_0 dX9_digest_87 ?_
        refine bk_iload_n hX 1 dX9_digest_88 rfl ?_
        refine bk_callV_i hX [.int (0 : Int32), .int a21.2.1] [.long ((31 : Int64) * v22)] yk_X9_saidOf yv_X9_saidOf lk_X9_273 rfl rfl km_o rfl rfl (Nat.le_of_ble_eq_true rfl) ⟨Nat.le_of_ble_eq_true rfl, Nat.le_of_ble_eq_true rfl⟩ dX9_digest_89 (m_X9_saidOf w) (fun r23 σ24 => ?_)
        refine bk_i2l hX dX9_digest_92 ?_
        refine bk_ladd hX dX9_digest_93 ?_
        refine bk_lstore_n hX (fun v25 => [(1, .long v25), (3, .int a21.2.1), (0, .ref (bk_r w 0))]) dX9_digest_94 (Nat.le_of_ble_eq_true rfl) (fun _ => rfl) (fun v25 => ?_)
        refine bk_ldc2 hX kn_X9_388 dX9_digest_95 ?_
        refine bk_lload_n hX 0 dX9_digest_98 rfl ?_
        refine bk_lmul hX dX9_digest_99 ?_
        refine bk_aload_n hX 2 dX9_digest_100 rfl ?_
        refine bk_iconst hX bk_ci_3 dX9_digest_101 ?_
        refine bk_iload_n hX 1 dX9_digest_102 rfl ?_
        refine bk_callV_i hX [.int (3 : Int32), .int a21.2.1] [.long ((31 : Int64) * v25)] yk_X9_saidOf yv_X9_saidOf lk_X9_273 rfl rfl km_o rfl rfl (Nat.le_of_ble_eq_true rfl) ⟨Nat.le_of_ble_eq_true rfl, Nat.le_of_ble_eq_true rfl⟩ dX9_digest_103 (m_X9_saidOf w) (fun r26 σ27 => ?_)
        refine bk_i2l hX dX9_digest_106 ?_
        refine bk_ladd hX dX9_digest_107 ?_
        refine bk_lstore_n hX (fun v28 => [(1, .long v28), (3, .int a21.2.1), (0, .ref (bk_r w 0))]) dX9_digest_108 (Nat.le_of_ble_eq_true rfl) (fun _ => rfl) (fun v28 => ?_)
        refine bk_ldc2 hX kn_X9_388 dX9_digest_109 ?_
        refine bk_lload_n hX 0 dX9_digest_112 rfl ?_
        refine bk_lmul hX dX9_digest_113 ?_
        refine bk_aload_n hX 2 dX9_digest_114 rfl ?_
        refine bk_bipush hX bk_cb_11 dX9_digest_115 ?_
        refine bk_iload_n hX 1 dX9_digest_117 rfl ?_
        refine bk_callV_i hX [.int (11 : Int32), .int a21.2.1] [.long ((31 : Int64) * v28)] yk_X9_saidOf yv_X9_saidOf lk_X9_273 rfl rfl km_o rfl rfl (Nat.le_of_ble_eq_true rfl) ⟨Nat.le_of_ble_eq_true rfl, Nat.le_of_ble_eq_true rfl⟩ dX9_digest_118 (m_X9_saidOf w) (fun r29 σ30 => ?_)
        refine bk_i2l hX dX9_digest_121 ?_
        refine bk_ladd hX dX9_digest_122 ?_
        refine bk_lstore_n hX (fun v31 => [(1, .long v31), (3, .int a21.2.1), (0, .ref (bk_r w 0))]) dX9_digest_123 (Nat.le_of_ble_eq_true rfl) (fun _ => rfl) (fun v31 => ?_)
        refine bk_iinc hX 1 (fun v32 => [(3, .int v32), (1, .long v31), (0, .ref (bk_r w 0))]) dX9_digest_124 rfl bk_ci_1 (Nat.le_of_ble_eq_true rfl) (fun _ => rfl) (fun v32 => ?_)
        refine bk_goto hX 59 dX9_digest_127 rfl ?_
        exact bk_pick [0, 1, 2] rfl (hK20 (v31, v32, σ30))
  · refine bk_pick [0, 1, 2] rfl (bk_r_loop (α := Int64 × Int32 × bk_S) (J := fun a => bk_At lyM w X 6 [(3, .int a.2.1), (1, .long a.1), (0, .ref (bk_r w 0))] [] a.2.2) (v1, v2, σ) (fun K5 hK5 a6 => ?_))
    refine bk_iload_n hX 0 dX9_digest_6 rfl ?_
    refine bk_bipush hX bk_cb_8 dX9_digest_7 ?_
    refine bk_icmp_ge hX 31 dX9_digest_9 rfl ?_ ?_
    · exact bk_pick [1, 2] rfl (hK3 (a6.1, a6.2.2))
    · refine bk_ldc2 hX kn_X9_388 dX9_digest_12 ?_
      refine bk_lload_n hX 1 dX9_digest_15 rfl ?_
      refine bk_lmul hX dX9_digest_16 ?_
      refine bk_aload_n hX 2 dX9_digest_17 rfl ?_
      refine bk_iload_n hX 0 dX9_digest_18 rfl ?_
      refine bk_callV_i hX [.int a6.2.1] [.long ((31 : Int64) * a6.1)] yk_X9_count yv_X9_count lk_X9_396 rfl rfl km_o rfl rfl (Nat.le_of_ble_eq_true rfl) ⟨Nat.le_of_ble_eq_true rfl, Nat.le_of_ble_eq_true rfl⟩ dX9_digest_19 (m_X9_count w) (fun r7 σ8 => ?_)
      refine bk_i2l hX dX9_digest_22 ?_
      refine bk_ladd hX dX9_digest_23 ?_
      refine bk_lstore_n hX (fun v9 => [(1, .long v9), (3, .int a6.2.1), (0, .ref (bk_r w 0))]) dX9_digest_24 (Nat.le_of_ble_eq_true rfl) (fun _ => rfl) (fun v9 => ?_)
      refine bk_iinc hX 1 (fun v10 => [(3, .int v10), (1, .long v9), (0, .ref (bk_r w 0))]) dX9_digest_25 rfl bk_ci_1 (Nat.le_of_ble_eq_true rfl) (fun _ => rfl) (fun v10 => ?_)
      refine bk_goto hX 6 dX9_digest_28 rfl ?_
      exact bk_pick [0, 1, 2] rfl (hK5 (v9, v10, σ8))
