theorem k_X0 (w : bk_W) (a : Nat) : ct_M w yX0_init cX0_init 1 1 20 0 0 [.ref a] [(a, .inr (0, [.int 0, .int 0, .int 0, .int 0, .int 0]))] (fun ws1 => ws1 = [(a, .inr (0, [.int 0, .int (-1), .int (-1), .int (-1), .int (-1)]))]) := by
  refine ct_m (by decide) rfl (Nat.le_of_ble_eq_true rfl) (fun X hX hin hret => ?_)
  show ct_At w X 0 [(0, .ref a)] [] [(a, .inr (0, [.int 0, .int 0, .int 0, .int 0, .int 0]))] 0 0
  refine ct_aload_n hX 0 dX0_init_0 rfl ?_
  refine ct_objInit hX lk_X0_3 (Nat.le_of_ble_eq_true rfl) (Nat.le_of_ble_eq_true rfl) (Nat.le_of_ble_eq_true rfl) dX0_init_1 ?_
  refine ct_aload_n hX 0 dX0_init_4 rfl ?_
  refine ct_iconst hX ctkic_0 dX0_init_5 ?_
  refine ct_putN hX [.int 0, .int 0, .int 0, .int 0, .int 0] rfl cf_X0_9 (Nat.le_of_ble_eq_true rfl) rfl rfl dX0_init_6 ?_
  refine ct_aload_n hX 0 dX0_init_9 rfl ?_
  refine ct_iconst hX ctkic_m1 dX0_init_10 ?_
  refine ct_putN hX [.int 0, .int (-1), .int 0, .int 0, .int 0] rfl cf_X0_15 (Nat.le_of_ble_eq_true rfl) rfl rfl dX0_init_11 ?_
  refine ct_aload_n hX 0 dX0_init_14 rfl ?_
  refine ct_iconst hX ctkic_m1 dX0_init_15 ?_
  refine ct_putN hX [.int 0, .int (-1), .int (-1), .int 0, .int 0] rfl cf_X0_19 (Nat.le_of_ble_eq_true rfl) rfl rfl dX0_init_16 ?_
  refine ct_aload_n hX 0 dX0_init_19 rfl ?_
  refine ct_iconst hX ctkic_m1 dX0_init_20 ?_
  refine ct_putN hX [.int 0, .int (-1), .int (-1), .int (-1), .int 0] rfl cf_X0_22 (Nat.le_of_ble_eq_true rfl) rfl rfl dX0_init_21 ?_
  refine ct_aload_n hX 0 dX0_init_24 rfl ?_
  refine ct_iconst hX ctkic_m1 dX0_init_25 ?_
  refine ct_putN hX [.int 0, .int (-1), .int (-1), .int (-1), .int (-1)] rfl cf_X0_25 (Nat.le_of_ble_eq_true rfl) rfl rfl dX0_init_26 ?_
  exact hret _ _ _ dX0_init_29 (ct_same rfl)
theorem k_X1 (w : bk_W) (a : Nat) : ct_M w yX1_init cX1_init 1 1 20 11 416 [.ref a] [(a, .inr (1, [.null, .null, .null, .null, .null, .null, .null, .null, .null, .null, .null, .int 0]))] (fun ws1 => ∃ h1 h2 h3 h4 h5 h6 h7 h8 h9 h10 h11, ws1 = [(a, .inr (1, [.ref h1, .ref h2, .ref h3, .ref h4, .ref h5, .ref h6, .ref h7, .ref h8, .ref h9, .ref h10, .ref h11, .int 0])), (h1, .inl (w.2.2 0, 8, .inl (fun _ => 0))), (h2, .inl (w.2.2 0, 8, .inl (fun _ => 0))), (h3, .inl (w.2.2 0, 8, .inl (fun _ => 0))), (h4, .inl (w.2.2 0, 8, .inl (fun _ => 0))), (h5, .inl (w.2.2 0, 96, .inl (fun _ => 0))), (h6, .inl (w.2.2 0, 96, .inl (fun _ => 0))), (h7, .inl (w.2.2 0, 144, .inl (fun _ => 0))), (h8, .inl (w.2.2 0, 12, .inl (fun _ => 0))), (h9, .inl (w.2.2 0, 12, .inl (fun _ => 0))), (h10, .inl (w.2.2 0, 12, .inl (fun _ => 0))), (h11, .inl (w.2.2 0, 12, .inl (fun _ => 0)))]) := by
  refine ct_m (by decide) rfl (Nat.le_of_ble_eq_true rfl) (fun X hX hin hret => ?_)
  show ct_At w X 0 [(0, .ref a)] [] [(a, .inr (1, [.null, .null, .null, .null, .null, .null, .null, .null, .null, .null, .null, .int 0]))] 0 0
  refine ct_aload_n hX 0 dX1_init_0 rfl ?_
  refine ct_objInit hX lk_X1_3 (Nat.le_of_ble_eq_true rfl) (Nat.le_of_ble_eq_true rfl) (Nat.le_of_ble_eq_true rfl) dX1_init_1 ?_
  refine ct_aload_n hX 0 dX1_init_4 rfl ?_
  refine ct_bipush hX ctkbi_8 dX1_init_5 ?_
  refine ct_newa hX (N := 8) (by decide) (by decide) (by decide) ⟨Nat.le_of_ble_eq_true rfl, Nat.le_of_ble_eq_true rfl⟩ dX1_init_7 (fun h1 => ?_)
  refine ct_sh [(a, .inr (1, [.null, .null, .null, .null, .null, .null, .null, .null, .null, .null, .null, .int 0])), (h1, .inl (w.2.2 0, 8, .inl (fun _ => 0)))] 1 8 rfl rfl rfl ?_
  refine ct_putF hX hin [.ref h1, .null, .null, .null, .null, .null, .null, .null, .null, .null, .null, .int 0] rfl cf_X1_9 (Nat.le_of_ble_eq_true rfl) rfl rfl dX1_init_9 ?_
  refine ct_aload_n hX 0 dX1_init_12 rfl ?_
  refine ct_bipush hX ctkbi_8 dX1_init_13 ?_
  refine ct_newa hX (N := 8) (by decide) (by decide) (by decide) ⟨Nat.le_of_ble_eq_true rfl, Nat.le_of_ble_eq_true rfl⟩ dX1_init_15 (fun h2 => ?_)
  refine ct_sh [(a, .inr (1, [.ref h1, .null, .null, .null, .null, .null, .null, .null, .null, .null, .null, .int 0])), (h1, .inl (w.2.2 0, 8, .inl (fun _ => 0))), (h2, .inl (w.2.2 0, 8, .inl (fun _ => 0)))] 2 16 rfl rfl rfl ?_
  refine ct_putF hX hin [.ref h1, .ref h2, .null, .null, .null, .null, .null, .null, .null, .null, .null, .int 0] rfl cf_X1_15 (Nat.le_of_ble_eq_true rfl) rfl rfl dX1_init_17 ?_
  refine ct_aload_n hX 0 dX1_init_20 rfl ?_
  refine ct_bipush hX ctkbi_8 dX1_init_21 ?_
  refine ct_newa hX (N := 8) (by decide) (by decide) (by decide) ⟨Nat.le_of_ble_eq_true rfl, Nat.le_of_ble_eq_true rfl⟩ dX1_init_23 (fun h3 => ?_)
  refine ct_sh [(a, .inr (1, [.ref h1, .ref h2, .null, .null, .null, .null, .null, .null, .null, .null, .null, .int 0])), (h1, .inl (w.2.2 0, 8, .inl (fun _ => 0))), (h2, .inl (w.2.2 0, 8, .inl (fun _ => 0))), (h3, .inl (w.2.2 0, 8, .inl (fun _ => 0)))] 3 24 rfl rfl rfl ?_
  refine ct_putF hX hin [.ref h1, .ref h2, .ref h3, .null, .null, .null, .null, .null, .null, .null, .null, .int 0] rfl cf_X1_18 (Nat.le_of_ble_eq_true rfl) rfl rfl dX1_init_25 ?_
  refine ct_aload_n hX 0 dX1_init_28 rfl ?_
  refine ct_bipush hX ctkbi_8 dX1_init_29 ?_
  refine ct_newa hX (N := 8) (by decide) (by decide) (by decide) ⟨Nat.le_of_ble_eq_true rfl, Nat.le_of_ble_eq_true rfl⟩ dX1_init_31 (fun h4 => ?_)
  refine ct_sh [(a, .inr (1, [.ref h1, .ref h2, .ref h3, .null, .null, .null, .null, .null, .null, .null, .null, .int 0])), (h1, .inl (w.2.2 0, 8, .inl (fun _ => 0))), (h2, .inl (w.2.2 0, 8, .inl (fun _ => 0))), (h3, .inl (w.2.2 0, 8, .inl (fun _ => 0))), (h4, .inl (w.2.2 0, 8, .inl (fun _ => 0)))] 4 32 rfl rfl rfl ?_
  refine ct_putF hX hin [.ref h1, .ref h2, .ref h3, .ref h4, .null, .null, .null, .null, .null, .null, .null, .int 0] rfl cf_X1_21 (Nat.le_of_ble_eq_true rfl) rfl rfl dX1_init_33 ?_
  refine ct_aload_n hX 0 dX1_init_36 rfl ?_
  refine ct_bipush hX ctkbi_96 dX1_init_37 ?_
  refine ct_newa hX (N := 96) (by decide) (by decide) (by decide) ⟨Nat.le_of_ble_eq_true rfl, Nat.le_of_ble_eq_true rfl⟩ dX1_init_39 (fun h5 => ?_)
  refine ct_sh [(a, .inr (1, [.ref h1, .ref h2, .ref h3, .ref h4, .null, .null, .null, .null, .null, .null, .null, .int 0])), (h1, .inl (w.2.2 0, 8, .inl (fun _ => 0))), (h2, .inl (w.2.2 0, 8, .inl (fun _ => 0))), (h3, .inl (w.2.2 0, 8, .inl (fun _ => 0))), (h4, .inl (w.2.2 0, 8, .inl (fun _ => 0))), (h5, .inl (w.2.2 0, 96, .inl (fun _ => 0)))] 5 128 rfl rfl rfl ?_
  refine ct_putF hX hin [.ref h1, .ref h2, .ref h3, .ref h4, .ref h5, .null, .null, .null, .null, .null, .null, .int 0] rfl cf_X1_24 (Nat.le_of_ble_eq_true rfl) rfl rfl dX1_init_41 ?_
  refine ct_aload_n hX 0 dX1_init_44 rfl ?_
  refine ct_bipush hX ctkbi_96 dX1_init_45 ?_
  refine ct_newa hX (N := 96) (by decide) (by decide) (by decide) ⟨Nat.le_of_ble_eq_true rfl, Nat.le_of_ble_eq_true rfl⟩ dX1_init_47 (fun h6 => ?_)
  refine ct_sh [(a, .inr (1, [.ref h1, .ref h2, .ref h3, .ref h4, .ref h5, .null, .null, .null, .null, .null, .null, .int 0])), (h1, .inl (w.2.2 0, 8, .inl (fun _ => 0))), (h2, .inl (w.2.2 0, 8, .inl (fun _ => 0))), (h3, .inl (w.2.2 0, 8, .inl (fun _ => 0))), (h4, .inl (w.2.2 0, 8, .inl (fun _ => 0))), (h5, .inl (w.2.2 0, 96, .inl (fun _ => 0))), (h6, .inl (w.2.2 0, 96, .inl (fun _ => 0)))] 6 224 rfl rfl rfl ?_
  refine ct_putF hX hin [.ref h1, .ref h2, .ref h3, .ref h4, .ref h5, .ref h6, .null, .null, .null, .null, .null, .int 0] rfl cf_X1_27 (Nat.le_of_ble_eq_true rfl) rfl rfl dX1_init_49 ?_
  refine ct_aload_n hX 0 dX1_init_52 rfl ?_
  refine ct_sipush hX ctksi_144 dX1_init_53 ?_
  refine ct_newa hX (N := 144) (by decide) (by decide) (by decide) ⟨Nat.le_of_ble_eq_true rfl, Nat.le_of_ble_eq_true rfl⟩ dX1_init_56 (fun h7 => ?_)
  refine ct_sh [(a, .inr (1, [.ref h1, .ref h2, .ref h3, .ref h4, .ref h5, .ref h6, .null, .null, .null, .null, .null, .int 0])), (h1, .inl (w.2.2 0, 8, .inl (fun _ => 0))), (h2, .inl (w.2.2 0, 8, .inl (fun _ => 0))), (h3, .inl (w.2.2 0, 8, .inl (fun _ => 0))), (h4, .inl (w.2.2 0, 8, .inl (fun _ => 0))), (h5, .inl (w.2.2 0, 96, .inl (fun _ => 0))), (h6, .inl (w.2.2 0, 96, .inl (fun _ => 0))), (h7, .inl (w.2.2 0, 144, .inl (fun _ => 0)))] 7 368 rfl rfl rfl ?_
  refine ct_putF hX hin [.ref h1, .ref h2, .ref h3, .ref h4, .ref h5, .ref h6, .ref h7, .null, .null, .null, .null, .int 0] rfl cf_X1_30 (Nat.le_of_ble_eq_true rfl) rfl rfl dX1_init_58 ?_
  refine ct_aload_n hX 0 dX1_init_61 rfl ?_
  refine ct_bipush hX ctkbi_12 dX1_init_62 ?_
  refine ct_newa hX (N := 12) (by decide) (by decide) (by decide) ⟨Nat.le_of_ble_eq_true rfl, Nat.le_of_ble_eq_true rfl⟩ dX1_init_64 (fun h8 => ?_)
  refine ct_sh [(a, .inr (1, [.ref h1, .ref h2, .ref h3, .ref h4, .ref h5, .ref h6, .ref h7, .null, .null, .null, .null, .int 0])), (h1, .inl (w.2.2 0, 8, .inl (fun _ => 0))), (h2, .inl (w.2.2 0, 8, .inl (fun _ => 0))), (h3, .inl (w.2.2 0, 8, .inl (fun _ => 0))), (h4, .inl (w.2.2 0, 8, .inl (fun _ => 0))), (h5, .inl (w.2.2 0, 96, .inl (fun _ => 0))), (h6, .inl (w.2.2 0, 96, .inl (fun _ => 0))), (h7, .inl (w.2.2 0, 144, .inl (fun _ => 0))), (h8, .inl (w.2.2 0, 12, .inl (fun _ => 0)))] 8 380 rfl rfl rfl ?_
  refine ct_putF hX hin [.ref h1, .ref h2, .ref h3, .ref h4, .ref h5, .ref h6, .ref h7, .ref h8, .null, .null, .null, .int 0] rfl cf_X1_33 (Nat.le_of_ble_eq_true rfl) rfl rfl dX1_init_66 ?_
  refine ct_aload_n hX 0 dX1_init_69 rfl ?_
  refine ct_bipush hX ctkbi_12 dX1_init_70 ?_
  refine ct_newa hX (N := 12) (by decide) (by decide) (by decide) ⟨Nat.le_of_ble_eq_true rfl, Nat.le_of_ble_eq_true rfl⟩ dX1_init_72 (fun h9 => ?_)
  refine ct_sh [(a, .inr (1, [.ref h1, .ref h2, .ref h3, .ref h4, .ref h5, .ref h6, .ref h7, .ref h8, .null, .null, .null, .int 0])), (h1, .inl (w.2.2 0, 8, .inl (fun _ => 0))), (h2, .inl (w.2.2 0, 8, .inl (fun _ => 0))), (h3, .inl (w.2.2 0, 8, .inl (fun _ => 0))), (h4, .inl (w.2.2 0, 8, .inl (fun _ => 0))), (h5, .inl (w.2.2 0, 96, .inl (fun _ => 0))), (h6, .inl (w.2.2 0, 96, .inl (fun _ => 0))), (h7, .inl (w.2.2 0, 144, .inl (fun _ => 0))), (h8, .inl (w.2.2 0, 12, .inl (fun _ => 0))), (h9, .inl (w.2.2 0, 12, .inl (fun _ => 0)))] 9 392 rfl rfl rfl ?_
  refine ct_putF hX hin [.ref h1, .ref h2, .ref h3, .ref h4, .ref h5, .ref h6, .ref h7, .ref h8, .ref h9, .null, .null, .int 0] rfl cf_X1_36 (Nat.le_of_ble_eq_true rfl) rfl rfl dX1_init_74 ?_
  refine ct_aload_n hX 0 dX1_init_77 rfl ?_
  refine ct_bipush hX ctkbi_12 dX1_init_78 ?_
  refine ct_newa hX (N := 12) (by decide) (by decide) (by decide) ⟨Nat.le_of_ble_eq_true rfl, Nat.le_of_ble_eq_true rfl⟩ dX1_init_80 (fun h10 => ?_)
  refine ct_sh [(a, .inr (1, [.ref h1, .ref h2, .ref h3, .ref h4, .ref h5, .ref h6, .ref h7, .ref h8, .ref h9, .null, .null, .int 0])), (h1, .inl (w.2.2 0, 8, .inl (fun _ => 0))), (h2, .inl (w.2.2 0, 8, .inl (fun _ => 0))), (h3, .inl (w.2.2 0, 8, .inl (fun _ => 0))), (h4, .inl (w.2.2 0, 8, .inl (fun _ => 0))), (h5, .inl (w.2.2 0, 96, .inl (fun _ => 0))), (h6, .inl (w.2.2 0, 96, .inl (fun _ => 0))), (h7, .inl (w.2.2 0, 144, .inl (fun _ => 0))), (h8, .inl (w.2.2 0, 12, .inl (fun _ => 0))), (h9, .inl (w.2.2 0, 12, .inl (fun _ => 0))), (h10, .inl (w.2.2 0, 12, .inl (fun _ => 0)))] 10 404 rfl rfl rfl ?_
  refine ct_putF hX hin [.ref h1, .ref h2, .ref h3, .ref h4, .ref h5, .ref h6, .ref h7, .ref h8, .ref h9, .ref h10, .null, .int 0] rfl cf_X1_39 (Nat.le_of_ble_eq_true rfl) rfl rfl dX1_init_82 ?_
  refine ct_aload_n hX 0 dX1_init_85 rfl ?_
  refine ct_bipush hX ctkbi_12 dX1_init_86 ?_
  refine ct_newa hX (N := 12) (by decide) (by decide) (by decide) ⟨Nat.le_of_ble_eq_true rfl, Nat.le_of_ble_eq_true rfl⟩ dX1_init_88 (fun h11 => ?_)
  refine ct_sh [(a, .inr (1, [.ref h1, .ref h2, .ref h3, .ref h4, .ref h5, .ref h6, .ref h7, .ref h8, .ref h9, .ref h10, .null, .int 0])), (h1, .inl (w.2.2 0, 8, .inl (fun _ => 0))), (h2, .inl (w.2.2 0, 8, .inl (fun _ => 0))), (h3, .inl (w.2.2 0, 8, .inl (fun _ => 0))), (h4, .inl (w.2.2 0, 8, .inl (fun _ => 0))), (h5, .inl (w.2.2 0, 96, .inl (fun _ => 0))), (h6, .inl (w.2.2 0, 96, .inl (fun _ => 0))), (h7, .inl (w.2.2 0, 144, .inl (fun _ => 0))), (h8, .inl (w.2.2 0, 12, .inl (fun _ => 0))), (h9, .inl (w.2.2 0, 12, .inl (fun _ => 0))), (h10, .inl (w.2.2 0, 12, .inl (fun _ => 0))), (h11, .inl (w.2.2 0, 12, .inl (fun _ => 0)))] 11 416 rfl rfl rfl ?_
  refine ct_putF hX hin [.ref h1, .ref h2, .ref h3, .ref h4, .ref h5, .ref h6, .ref h7, .ref h8, .ref h9, .ref h10, .ref h11, .int 0] rfl cf_X1_42 (Nat.le_of_ble_eq_true rfl) rfl rfl dX1_init_90 ?_
  refine ct_aload_n hX 0 dX1_init_93 rfl ?_
  refine ct_iconst hX ctkic_0 dX1_init_94 ?_
  refine ct_putN hX [.ref h1, .ref h2, .ref h3, .ref h4, .ref h5, .ref h6, .ref h7, .ref h8, .ref h9, .ref h10, .ref h11, .int 0] rfl cf_X1_45 (Nat.le_of_ble_eq_true rfl) rfl rfl dX1_init_95 ?_
  exact hret _ _ _ dX1_init_98 (ct_same ⟨h1, h2, h3, h4, h5, h6, h7, h8, h9, h10, h11, rfl⟩)
theorem k_X2 (w : bk_W) (a : Nat) : ct_M w yX2_init cX2_init 1 1 20 1 120 [.ref a] [(a, .inr (2, [.int 0, .null]))] (fun ws1 => ∃ h1, ws1 = [(a, .inr (2, [.int 0, .ref h1])), (h1, .inl (w.2.2 0, 120, .inl (fun _ => 0)))]) := by
  refine ct_m (by decide) rfl (Nat.le_of_ble_eq_true rfl) (fun X hX hin hret => ?_)
  show ct_At w X 0 [(0, .ref a)] [] [(a, .inr (2, [.int 0, .null]))] 0 0
  refine ct_aload_n hX 0 dX2_init_0 rfl ?_
  refine ct_objInit hX lk_X2_3 (Nat.le_of_ble_eq_true rfl) (Nat.le_of_ble_eq_true rfl) (Nat.le_of_ble_eq_true rfl) dX2_init_1 ?_
  refine ct_aload_n hX 0 dX2_init_4 rfl ?_
  refine ct_iconst hX ctkic_0 dX2_init_5 ?_
  refine ct_putN hX [.int 0, .null] rfl cf_X2_9 (Nat.le_of_ble_eq_true rfl) rfl rfl dX2_init_6 ?_
  refine ct_aload_n hX 0 dX2_init_9 rfl ?_
  refine ct_bipush hX ctkbi_120 dX2_init_10 ?_
  refine ct_newa hX (N := 120) (by decide) (by decide) (by decide) ⟨Nat.le_of_ble_eq_true rfl, Nat.le_of_ble_eq_true rfl⟩ dX2_init_12 (fun h1 => ?_)
  refine ct_sh [(a, .inr (2, [.int 0, .null])), (h1, .inl (w.2.2 0, 120, .inl (fun _ => 0)))] 1 120 rfl rfl rfl ?_
  refine ct_putF hX hin [.int 0, .ref h1] rfl cf_X2_15 (Nat.le_of_ble_eq_true rfl) rfl rfl dX2_init_14 ?_
  exact hret _ _ _ dX2_init_17 (ct_same ⟨h1, rfl⟩)
theorem k_X3 (w : bk_W) (a : Nat) : ct_M w yX3_init cX3_init 1 1 20 0 0 [.ref a] [(a, .inr (3, [.int 0]))] (fun ws1 => ws1 = [(a, .inr (3, [.int 0]))]) := by
  refine ct_m (by decide) rfl (Nat.le_of_ble_eq_true rfl) (fun X hX hin hret => ?_)
  show ct_At w X 0 [(0, .ref a)] [] [(a, .inr (3, [.int 0]))] 0 0
  refine ct_aload_n hX 0 dX3_init_0 rfl ?_
  refine ct_objInit hX lk_X3_1 (Nat.le_of_ble_eq_true rfl) (Nat.le_of_ble_eq_true rfl) (Nat.le_of_ble_eq_true rfl) dX3_init_1 ?_
  refine ct_aload_n hX 0 dX3_init_4 rfl ?_
  refine ct_iconst hX ctkic_0 dX3_init_5 ?_
  refine ct_putN hX [.int 0] rfl cf_X3_7 (Nat.le_of_ble_eq_true rfl) rfl rfl dX3_init_6 ?_
  exact hret _ _ _ dX3_init_9 (ct_same rfl)
theorem k_X4 (w : bk_W) (a : Nat) : ct_M w yX4_init cX4_init 1 1 20 6 60 [.ref a] [(a, .inr (4, [.int 0, .int 0, .null, .null, .null, .null, .null, .null]))] (fun ws1 => ∃ h1 h2 h3 h4 h5 h6, ws1 = [(a, .inr (4, [.int 0, .int 0, .ref h1, .ref h2, .ref h3, .ref h4, .ref h5, .ref h6])), (h1, .inl (w.2.2 0, 12, .inl (fun _ => 0))), (h2, .inl (w.2.2 0, 8, .inl (fun _ => 0))), (h3, .inl (w.2.2 0, 8, .inl (fun _ => 0))), (h4, .inl (w.2.2 0, 8, .inl (fun _ => 0))), (h5, .inl (w.2.2 0, 12, .inl (fun _ => 0))), (h6, .inl (w.2.2 0, 12, .inl (fun _ => 0)))]) := by
  refine ct_m (by decide) rfl (Nat.le_of_ble_eq_true rfl) (fun X hX hin hret => ?_)
  show ct_At w X 0 [(0, .ref a)] [] [(a, .inr (4, [.int 0, .int 0, .null, .null, .null, .null, .null, .null]))] 0 0
  refine ct_aload_n hX 0 dX4_init_0 rfl ?_
  refine ct_objInit hX lk_X4_3 (Nat.le_of_ble_eq_true rfl) (Nat.le_of_ble_eq_true rfl) (Nat.le_of_ble_eq_true rfl) dX4_init_1 ?_
  refine ct_aload_n hX 0 dX4_init_4 rfl ?_
  refine ct_iconst hX ctkic_0 dX4_init_5 ?_
  refine ct_putN hX [.int 0, .int 0, .null, .null, .null, .null, .null, .null] rfl cf_X4_9 (Nat.le_of_ble_eq_true rfl) rfl rfl dX4_init_6 ?_
  refine ct_aload_n hX 0 dX4_init_9 rfl ?_
  refine ct_iconst hX ctkic_0 dX4_init_10 ?_
  refine ct_putN hX [.int 0, .int 0, .null, .null, .null, .null, .null, .null] rfl cf_X4_15 (Nat.le_of_ble_eq_true rfl) rfl rfl dX4_init_11 ?_
  refine ct_aload_n hX 0 dX4_init_14 rfl ?_
  refine ct_bipush hX ctkbi_12 dX4_init_15 ?_
  refine ct_newa hX (N := 12) (by decide) (by decide) (by decide) ⟨Nat.le_of_ble_eq_true rfl, Nat.le_of_ble_eq_true rfl⟩ dX4_init_17 (fun h1 => ?_)
  refine ct_sh [(a, .inr (4, [.int 0, .int 0, .null, .null, .null, .null, .null, .null])), (h1, .inl (w.2.2 0, 12, .inl (fun _ => 0)))] 1 12 rfl rfl rfl ?_
  refine ct_putF hX hin [.int 0, .int 0, .ref h1, .null, .null, .null, .null, .null] rfl cf_X4_18 (Nat.le_of_ble_eq_true rfl) rfl rfl dX4_init_19 ?_
  refine ct_aload_n hX 0 dX4_init_22 rfl ?_
  refine ct_bipush hX ctkbi_8 dX4_init_23 ?_
  refine ct_newa hX (N := 8) (by decide) (by decide) (by decide) ⟨Nat.le_of_ble_eq_true rfl, Nat.le_of_ble_eq_true rfl⟩ dX4_init_25 (fun h2 => ?_)
  refine ct_sh [(a, .inr (4, [.int 0, .int 0, .ref h1, .null, .null, .null, .null, .null])), (h1, .inl (w.2.2 0, 12, .inl (fun _ => 0))), (h2, .inl (w.2.2 0, 8, .inl (fun _ => 0)))] 2 20 rfl rfl rfl ?_
  refine ct_putF hX hin [.int 0, .int 0, .ref h1, .ref h2, .null, .null, .null, .null] rfl cf_X4_22 (Nat.le_of_ble_eq_true rfl) rfl rfl dX4_init_27 ?_
  refine ct_aload_n hX 0 dX4_init_30 rfl ?_
  refine ct_bipush hX ctkbi_8 dX4_init_31 ?_
  refine ct_newa hX (N := 8) (by decide) (by decide) (by decide) ⟨Nat.le_of_ble_eq_true rfl, Nat.le_of_ble_eq_true rfl⟩ dX4_init_33 (fun h3 => ?_)
  refine ct_sh [(a, .inr (4, [.int 0, .int 0, .ref h1, .ref h2, .null, .null, .null, .null])), (h1, .inl (w.2.2 0, 12, .inl (fun _ => 0))), (h2, .inl (w.2.2 0, 8, .inl (fun _ => 0))), (h3, .inl (w.2.2 0, 8, .inl (fun _ => 0)))] 3 28 rfl rfl rfl ?_
  refine ct_putF hX hin [.int 0, .int 0, .ref h1, .ref h2, .ref h3, .null, .null, .null] rfl cf_X4_25 (Nat.le_of_ble_eq_true rfl) rfl rfl dX4_init_35 ?_
  refine ct_aload_n hX 0 dX4_init_38 rfl ?_
  refine ct_bipush hX ctkbi_8 dX4_init_39 ?_
  refine ct_newa hX (N := 8) (by decide) (by decide) (by decide) ⟨Nat.le_of_ble_eq_true rfl, Nat.le_of_ble_eq_true rfl⟩ dX4_init_41 (fun h4 => ?_)
  refine ct_sh [(a, .inr (4, [.int 0, .int 0, .ref h1, .ref h2, .ref h3, .null, .null, .null])), (h1, .inl (w.2.2 0, 12, .inl (fun _ => 0))), (h2, .inl (w.2.2 0, 8, .inl (fun _ => 0))), (h3, .inl (w.2.2 0, 8, .inl (fun _ => 0))), (h4, .inl (w.2.2 0, 8, .inl (fun _ => 0)))] 4 36 rfl rfl rfl ?_
  refine ct_putF hX hin [.int 0, .int 0, .ref h1, .ref h2, .ref h3, .ref h4, .null, .null] rfl cf_X4_28 (Nat.le_of_ble_eq_true rfl) rfl rfl dX4_init_43 ?_
  refine ct_aload_n hX 0 dX4_init_46 rfl ?_
  refine ct_bipush hX ctkbi_12 dX4_init_47 ?_
  refine ct_newa hX (N := 12) (by decide) (by decide) (by decide) ⟨Nat.le_of_ble_eq_true rfl, Nat.le_of_ble_eq_true rfl⟩ dX4_init_49 (fun h5 => ?_)
  refine ct_sh [(a, .inr (4, [.int 0, .int 0, .ref h1, .ref h2, .ref h3, .ref h4, .null, .null])), (h1, .inl (w.2.2 0, 12, .inl (fun _ => 0))), (h2, .inl (w.2.2 0, 8, .inl (fun _ => 0))), (h3, .inl (w.2.2 0, 8, .inl (fun _ => 0))), (h4, .inl (w.2.2 0, 8, .inl (fun _ => 0))), (h5, .inl (w.2.2 0, 12, .inl (fun _ => 0)))] 5 48 rfl rfl rfl ?_
  refine ct_putF hX hin [.int 0, .int 0, .ref h1, .ref h2, .ref h3, .ref h4, .ref h5, .null] rfl cf_X4_31 (Nat.le_of_ble_eq_true rfl) rfl rfl dX4_init_51 ?_
  refine ct_aload_n hX 0 dX4_init_54 rfl ?_
  refine ct_bipush hX ctkbi_12 dX4_init_55 ?_
  refine ct_newa hX (N := 12) (by decide) (by decide) (by decide) ⟨Nat.le_of_ble_eq_true rfl, Nat.le_of_ble_eq_true rfl⟩ dX4_init_57 (fun h6 => ?_)
  refine ct_sh [(a, .inr (4, [.int 0, .int 0, .ref h1, .ref h2, .ref h3, .ref h4, .ref h5, .null])), (h1, .inl (w.2.2 0, 12, .inl (fun _ => 0))), (h2, .inl (w.2.2 0, 8, .inl (fun _ => 0))), (h3, .inl (w.2.2 0, 8, .inl (fun _ => 0))), (h4, .inl (w.2.2 0, 8, .inl (fun _ => 0))), (h5, .inl (w.2.2 0, 12, .inl (fun _ => 0))), (h6, .inl (w.2.2 0, 12, .inl (fun _ => 0)))] 6 60 rfl rfl rfl ?_
  refine ct_putF hX hin [.int 0, .int 0, .ref h1, .ref h2, .ref h3, .ref h4, .ref h5, .ref h6] rfl cf_X4_34 (Nat.le_of_ble_eq_true rfl) rfl rfl dX4_init_59 ?_
  exact hret _ _ _ dX4_init_62 (ct_same ⟨h1, h2, h3, h4, h5, h6, rfl⟩)
theorem k_X5 (w : bk_W) (a : Nat) : ct_M w yX5_init cX5_init 1 1 20 1 60 [.ref a] [(a, .inr (5, [.int 0, .int 0, .null]))] (fun ws1 => ∃ h1, ws1 = [(a, .inr (5, [.int 0, .int (-1), .ref h1])), (h1, .inl (w.2.2 0, 60, .inl (fun _ => 0)))]) := by
  refine ct_m (by decide) rfl (Nat.le_of_ble_eq_true rfl) (fun X hX hin hret => ?_)
  show ct_At w X 0 [(0, .ref a)] [] [(a, .inr (5, [.int 0, .int 0, .null]))] 0 0
  refine ct_aload_n hX 0 dX5_init_0 rfl ?_
  refine ct_objInit hX lk_X5_3 (Nat.le_of_ble_eq_true rfl) (Nat.le_of_ble_eq_true rfl) (Nat.le_of_ble_eq_true rfl) dX5_init_1 ?_
  refine ct_aload_n hX 0 dX5_init_4 rfl ?_
  refine ct_iconst hX ctkic_0 dX5_init_5 ?_
  refine ct_putN hX [.int 0, .int 0, .null] rfl cf_X5_9 (Nat.le_of_ble_eq_true rfl) rfl rfl dX5_init_6 ?_
  refine ct_aload_n hX 0 dX5_init_9 rfl ?_
  refine ct_iconst hX ctkic_m1 dX5_init_10 ?_
  refine ct_putN hX [.int 0, .int (-1), .null] rfl cf_X5_15 (Nat.le_of_ble_eq_true rfl) rfl rfl dX5_init_11 ?_
  refine ct_aload_n hX 0 dX5_init_14 rfl ?_
  refine ct_bipush hX ctkbi_60 dX5_init_15 ?_
  refine ct_newa hX (N := 60) (by decide) (by decide) (by decide) ⟨Nat.le_of_ble_eq_true rfl, Nat.le_of_ble_eq_true rfl⟩ dX5_init_17 (fun h1 => ?_)
  refine ct_sh [(a, .inr (5, [.int 0, .int (-1), .null])), (h1, .inl (w.2.2 0, 60, .inl (fun _ => 0)))] 1 60 rfl rfl rfl ?_
  refine ct_putF hX hin [.int 0, .int (-1), .ref h1] rfl cf_X5_18 (Nat.le_of_ble_eq_true rfl) rfl rfl dX5_init_19 ?_
  exact hret _ _ _ dX5_init_22 (ct_same ⟨h1, rfl⟩)
theorem k_X6 (w : bk_W) (a : Nat) {x v : Int32} (hv : (if 31 < x then 31 else x) = v) : ct_M w yX6_init cX6_init 2 1 20 1 31 [.ref a, .int x] [(a, .inr (6, [.null, .int 0, .int 0]))] (fun ws1 => ∃ h1, ws1 = [(a, .inr (6, [.ref h1, .int v, .int 0])), (h1, .inl (w.2.2 0, 31, .inl (fun _ => 0)))]) := by
  refine ct_m (by decide) rfl (Nat.le_of_ble_eq_true rfl) (fun X hX hin hret => ?_)
  show ct_At w X 0 [(0, .ref a), (1, .int x)] [] [(a, .inr (6, [.null, .int 0, .int 0]))] 0 0
  refine ct_aload_n hX 0 dX6_init_0 rfl ?_
  refine ct_objInit hX lk_X6_3 (Nat.le_of_ble_eq_true rfl) (Nat.le_of_ble_eq_true rfl) (Nat.le_of_ble_eq_true rfl) dX6_init_1 ?_
  refine ct_aload_n hX 0 dX6_init_4 rfl ?_
  refine ct_bipush hX ctkbi_31 dX6_init_5 ?_
  refine ct_newa hX (N := 31) (by decide) (by decide) (by decide) ⟨Nat.le_of_ble_eq_true rfl, Nat.le_of_ble_eq_true rfl⟩ dX6_init_7 (fun h1 => ?_)
  refine ct_sh [(a, .inr (6, [.null, .int 0, .int 0])), (h1, .inl (w.2.2 0, 31, .inl (fun _ => 0)))] 1 31 rfl rfl rfl ?_
  refine ct_putF hX hin [.ref h1, .int 0, .int 0] rfl cf_X6_9 (Nat.le_of_ble_eq_true rfl) rfl rfl dX6_init_9 ?_
  refine ct_aload_n hX 0 dX6_init_12 rfl ?_
  refine ct_iconst hX ctkic_0 dX6_init_13 ?_
  refine ct_putN hX [.ref h1, .int 0, .int 0] rfl cf_X6_15 (Nat.le_of_ble_eq_true rfl) rfl rfl dX6_init_14 ?_
  refine ct_aload_n hX 0 dX6_init_17 rfl ?_
  refine ct_iload_n hX 1 dX6_init_18 rfl ?_
  refine ct_bipush hX ctkbi_31 dX6_init_19 ?_
  refine ct_min hX lk_X6_19 hv (Nat.le_of_ble_eq_true rfl) (Nat.le_of_ble_eq_true rfl) ⟨Nat.le_of_ble_eq_true rfl, Nat.le_of_ble_eq_true rfl⟩ dX6_init_21 ?_
  refine ct_putF hX hin [.ref h1, .int v, .int 0] rfl cf_X6_25 (Nat.le_of_ble_eq_true rfl) rfl rfl dX6_init_24 ?_
  exact hret _ _ _ dX6_init_27 (ct_same ⟨h1, rfl⟩)
theorem k_X7 (w : bk_W) (a : Nat) : ct_M w yX7_init cX7_init 1 1 20 3 24 [.ref a] [(a, .inr (7, [.null, .null, .null, .int 0]))] (fun ws1 => ∃ h1 h2 h3, ws1 = [(a, .inr (7, [.ref h1, .ref h2, .ref h3, .int 0])), (h1, .inl (w.2.2 0, 8, .inl (fun _ => 0))), (h2, .inl (w.2.2 0, 8, .inl (fun _ => 0))), (h3, .inl (w.2.2 0, 8, .inl (fun _ => 0)))]) := by
  refine ct_m (by decide) rfl (Nat.le_of_ble_eq_true rfl) (fun X hX hin hret => ?_)
  show ct_At w X 0 [(0, .ref a)] [] [(a, .inr (7, [.null, .null, .null, .int 0]))] 0 0
  refine ct_aload_n hX 0 dX7_init_0 rfl ?_
  refine ct_objInit hX lk_X7_3 (Nat.le_of_ble_eq_true rfl) (Nat.le_of_ble_eq_true rfl) (Nat.le_of_ble_eq_true rfl) dX7_init_1 ?_
  refine ct_aload_n hX 0 dX7_init_4 rfl ?_
  refine ct_bipush hX ctkbi_8 dX7_init_5 ?_
  refine ct_newa hX (N := 8) (by decide) (by decide) (by decide) ⟨Nat.le_of_ble_eq_true rfl, Nat.le_of_ble_eq_true rfl⟩ dX7_init_7 (fun h1 => ?_)
  refine ct_sh [(a, .inr (7, [.null, .null, .null, .int 0])), (h1, .inl (w.2.2 0, 8, .inl (fun _ => 0)))] 1 8 rfl rfl rfl ?_
  refine ct_putF hX hin [.ref h1, .null, .null, .int 0] rfl cf_X7_9 (Nat.le_of_ble_eq_true rfl) rfl rfl dX7_init_9 ?_
  refine ct_aload_n hX 0 dX7_init_12 rfl ?_
  refine ct_bipush hX ctkbi_8 dX7_init_13 ?_
  refine ct_newa hX (N := 8) (by decide) (by decide) (by decide) ⟨Nat.le_of_ble_eq_true rfl, Nat.le_of_ble_eq_true rfl⟩ dX7_init_15 (fun h2 => ?_)
  refine ct_sh [(a, .inr (7, [.ref h1, .null, .null, .int 0])), (h1, .inl (w.2.2 0, 8, .inl (fun _ => 0))), (h2, .inl (w.2.2 0, 8, .inl (fun _ => 0)))] 2 16 rfl rfl rfl ?_
  refine ct_putF hX hin [.ref h1, .ref h2, .null, .int 0] rfl cf_X7_15 (Nat.le_of_ble_eq_true rfl) rfl rfl dX7_init_17 ?_
  refine ct_aload_n hX 0 dX7_init_20 rfl ?_
  refine ct_bipush hX ctkbi_8 dX7_init_21 ?_
  refine ct_newa hX (N := 8) (by decide) (by decide) (by decide) ⟨Nat.le_of_ble_eq_true rfl, Nat.le_of_ble_eq_true rfl⟩ dX7_init_23 (fun h3 => ?_)
  refine ct_sh [(a, .inr (7, [.ref h1, .ref h2, .null, .int 0])), (h1, .inl (w.2.2 0, 8, .inl (fun _ => 0))), (h2, .inl (w.2.2 0, 8, .inl (fun _ => 0))), (h3, .inl (w.2.2 0, 8, .inl (fun _ => 0)))] 3 24 rfl rfl rfl ?_
  refine ct_putF hX hin [.ref h1, .ref h2, .ref h3, .int 0] rfl cf_X7_18 (Nat.le_of_ble_eq_true rfl) rfl rfl dX7_init_25 ?_
  refine ct_aload_n hX 0 dX7_init_28 rfl ?_
  refine ct_iconst hX ctkic_0 dX7_init_29 ?_
  refine ct_putN hX [.ref h1, .ref h2, .ref h3, .int 0] rfl cf_X7_21 (Nat.le_of_ble_eq_true rfl) rfl rfl dX7_init_30 ?_
  exact hret _ _ _ dX7_init_33 (ct_same ⟨h1, h2, h3, rfl⟩)
