def lyC_t : List ((Nat × Nat) ⊕ ((Nat × List (Option Nat)) ⊕ (Nat × (Nat → Nat)))) := [.inr (.inl (8, [some 1, some 3, some 5, some 9, some 13, some 22, some 29, some 36, some 48, some 60, some 61, some 63, some 64, none, none, none])),
  .inr (.inl (6, [some (1 + 1), none, none])),
  .inl (0, 31),
  .inr (.inl (6, [some (3 + 1), none, none])),
  .inl (0, 31),
  .inr (.inl (7, [some (5 + 1), some (5 + 2), some (5 + 3), none])),
  .inl (0, 8),
  .inl (0, 8),
  .inl (0, 8),
  .inr (.inl (7, [some (9 + 1), some (9 + 2), some (9 + 3), none])),
  .inl (0, 8),
  .inl (0, 8),
  .inl (0, 8),
  .inr (.inr (4, fun j => 14 + 2 * j)),
  .inr (.inl (5, [none, none, some (14 + 1)])),
  .inl (0, 60),
  .inr (.inl (5, [none, none, some (16 + 1)])),
  .inl (0, 60),
  .inr (.inl (5, [none, none, some (18 + 1)])),
  .inl (0, 60),
  .inr (.inl (5, [none, none, some (20 + 1)])),
  .inl (0, 60),
  .inr (.inl (4, [none, none, some (22 + 1), some (22 + 2), some (22 + 3), some (22 + 4), some (22 + 5), some (22 + 6)])),
  .inl (0, 12),
  .inl (0, 8),
  .inl (0, 8),
  .inl (0, 8),
  .inl (0, 12),
  .inl (0, 12),
  .inr (.inl (4, [none, none, some (29 + 1), some (29 + 2), some (29 + 3), some (29 + 4), some (29 + 5), some (29 + 6)])),
  .inl (0, 12),
  .inl (0, 8),
  .inl (0, 8),
  .inl (0, 8),
  .inl (0, 12),
  .inl (0, 12),
  .inr (.inl (1, [some (36 + 1), some (36 + 2), some (36 + 3), some (36 + 4), some (36 + 5), some (36 + 6), some (36 + 7), some (36 + 8), some (36 + 9), some (36 + 10), some (36 + 11), none])),
  .inl (0, 8),
  .inl (0, 8),
  .inl (0, 8),
  .inl (0, 8),
  .inl (0, 96),
  .inl (0, 96),
  .inl (0, 144),
  .inl (0, 12),
  .inl (0, 12),
  .inl (0, 12),
  .inl (0, 12),
  .inr (.inl (1, [some (48 + 1), some (48 + 2), some (48 + 3), some (48 + 4), some (48 + 5), some (48 + 6), some (48 + 7), some (48 + 8), some (48 + 9), some (48 + 10), some (48 + 11), none])),
  .inl (0, 8),
  .inl (0, 8),
  .inl (0, 8),
  .inl (0, 8),
  .inl (0, 96),
  .inl (0, 96),
  .inl (0, 144),
  .inl (0, 12),
  .inl (0, 12),
  .inl (0, 12),
  .inl (0, 12),
  .inr (.inl (0, [none, none, none, none, none])),
  .inr (.inl (2, [none, some (61 + 1)])),
  .inl (0, 120),
  .inr (.inl (3, [none])),
  .inl (0, 256)]
def lyC : bk_Y := (fun k => lyC_t.getD k (.inl (0, 0)), 65)
def lyM_t : List ((Nat × Nat) ⊕ ((Nat × List (Option Nat)) ⊕ (Nat × (Nat → Nat)))) := [.inr (.inl (9, [some 1, some 2, none, some 4, none, some 6, some 7, some 8, none, some 10, some 11, some 12, none, some 14, some 15, some 16, none, none, none, none, none, none, none, none, none, none, none, none, none, none, none, none, some 33, some 34, some 35, some 36, some 37, some 38, some 39, some 40, some 41, some 42, none, none, none, some 46, none, some 48, some 49, some 50, some 51, some 52, some 53, some 54, some 55, some 56, none])),
  .inl (0, 2),
  .inl (0, 62),
  .inl (0, 0),
  .inl (0, 12),
  .inl (0, 0),
  .inl (0, 9),
  .inl (0, 9),
  .inl (0, 9),
  .inl (0, 0),
  .inl (0, 8),
  .inl (0, 8),
  .inl (0, 8),
  .inl (0, 0),
  .inl (0, 8),
  .inl (0, 8),
  .inl (0, 8),
  .inl (0, 0),
  .inl (0, 0),
  .inl (0, 0),
  .inl (0, 0),
  .inl (0, 0),
  .inl (0, 0),
  .inl (0, 0),
  .inl (0, 0),
  .inl (0, 0),
  .inl (0, 0),
  .inl (0, 0),
  .inl (0, 0),
  .inl (0, 0),
  .inl (0, 0),
  .inl (0, 0),
  .inl (0, 0),
  .inl (0, 8),
  .inl (0, 8),
  .inl (0, 8),
  .inl (0, 8),
  .inl (0, 8),
  .inl (0, 96),
  .inl (0, 96),
  .inl (0, 144),
  .inl (0, 48),
  .inl (0, 12),
  .inl (0, 0),
  .inl (0, 0),
  .inl (0, 0),
  .inl (0, 2),
  .inl (0, 0),
  .inl (0, 8),
  .inl (0, 8),
  .inl (0, 8),
  .inl (0, 120),
  .inl (1, 4),
  .inl (0, 4),
  .inl (0, 4),
  .inl (0, 240),
  .inl (0, 60),
  .inl (0, 0)]
def lyM : bk_Y := (fun k => lyM_t.getD k (.inl (0, 0)), 58)
theorem kc_0 : bk_is lyC 0 (.inr (.inl (8, [some 1, some 3, some 5, some 9, some 13, some 22, some 29, some 36, some 48, some 60, some 61, some 63, some 64, none, none, none]))) := ⟨rfl, Nat.le_of_ble_eq_true rfl, rfl⟩
theorem kc_13 : bk_is lyC 13 (.inr (.inr (4, fun j => 14 + 2 * j))) := ⟨rfl, Nat.le_of_ble_eq_true rfl, rfl⟩
theorem kc_64 : bk_is lyC 64 (.inl (0, 256)) := ⟨rfl, Nat.le_of_ble_eq_true rfl, rfl⟩
def bk_txt (b : Nat) : Prop := bk_is lyC b (.inr (.inl (6, [some (b + 1), none, none]))) ∧ bk_is lyC (b + 1) (.inl (0, 31))
theorem k_txt_1 : bk_txt 1 := ⟨⟨rfl, Nat.le_of_ble_eq_true rfl, rfl⟩, ⟨rfl, Nat.le_of_ble_eq_true rfl, rfl⟩⟩
theorem k_txt_3 : bk_txt 3 := ⟨⟨rfl, Nat.le_of_ble_eq_true rfl, rfl⟩, ⟨rfl, Nat.le_of_ble_eq_true rfl, rfl⟩⟩
def bk_tri (b : Nat) : Prop := bk_is lyC b (.inr (.inl (7, [some (b + 1), some (b + 2), some (b + 3), none]))) ∧ bk_is lyC (b + 1) (.inl (0, 8)) ∧ bk_is lyC (b + 2) (.inl (0, 8)) ∧ bk_is lyC (b + 3) (.inl (0, 8))
theorem k_tri_5 : bk_tri 5 := ⟨⟨rfl, Nat.le_of_ble_eq_true rfl, rfl⟩, ⟨rfl, Nat.le_of_ble_eq_true rfl, rfl⟩, ⟨rfl, Nat.le_of_ble_eq_true rfl, rfl⟩, ⟨rfl, Nat.le_of_ble_eq_true rfl, rfl⟩⟩
theorem k_tri_9 : bk_tri 9 := ⟨⟨rfl, Nat.le_of_ble_eq_true rfl, rfl⟩, ⟨rfl, Nat.le_of_ble_eq_true rfl, rfl⟩, ⟨rfl, Nat.le_of_ble_eq_true rfl, rfl⟩, ⟨rfl, Nat.le_of_ble_eq_true rfl, rfl⟩⟩
def bk_sht (b : Nat) : Prop := bk_is lyC b (.inr (.inl (5, [none, none, some (b + 1)]))) ∧ bk_is lyC (b + 1) (.inl (0, 60))
theorem k_sht_14 : bk_sht 14 := ⟨⟨rfl, Nat.le_of_ble_eq_true rfl, rfl⟩, ⟨rfl, Nat.le_of_ble_eq_true rfl, rfl⟩⟩
theorem k_sht_16 : bk_sht 16 := ⟨⟨rfl, Nat.le_of_ble_eq_true rfl, rfl⟩, ⟨rfl, Nat.le_of_ble_eq_true rfl, rfl⟩⟩
theorem k_sht_18 : bk_sht 18 := ⟨⟨rfl, Nat.le_of_ble_eq_true rfl, rfl⟩, ⟨rfl, Nat.le_of_ble_eq_true rfl, rfl⟩⟩
theorem k_sht_20 : bk_sht 20 := ⟨⟨rfl, Nat.le_of_ble_eq_true rfl, rfl⟩, ⟨rfl, Nat.le_of_ble_eq_true rfl, rfl⟩⟩
def bk_set (b : Nat) : Prop := bk_is lyC b (.inr (.inl (4, [none, none, some (b + 1), some (b + 2), some (b + 3), some (b + 4), some (b + 5), some (b + 6)]))) ∧ bk_is lyC (b + 1) (.inl (0, 12)) ∧ bk_is lyC (b + 2) (.inl (0, 8)) ∧ bk_is lyC (b + 3) (.inl (0, 8)) ∧ bk_is lyC (b + 4) (.inl (0, 8)) ∧ bk_is lyC (b + 5) (.inl (0, 12)) ∧ bk_is lyC (b + 6) (.inl (0, 12))
theorem k_set_22 : bk_set 22 := ⟨⟨rfl, Nat.le_of_ble_eq_true rfl, rfl⟩, ⟨rfl, Nat.le_of_ble_eq_true rfl, rfl⟩, ⟨rfl, Nat.le_of_ble_eq_true rfl, rfl⟩, ⟨rfl, Nat.le_of_ble_eq_true rfl, rfl⟩, ⟨rfl, Nat.le_of_ble_eq_true rfl, rfl⟩, ⟨rfl, Nat.le_of_ble_eq_true rfl, rfl⟩, ⟨rfl, Nat.le_of_ble_eq_true rfl, rfl⟩⟩
theorem k_set_29 : bk_set 29 := ⟨⟨rfl, Nat.le_of_ble_eq_true rfl, rfl⟩, ⟨rfl, Nat.le_of_ble_eq_true rfl, rfl⟩, ⟨rfl, Nat.le_of_ble_eq_true rfl, rfl⟩, ⟨rfl, Nat.le_of_ble_eq_true rfl, rfl⟩, ⟨rfl, Nat.le_of_ble_eq_true rfl, rfl⟩, ⟨rfl, Nat.le_of_ble_eq_true rfl, rfl⟩, ⟨rfl, Nat.le_of_ble_eq_true rfl, rfl⟩⟩
def bk_crs (b : Nat) : Prop := bk_is lyC b (.inr (.inl (1, [some (b + 1), some (b + 2), some (b + 3), some (b + 4), some (b + 5), some (b + 6), some (b + 7), some (b + 8), some (b + 9), some (b + 10), some (b + 11), none]))) ∧ bk_is lyC (b + 1) (.inl (0, 8)) ∧ bk_is lyC (b + 2) (.inl (0, 8)) ∧ bk_is lyC (b + 3) (.inl (0, 8)) ∧ bk_is lyC (b + 4) (.inl (0, 8)) ∧ bk_is lyC (b + 5) (.inl (0, 96)) ∧ bk_is lyC (b + 6) (.inl (0, 96)) ∧ bk_is lyC (b + 7) (.inl (0, 144)) ∧ bk_is lyC (b + 8) (.inl (0, 12)) ∧ bk_is lyC (b + 9) (.inl (0, 12)) ∧ bk_is lyC (b + 10) (.inl (0, 12)) ∧ bk_is lyC (b + 11) (.inl (0, 12))
theorem k_crs_36 : bk_crs 36 := ⟨⟨rfl, Nat.le_of_ble_eq_true rfl, rfl⟩, ⟨rfl, Nat.le_of_ble_eq_true rfl, rfl⟩, ⟨rfl, Nat.le_of_ble_eq_true rfl, rfl⟩, ⟨rfl, Nat.le_of_ble_eq_true rfl, rfl⟩, ⟨rfl, Nat.le_of_ble_eq_true rfl, rfl⟩, ⟨rfl, Nat.le_of_ble_eq_true rfl, rfl⟩, ⟨rfl, Nat.le_of_ble_eq_true rfl, rfl⟩, ⟨rfl, Nat.le_of_ble_eq_true rfl, rfl⟩, ⟨rfl, Nat.le_of_ble_eq_true rfl, rfl⟩, ⟨rfl, Nat.le_of_ble_eq_true rfl, rfl⟩, ⟨rfl, Nat.le_of_ble_eq_true rfl, rfl⟩, ⟨rfl, Nat.le_of_ble_eq_true rfl, rfl⟩⟩
theorem k_crs_48 : bk_crs 48 := ⟨⟨rfl, Nat.le_of_ble_eq_true rfl, rfl⟩, ⟨rfl, Nat.le_of_ble_eq_true rfl, rfl⟩, ⟨rfl, Nat.le_of_ble_eq_true rfl, rfl⟩, ⟨rfl, Nat.le_of_ble_eq_true rfl, rfl⟩, ⟨rfl, Nat.le_of_ble_eq_true rfl, rfl⟩, ⟨rfl, Nat.le_of_ble_eq_true rfl, rfl⟩, ⟨rfl, Nat.le_of_ble_eq_true rfl, rfl⟩, ⟨rfl, Nat.le_of_ble_eq_true rfl, rfl⟩, ⟨rfl, Nat.le_of_ble_eq_true rfl, rfl⟩, ⟨rfl, Nat.le_of_ble_eq_true rfl, rfl⟩, ⟨rfl, Nat.le_of_ble_eq_true rfl, rfl⟩, ⟨rfl, Nat.le_of_ble_eq_true rfl, rfl⟩⟩
def bk_cho (b : Nat) : Prop := bk_is lyC b (.inr (.inl (0, [none, none, none, none, none])))
theorem k_cho_60 : bk_cho 60 := ⟨rfl, Nat.le_of_ble_eq_true rfl, rfl⟩
def bk_hea (b : Nat) : Prop := bk_is lyC b (.inr (.inl (2, [none, some (b + 1)]))) ∧ bk_is lyC (b + 1) (.inl (0, 120))
theorem k_hea_61 : bk_hea 61 := ⟨⟨rfl, Nat.le_of_ble_eq_true rfl, rfl⟩, ⟨rfl, Nat.le_of_ble_eq_true rfl, rfl⟩⟩
def bk_lot (b : Nat) : Prop := bk_is lyC b (.inr (.inl (3, [none])))
theorem k_lot_63 : bk_lot 63 := ⟨rfl, Nat.le_of_ble_eq_true rfl, rfl⟩
theorem k_sht_of {x : Int32} (h : vp_in x 4) : bk_sht (14 + 2 * x.toNatClampNeg) := by
  obtain ⟨j, hj, rfl⟩ := vp_in_of h (by decide)
  rw [nI_clamp (by omega)]
  match j, hj with
  | 0, _ => exact k_sht_14
  | 1, _ => exact k_sht_16
  | 2, _ => exact k_sht_18
  | 3, _ => exact k_sht_20
theorem km_o : bk_is lyM 0 (.inr (.inl (9, [some 1, some 2, none, some 4, none, some 6, some 7, some 8, none, some 10, some 11, some 12, none, some 14, some 15, some 16, none, none, none, none, none, none, none, none, none, none, none, none, none, none, none, none, some 33, some 34, some 35, some 36, some 37, some 38, some 39, some 40, some 41, some 42, none, none, none, some 46, none, some 48, some 49, some 50, some 51, some 52, some 53, some 54, some 55, some 56, none]))) := ⟨rfl, Nat.le_of_ble_eq_true rfl, rfl⟩
theorem km_1 : bk_is lyM 1 (.inl (0, 2)) := ⟨rfl, Nat.le_of_ble_eq_true rfl, rfl⟩
theorem km_2 : bk_is lyM 2 (.inl (0, 62)) := ⟨rfl, Nat.le_of_ble_eq_true rfl, rfl⟩
theorem km_4 : bk_is lyM 4 (.inl (0, 12)) := ⟨rfl, Nat.le_of_ble_eq_true rfl, rfl⟩
theorem km_6 : bk_is lyM 6 (.inl (0, 9)) := ⟨rfl, Nat.le_of_ble_eq_true rfl, rfl⟩
theorem km_7 : bk_is lyM 7 (.inl (0, 9)) := ⟨rfl, Nat.le_of_ble_eq_true rfl, rfl⟩
theorem km_8 : bk_is lyM 8 (.inl (0, 9)) := ⟨rfl, Nat.le_of_ble_eq_true rfl, rfl⟩
theorem km_10 : bk_is lyM 10 (.inl (0, 8)) := ⟨rfl, Nat.le_of_ble_eq_true rfl, rfl⟩
theorem km_11 : bk_is lyM 11 (.inl (0, 8)) := ⟨rfl, Nat.le_of_ble_eq_true rfl, rfl⟩
theorem km_12 : bk_is lyM 12 (.inl (0, 8)) := ⟨rfl, Nat.le_of_ble_eq_true rfl, rfl⟩
theorem km_14 : bk_is lyM 14 (.inl (0, 8)) := ⟨rfl, Nat.le_of_ble_eq_true rfl, rfl⟩
theorem km_15 : bk_is lyM 15 (.inl (0, 8)) := ⟨rfl, Nat.le_of_ble_eq_true rfl, rfl⟩
theorem km_16 : bk_is lyM 16 (.inl (0, 8)) := ⟨rfl, Nat.le_of_ble_eq_true rfl, rfl⟩
theorem km_33 : bk_is lyM 33 (.inl (0, 8)) := ⟨rfl, Nat.le_of_ble_eq_true rfl, rfl⟩
theorem km_34 : bk_is lyM 34 (.inl (0, 8)) := ⟨rfl, Nat.le_of_ble_eq_true rfl, rfl⟩
theorem km_35 : bk_is lyM 35 (.inl (0, 8)) := ⟨rfl, Nat.le_of_ble_eq_true rfl, rfl⟩
theorem km_36 : bk_is lyM 36 (.inl (0, 8)) := ⟨rfl, Nat.le_of_ble_eq_true rfl, rfl⟩
theorem km_37 : bk_is lyM 37 (.inl (0, 8)) := ⟨rfl, Nat.le_of_ble_eq_true rfl, rfl⟩
theorem km_38 : bk_is lyM 38 (.inl (0, 96)) := ⟨rfl, Nat.le_of_ble_eq_true rfl, rfl⟩
theorem km_39 : bk_is lyM 39 (.inl (0, 96)) := ⟨rfl, Nat.le_of_ble_eq_true rfl, rfl⟩
theorem km_40 : bk_is lyM 40 (.inl (0, 144)) := ⟨rfl, Nat.le_of_ble_eq_true rfl, rfl⟩
theorem km_41 : bk_is lyM 41 (.inl (0, 48)) := ⟨rfl, Nat.le_of_ble_eq_true rfl, rfl⟩
theorem km_42 : bk_is lyM 42 (.inl (0, 12)) := ⟨rfl, Nat.le_of_ble_eq_true rfl, rfl⟩
theorem km_46 : bk_is lyM 46 (.inl (0, 2)) := ⟨rfl, Nat.le_of_ble_eq_true rfl, rfl⟩
theorem km_48 : bk_is lyM 48 (.inl (0, 8)) := ⟨rfl, Nat.le_of_ble_eq_true rfl, rfl⟩
theorem km_49 : bk_is lyM 49 (.inl (0, 8)) := ⟨rfl, Nat.le_of_ble_eq_true rfl, rfl⟩
theorem km_50 : bk_is lyM 50 (.inl (0, 8)) := ⟨rfl, Nat.le_of_ble_eq_true rfl, rfl⟩
theorem km_51 : bk_is lyM 51 (.inl (0, 120)) := ⟨rfl, Nat.le_of_ble_eq_true rfl, rfl⟩
theorem km_52 : bk_is lyM 52 (.inl (1, 4)) := ⟨rfl, Nat.le_of_ble_eq_true rfl, rfl⟩
theorem km_53 : bk_is lyM 53 (.inl (0, 4)) := ⟨rfl, Nat.le_of_ble_eq_true rfl, rfl⟩
theorem km_54 : bk_is lyM 54 (.inl (0, 4)) := ⟨rfl, Nat.le_of_ble_eq_true rfl, rfl⟩
theorem km_55 : bk_is lyM 55 (.inl (0, 240)) := ⟨rfl, Nat.le_of_ble_eq_true rfl, rfl⟩
theorem km_56 : bk_is lyM 56 (.inl (0, 60)) := ⟨rfl, Nat.le_of_ble_eq_true rfl, rfl⟩
