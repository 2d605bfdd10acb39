/-! The start: what the constructors leave. -/
def tz0 : bk_S := fun _ _ => 0
def sg_z : Nat → Int32 := fun _ => 0
def sg_0 : Nat → Int32 := fun j => ([0, 0, 0, 0, 0, 0, 0, 0, 0, 0, 0, 0, 0, 1, 1, 0] : List Int32).getD j 0
def sg_1 : Nat → Int32 := fun j => ([0, 12, 0] : List Int32).getD j 0
def sg_3 : Nat → Int32 := fun j => ([0, 31, 0] : List Int32).getD j 0
def sg_s : Nat → Int32 := fun j => ([0, -1, 0] : List Int32).getD j 0
def sg_c : Nat → Int32 := fun j => ([0, -1, -1, -1, -1] : List Int32).getD j 0
def sg_t : List (Nat → Int32) := [sg_0, sg_1, sg_z, sg_3, sg_z, sg_z, sg_z, sg_z, sg_z, sg_z, sg_z, sg_z, sg_z, sg_z, sg_s, sg_z, sg_s, sg_z, sg_s, sg_z, sg_s, sg_z, sg_z, sg_z, sg_z, sg_z, sg_z, sg_z, sg_z, sg_z, sg_z, sg_z, sg_z, sg_z, sg_z, sg_z, sg_z, sg_z, sg_z, sg_z, sg_z, sg_z, sg_z, sg_z, sg_z, sg_z, sg_z, sg_z, sg_z, sg_z, sg_z, sg_z, sg_z, sg_z, sg_z, sg_z, sg_z, sg_z, sg_z, sg_z, sg_c, sg_z, sg_z, sg_z, sg_z]
def sg0 : bk_S := fun k => sg_t.getD k sg_z
theorem ct_up {Y : bk_Y} {w : bk_W} {σ : bk_S} {n : Nat} {t E : va_W} {x : va_E} (hr : bk_rl Y n = true) (h2 : bk_cell Y w σ n = x) (h : bk_wf Y w σ n ++ ((bk_r w n, x) :: t) = E) : bk_wf Y w σ (n + 1) ++ t = E := by
  rw [bk_wf, if_pos hr, h2, List.append_assoc]; exact h
theorem ct_skip {Y : bk_Y} {w : bk_W} {σ : bk_S} {n : Nat} {t E : va_W} (hr : bk_rl Y n = false) (h : bk_wf Y w σ n ++ t = E) : bk_wf Y w σ (n + 1) ++ t = E := by
  rw [bk_wf, if_neg (by rw [hr]; decide)]; exact h
theorem ct_sh {w : bk_W} {X : bk_X} {pc c0 s0 : Nat} {lv : List (Nat × Value)} {st : List Value} {ws : va_W} (ws' : va_W) (c' s' : Nat) (h1 : ws = ws') (h2 : c0 = c') (h3 : s0 = s') (k : ct_At w X pc lv st ws' c' s') : ct_At w X pc lv st ws c0 s0 := by subst h1; subst h2; subst h3; exact k
theorem ct_swapP {D : va_G} {cl : List vw_C} {ws : va_W} {H : Heap} {i a N : Nat} {cA : ClassId} {f f' : Nat → Option Nat} (hP : va_P D cl ws H) (hi : ws[i]? = some (a, .inl (cA, N, .inr (.inr (.inr (.inr f)))))) (hf : ∀ j, j < N → f j = f' j) : va_P D cl (ws.set i (a, .inl (cA, N, .inr (.inr (.inr (.inr f')))))) H := by
  intro k q hk
  rw [List.getElem?_set] at hk
  by_cases h : i = k
  · subst h
    rw [if_pos rfl, if_pos (List.getElem?_eq_some_iff.mp hi).1] at hk
    cases hk
    have h0 : H[a]? = some (vp_cell cA (N, .inr (.inr (.inr (.inr f))))) := hP i _ hi
    show H[a]? = some (vp_cell cA (N, .inr (.inr (.inr (.inr f')))))
    rw [h0, vp_cell_q, vp_cell_q]
    unfold arrV
    congr 2
    congr 1
    funext j
    show va_rf (f j.val) = va_rf (f' j.val)
    rw [hf j.val j.isLt]
  · rw [if_neg h] at hk
    exact hP k q hk
theorem ctkic_0 : Int32.ofInt (0) = (0 : Int32) := by decide
theorem cf_X0_9 : ct_Fp RX0 9 0 0 .boolean false := ⟨RX0, TX0, 5, tyX0, rfl, inX0, by decide, bk_in 268 (by decide +kernel) rfl, tyX0_ok, nmX0, rfl, by decide +kernel, rfl⟩
theorem ctkic_m1 : Int32.ofInt (-1) = (-1 : Int32) := by decide
theorem cf_X0_15 : ct_Fp RX0 15 0 1 .int false := ⟨RX0, TX0, 5, tyX0, rfl, inX0, by decide, bk_in 269 (by decide +kernel) rfl, tyX0_ok, nmX0, rfl, by decide +kernel, rfl⟩
theorem cf_X0_19 : ct_Fp RX0 19 0 2 .int false := ⟨RX0, TX0, 5, tyX0, rfl, inX0, by decide, bk_in 270 (by decide +kernel) rfl, tyX0_ok, nmX0, rfl, by decide +kernel, rfl⟩
theorem cf_X0_22 : ct_Fp RX0 22 0 3 .int false := ⟨RX0, TX0, 5, tyX0, rfl, inX0, by decide, bk_in 271 (by decide +kernel) rfl, tyX0_ok, nmX0, rfl, by decide +kernel, rfl⟩
theorem cf_X0_25 : ct_Fp RX0 25 0 4 .int false := ⟨RX0, TX0, 5, tyX0, rfl, inX0, by decide, bk_in 272 (by decide +kernel) rfl, tyX0_ok, nmX0, rfl, by decide +kernel, rfl⟩
theorem ctkbi_8 : (Int8.ofInt (8)).toInt32 = (8 : Int32) := by decide
theorem cf_X1_9 : ct_Fp RX1 9 1 0 (.array .int) true := ⟨RX1, TX1, 12, tyX1, rfl, inX1, by decide, bk_in 218 (by decide +kernel) rfl, tyX1_ok, nmX1, rfl, by decide +kernel, rfl⟩
theorem cf_X1_15 : ct_Fp RX1 15 1 1 (.array .int) true := ⟨RX1, TX1, 12, tyX1, rfl, inX1, by decide, bk_in 219 (by decide +kernel) rfl, tyX1_ok, nmX1, rfl, by decide +kernel, rfl⟩
theorem cf_X1_18 : ct_Fp RX1 18 1 2 (.array .int) true := ⟨RX1, TX1, 12, tyX1, rfl, inX1, by decide, bk_in 221 (by decide +kernel) rfl, tyX1_ok, nmX1, rfl, by decide +kernel, rfl⟩
theorem cf_X1_21 : ct_Fp RX1 21 1 3 (.array .int) true := ⟨RX1, TX1, 12, tyX1, rfl, inX1, by decide, bk_in 223 (by decide +kernel) rfl, tyX1_ok, nmX1, rfl, by decide +kernel, rfl⟩
theorem ctkbi_96 : (Int8.ofInt (96)).toInt32 = (96 : Int32) := by decide
theorem cf_X1_24 : ct_Fp RX1 24 1 4 (.array .int) true := ⟨RX1, TX1, 12, tyX1, rfl, inX1, by decide, bk_in 224 (by decide +kernel) rfl, tyX1_ok, nmX1, rfl, by decide +kernel, rfl⟩
theorem cf_X1_27 : ct_Fp RX1 27 1 5 (.array .int) true := ⟨RX1, TX1, 12, tyX1, rfl, inX1, by decide, bk_in 226 (by decide +kernel) rfl, tyX1_ok, nmX1, rfl, by decide +kernel, rfl⟩
theorem ctksi_144 : (Int16.ofInt (144)).toInt32 = (144 : Int32) := by decide
theorem cf_X1_30 : ct_Fp RX1 30 1 6 (.array .int) true := ⟨RX1, TX1, 12, tyX1, rfl, inX1, by decide, bk_in 228 (by decide +kernel) rfl, tyX1_ok, nmX1, rfl, by decide +kernel, rfl⟩
theorem ctkbi_12 : (Int8.ofInt (12)).toInt32 = (12 : Int32) := by decide
theorem cf_X1_33 : ct_Fp RX1 33 1 7 (.array .int) true := ⟨RX1, TX1, 12, tyX1, rfl, inX1, by decide, bk_in 230 (by decide +kernel) rfl, tyX1_ok, nmX1, rfl, by decide +kernel, rfl⟩
theorem cf_X1_36 : ct_Fp RX1 36 1 8 (.array .int) true := ⟨RX1, TX1, 12, tyX1, rfl, inX1, by decide, bk_in 231 (by decide +kernel) rfl, tyX1_ok, nmX1, rfl, by decide +kernel, rfl⟩
theorem cf_X1_39 : ct_Fp RX1 39 1 9 (.array .int) true := ⟨RX1, TX1, 12, tyX1, rfl, inX1, by decide, bk_in 233 (by decide +kernel) rfl, tyX1_ok, nmX1, rfl, by decide +kernel, rfl⟩
theorem cf_X1_42 : ct_Fp RX1 42 1 10 (.array .int) true := ⟨RX1, TX1, 12, tyX1, rfl, inX1, by decide, bk_in 234 (by decide +kernel) rfl, tyX1_ok, nmX1, rfl, by decide +kernel, rfl⟩
theorem cf_X1_45 : ct_Fp RX1 45 1 11 .int false := ⟨RX1, TX1, 12, tyX1, rfl, inX1, by decide, bk_in 235 (by decide +kernel) rfl, tyX1_ok, nmX1, rfl, by decide +kernel, rfl⟩
theorem cf_X2_9 : ct_Fp RX2 9 2 0 .int false := ⟨RX2, TX2, 2, tyX2, rfl, inX2, by decide, bk_in 290 (by decide +kernel) rfl, tyX2_ok, nmX2, rfl, by decide +kernel, rfl⟩
theorem ctkbi_120 : (Int8.ofInt (120)).toInt32 = (120 : Int32) := by decide
theorem cf_X2_15 : ct_Fp RX2 15 2 1 (.array .int) true := ⟨RX2, TX2, 2, tyX2, rfl, inX2, by decide, bk_in 292 (by decide +kernel) rfl, tyX2_ok, nmX2, rfl, by decide +kernel, rfl⟩
theorem cf_X3_7 : ct_Fp RX3 7 3 0 .int false := ⟨RX3, TX3, 1, tyX3, rfl, inX3, by decide, bk_in 305 (by decide +kernel) rfl, tyX3_ok, nmX3, rfl, by decide +kernel, rfl⟩
theorem cf_X4_9 : ct_Fp RX4 9 4 0 .int false := ⟨RX4, TX4, 8, tyX4, rfl, inX4, by decide, bk_in 172 (by decide +kernel) rfl, tyX4_ok, nmX4, rfl, by decide +kernel, rfl⟩
theorem cf_X4_15 : ct_Fp RX4 15 4 1 .int false := ⟨RX4, TX4, 8, tyX4, rfl, inX4, by decide, bk_in 175 (by decide +kernel) rfl, tyX4_ok, nmX4, rfl, by decide +kernel, rfl⟩
theorem cf_X4_18 : ct_Fp RX4 18 4 2 (.array .int) true := ⟨RX4, TX4, 8, tyX4, rfl, inX4, by decide, bk_in 178 (by decide +kernel) rfl, tyX4_ok, nmX4, rfl, by decide +kernel, rfl⟩
theorem cf_X4_22 : ct_Fp RX4 22 4 3 (.array .int) true := ⟨RX4, TX4, 8, tyX4, rfl, inX4, by decide, bk_in 181 (by decide +kernel) rfl, tyX4_ok, nmX4, rfl, by decide +kernel, rfl⟩
theorem cf_X4_25 : ct_Fp RX4 25 4 4 (.array .int) true := ⟨RX4, TX4, 8, tyX4, rfl, inX4, by decide, bk_in 184 (by decide +kernel) rfl, tyX4_ok, nmX4, rfl, by decide +kernel, rfl⟩
theorem cf_X4_28 : ct_Fp RX4 28 4 5 (.array .int) true := ⟨RX4, TX4, 8, tyX4, rfl, inX4, by decide, bk_in 187 (by decide +kernel) rfl, tyX4_ok, nmX4, rfl, by decide +kernel, rfl⟩
theorem cf_X4_31 : ct_Fp RX4 31 4 6 (.array .int) true := ⟨RX4, TX4, 8, tyX4, rfl, inX4, by decide, bk_in 190 (by decide +kernel) rfl, tyX4_ok, nmX4, rfl, by decide +kernel, rfl⟩
theorem cf_X4_34 : ct_Fp RX4 34 4 7 (.array .int) true := ⟨RX4, TX4, 8, tyX4, rfl, inX4, by decide, bk_in 193 (by decide +kernel) rfl, tyX4_ok, nmX4, rfl, by decide +kernel, rfl⟩
theorem cf_X5_9 : ct_Fp RX5 9 5 0 .int false := ⟨RX5, TX5, 3, tyX5, rfl, inX5, by decide, bk_in 315 (by decide +kernel) rfl, tyX5_ok, nmX5, rfl, by decide +kernel, rfl⟩
theorem cf_X5_15 : ct_Fp RX5 15 5 1 .int false := ⟨RX5, TX5, 3, tyX5, rfl, inX5, by decide, bk_in 317 (by decide +kernel) rfl, tyX5_ok, nmX5, rfl, by decide +kernel, rfl⟩
theorem ctkbi_60 : (Int8.ofInt (60)).toInt32 = (60 : Int32) := by decide
theorem cf_X5_18 : ct_Fp RX5 18 5 2 (.array .int) true := ⟨RX5, TX5, 3, tyX5, rfl, inX5, by decide, bk_in 319 (by decide +kernel) rfl, tyX5_ok, nmX5, rfl, by decide +kernel, rfl⟩
theorem ctkbi_31 : (Int8.ofInt (31)).toInt32 = (31 : Int32) := by decide
theorem cf_X6_9 : ct_Fp RX6 9 6 0 (.array .int) true := ⟨RX6, TX6, 3, tyX6, rfl, inX6, by decide, bk_in 121 (by decide +kernel) rfl, tyX6_ok, nmX6, rfl, by decide +kernel, rfl⟩
theorem cf_X6_15 : ct_Fp RX6 15 6 2 .int false := ⟨RX6, TX6, 3, tyX6, rfl, inX6, by decide, bk_in 126 (by decide +kernel) rfl, tyX6_ok, nmX6, rfl, by decide +kernel, rfl⟩
theorem cf_X6_25 : ct_Fp RX6 25 6 1 .int true := ⟨RX6, TX6, 3, tyX6, rfl, inX6, by decide, bk_in 124 (by decide +kernel) rfl, tyX6_ok, nmX6, rfl, by decide +kernel, rfl⟩
theorem cf_X7_9 : ct_Fp RX7 9 7 0 (.array .int) true := ⟨RX7, TX7, 4, tyX7, rfl, inX7, by decide, bk_in 143 (by decide +kernel) rfl, tyX7_ok, nmX7, rfl, by decide +kernel, rfl⟩
theorem cf_X7_15 : ct_Fp RX7 15 7 1 (.array .int) true := ⟨RX7, TX7, 4, tyX7, rfl, inX7, by decide, bk_in 146 (by decide +kernel) rfl, tyX7_ok, nmX7, rfl, by decide +kernel, rfl⟩
theorem cf_X7_18 : ct_Fp RX7 18 7 2 (.array .int) true := ⟨RX7, TX7, 4, tyX7, rfl, inX7, by decide, bk_in 149 (by decide +kernel) rfl, tyX7_ok, nmX7, rfl, by decide +kernel, rfl⟩
theorem cf_X7_21 : ct_Fp RX7 21 7 3 .int false := ⟨RX7, TX7, 4, tyX7, rfl, inX7, by decide, bk_in 152 (by decide +kernel) rfl, tyX7_ok, nmX7, rfl, by decide +kernel, rfl⟩
theorem ctkic_2 : Int32.ofInt (2) = (2 : Int32) := by decide
theorem cf_X9_7 : ct_Fp RX9 7 9 0 (.array .int) true := ⟨RX9, TX9, 57, tyX9, rfl, inX9, by decide, bk_in 848 (by decide +kernel) rfl, tyX9_ok, nmX9, rfl, by decide +kernel, rfl⟩
theorem ctkbi_62 : (Int8.ofInt (62)).toInt32 = (62 : Int32) := by decide
theorem cf_X9_13 : ct_Fp RX9 13 9 1 (.array .int) true := ⟨RX9, TX9, 57, tyX9, rfl, inX9, by decide, bk_in 849 (by decide +kernel) rfl, tyX9_ok, nmX9, rfl, by decide +kernel, rfl⟩
theorem cf_X9_16 : ct_Fp RX9 16 9 3 (.array .int) true := ⟨RX9, TX9, 57, tyX9, rfl, inX9, by decide, bk_in 851 (by decide +kernel) rfl, tyX9_ok, nmX9, rfl, by decide +kernel, rfl⟩
theorem ctkbi_9 : (Int8.ofInt (9)).toInt32 = (9 : Int32) := by decide
theorem cf_X9_19 : ct_Fp RX9 19 9 5 (.array .int) true := ⟨RX9, TX9, 57, tyX9, rfl, inX9, by decide, bk_in 853 (by decide +kernel) rfl, tyX9_ok, nmX9, rfl, by decide +kernel, rfl⟩
theorem cf_X9_22 : ct_Fp RX9 22 9 6 (.array .int) true := ⟨RX9, TX9, 57, tyX9, rfl, inX9, by decide, bk_in 854 (by decide +kernel) rfl, tyX9_ok, nmX9, rfl, by decide +kernel, rfl⟩
theorem cf_X9_25 : ct_Fp RX9 25 9 7 (.array .int) true := ⟨RX9, TX9, 57, tyX9, rfl, inX9, by decide, bk_in 855 (by decide +kernel) rfl, tyX9_ok, nmX9, rfl, by decide +kernel, rfl⟩
theorem cf_X9_28 : ct_Fp RX9 28 9 9 (.array .int) true := ⟨RX9, TX9, 57, tyX9, rfl, inX9, by decide, bk_in 857 (by decide +kernel) rfl, tyX9_ok, nmX9, rfl, by decide +kernel, rfl⟩
theorem cf_X9_31 : ct_Fp RX9 31 9 10 (.array .int) true := ⟨RX9, TX9, 57, tyX9, rfl, inX9, by decide, bk_in 858 (by decide +kernel) rfl, tyX9_ok, nmX9, rfl, by decide +kernel, rfl⟩
theorem cf_X9_34 : ct_Fp RX9 34 9 11 (.array .int) true := ⟨RX9, TX9, 57, tyX9, rfl, inX9, by decide, bk_in 859 (by decide +kernel) rfl, tyX9_ok, nmX9, rfl, by decide +kernel, rfl⟩
theorem cf_X9_37 : ct_Fp RX9 37 9 13 (.array .int) true := ⟨RX9, TX9, 57, tyX9, rfl, inX9, by decide, bk_in 861 (by decide +kernel) rfl, tyX9_ok, nmX9, rfl, by decide +kernel, rfl⟩
theorem cf_X9_40 : ct_Fp RX9 40 9 14 (.array .int) true := ⟨RX9, TX9, 57, tyX9, rfl, inX9, by decide, bk_in 862 (by decide +kernel) rfl, tyX9_ok, nmX9, rfl, by decide +kernel, rfl⟩
theorem cf_X9_43 : ct_Fp RX9 43 9 15 (.array .int) true := ⟨RX9, TX9, 57, tyX9, rfl, inX9, by decide, bk_in 863 (by decide +kernel) rfl, tyX9_ok, nmX9, rfl, by decide +kernel, rfl⟩
theorem cf_X9_46 : ct_Fp RX9 46 9 32 (.array .int) true := ⟨RX9, TX9, 57, tyX9, rfl, inX9, by decide, bk_in 880 (by decide +kernel) rfl, tyX9_ok, nmX9, rfl, by decide +kernel, rfl⟩
theorem cf_X9_49 : ct_Fp RX9 49 9 33 (.array .int) true := ⟨RX9, TX9, 57, tyX9, rfl, inX9, by decide, bk_in 881 (by decide +kernel) rfl, tyX9_ok, nmX9, rfl, by decide +kernel, rfl⟩
theorem cf_X9_52 : ct_Fp RX9 52 9 34 (.array .int) true := ⟨RX9, TX9, 57, tyX9, rfl, inX9, by decide, bk_in 882 (by decide +kernel) rfl, tyX9_ok, nmX9, rfl, by decide +kernel, rfl⟩
theorem cf_X9_55 : ct_Fp RX9 55 9 35 (.array .int) true := ⟨RX9, TX9, 57, tyX9, rfl, inX9, by decide, bk_in 883 (by decide +kernel) rfl, tyX9_ok, nmX9, rfl, by decide +kernel, rfl⟩
theorem cf_X9_58 : ct_Fp RX9 58 9 36 (.array .int) true := ⟨RX9, TX9, 57, tyX9, rfl, inX9, by decide, bk_in 884 (by decide +kernel) rfl, tyX9_ok, nmX9, rfl, by decide +kernel, rfl⟩
theorem cf_X9_61 : ct_Fp RX9 61 9 37 (.array .int) true := ⟨RX9, TX9, 57, tyX9, rfl, inX9, by decide, bk_in 885 (by decide +kernel) rfl, tyX9_ok, nmX9, rfl, by decide +kernel, rfl⟩
theorem cf_X9_64 : ct_Fp RX9 64 9 38 (.array .int) true := ⟨RX9, TX9, 57, tyX9, rfl, inX9, by decide, bk_in 886 (by decide +kernel) rfl, tyX9_ok, nmX9, rfl, by decide +kernel, rfl⟩
theorem cf_X9_67 : ct_Fp RX9 67 9 39 (.array .int) true := ⟨RX9, TX9, 57, tyX9, rfl, inX9, by decide, bk_in 887 (by decide +kernel) rfl, tyX9_ok, nmX9, rfl, by decide +kernel, rfl⟩
theorem ctkbi_48 : (Int8.ofInt (48)).toInt32 = (48 : Int32) := by decide
theorem cf_X9_70 : ct_Fp RX9 70 9 40 (.array .int) true := ⟨RX9, TX9, 57, tyX9, rfl, inX9, by decide, bk_in 888 (by decide +kernel) rfl, tyX9_ok, nmX9, rfl, by decide +kernel, rfl⟩
theorem cf_X9_73 : ct_Fp RX9 73 9 41 (.array .int) true := ⟨RX9, TX9, 57, tyX9, rfl, inX9, by decide, bk_in 889 (by decide +kernel) rfl, tyX9_ok, nmX9, rfl, by decide +kernel, rfl⟩
theorem cf_X9_76 : ct_Fp RX9 76 9 45 (.array .int) true := ⟨RX9, TX9, 57, tyX9, rfl, inX9, by decide, bk_in 893 (by decide +kernel) rfl, tyX9_ok, nmX9, rfl, by decide +kernel, rfl⟩
theorem cf_X9_79 : ct_Fp RX9 79 9 47 (.array .int) true := ⟨RX9, TX9, 57, tyX9, rfl, inX9, by decide, bk_in 895 (by decide +kernel) rfl, tyX9_ok, nmX9, rfl, by decide +kernel, rfl⟩
theorem cf_X9_82 : ct_Fp RX9 82 9 48 (.array .int) true := ⟨RX9, TX9, 57, tyX9, rfl, inX9, by decide, bk_in 896 (by decide +kernel) rfl, tyX9_ok, nmX9, rfl, by decide +kernel, rfl⟩
theorem cf_X9_85 : ct_Fp RX9 85 9 49 (.array .int) true := ⟨RX9, TX9, 57, tyX9, rfl, inX9, by decide, bk_in 897 (by decide +kernel) rfl, tyX9_ok, nmX9, rfl, by decide +kernel, rfl⟩
theorem cf_X9_88 : ct_Fp RX9 88 9 50 (.array .int) true := ⟨RX9, TX9, 57, tyX9, rfl, inX9, by decide, bk_in 898 (by decide +kernel) rfl, tyX9_ok, nmX9, rfl, by decide +kernel, rfl⟩
theorem ctkic_4 : Int32.ofInt (4) = (4 : Int32) := by decide
theorem cf_X9_91 : ct_Fp RX9 91 9 51 (.array .boolean) true := ⟨RX9, TX9, 57, tyX9, rfl, inX9, by decide, bk_in 899 (by decide +kernel) rfl, tyX9_ok, nmX9, rfl, by decide +kernel, rfl⟩
theorem cf_X9_95 : ct_Fp RX9 95 9 52 (.array .int) true := ⟨RX9, TX9, 57, tyX9, rfl, inX9, by decide, bk_in 900 (by decide +kernel) rfl, tyX9_ok, nmX9, rfl, by decide +kernel, rfl⟩
theorem cf_X9_98 : ct_Fp RX9 98 9 53 (.array .int) true := ⟨RX9, TX9, 57, tyX9, rfl, inX9, by decide, bk_in 901 (by decide +kernel) rfl, tyX9_ok, nmX9, rfl, by decide +kernel, rfl⟩
theorem ctksi_240 : (Int16.ofInt (240)).toInt32 = (240 : Int32) := by decide
theorem cf_X9_101 : ct_Fp RX9 101 9 54 (.array .int) true := ⟨RX9, TX9, 57, tyX9, rfl, inX9, by decide, bk_in 902 (by decide +kernel) rfl, tyX9_ok, nmX9, rfl, by decide +kernel, rfl⟩
theorem cf_X9_104 : ct_Fp RX9 104 9 55 (.array .int) true := ⟨RX9, TX9, 57, tyX9, rfl, inX9, by decide, bk_in 903 (by decide +kernel) rfl, tyX9_ok, nmX9, rfl, by decide +kernel, rfl⟩
theorem cn_X8_9 : ct_Nw RX8 9 6 3 [.null, .int 0, .int 0] := ⟨RX6, TX6, tyX6, rfl, inX6, tyX6_ok, bk_in 112 (by decide +kernel) rfl, bk_in 113 (by decide +kernel) rfl, bk_in 92 (by decide +kernel) rfl, by decide +kernel⟩
theorem yi_X6 : Cond.instanceMethod yX6_init ∈ lw_good := bk_in 115 (by decide +kernel) rfl
theorem cf_X8_14 : ct_Fp RX8 14 8 0 (.object "BackHooks$Text") true := ⟨RX8, TX8, 16, tyX8, rfl, inX8, by decide, bk_in 328 (by decide +kernel) rfl, tyX8_ok, nmX8, rfl, by decide +kernel, rfl⟩
theorem cf_X8_18 : ct_Fp RX8 18 8 1 (.object "BackHooks$Text") true := ⟨RX8, TX8, 16, tyX8, rfl, inX8, by decide, bk_in 329 (by decide +kernel) rfl, tyX8_ok, nmX8, rfl, by decide +kernel, rfl⟩
theorem cn_X8_21 : ct_Nw RX8 21 7 4 [.null, .null, .null, .int 0] := ⟨RX7, TX7, tyX7, rfl, inX7, tyX7_ok, bk_in 137 (by decide +kernel) rfl, bk_in 138 (by decide +kernel) rfl, bk_in 94 (by decide +kernel) rfl, by decide +kernel⟩
theorem yi_X7 : Cond.instanceMethod yX7_init ∈ lw_good := bk_in 140 (by decide +kernel) rfl
theorem cf_X8_24 : ct_Fp RX8 24 8 2 (.object "BackHooks$Triples") true := ⟨RX8, TX8, 16, tyX8, rfl, inX8, by decide, bk_in 330 (by decide +kernel) rfl, tyX8_ok, nmX8, rfl, by decide +kernel, rfl⟩
theorem cf_X8_28 : ct_Fp RX8 28 8 3 (.object "BackHooks$Triples") true := ⟨RX8, TX8, 16, tyX8, rfl, inX8, by decide, bk_in 331 (by decide +kernel) rfl, tyX8_ok, nmX8, rfl, by decide +kernel, rfl⟩
theorem cl_sheet : Cond.classLink RX8 31 "BackHooks$Sheet" ∈ lw_good := bk_in 164 (by decide +kernel) rfl
theorem cf_X8_33 : ct_Fp RX8 33 8 4 (.array (.object "BackHooks$Sheet")) true := ⟨RX8, TX8, 16, tyX8, rfl, inX8, by decide, bk_in 332 (by decide +kernel) rfl, tyX8_ok, nmX8, rfl, by decide +kernel, rfl⟩
theorem cn_X8_37 : ct_Nw RX8 37 4 8 [.int 0, .int 0, .null, .null, .null, .null, .null, .null] := ⟨RX4, TX4, tyX4, rfl, inX4, tyX4_ok, bk_in 166 (by decide +kernel) rfl, bk_in 167 (by decide +kernel) rfl, bk_in 95 (by decide +kernel) rfl, by decide +kernel⟩
theorem yi_X4 : Cond.instanceMethod yX4_init ∈ lw_good := bk_in 169 (by decide +kernel) rfl
theorem cf_X8_40 : ct_Fp RX8 40 8 5 (.object "BackHooks$Setting") true := ⟨RX8, TX8, 16, tyX8, rfl, inX8, by decide, bk_in 333 (by decide +kernel) rfl, tyX8_ok, nmX8, rfl, by decide +kernel, rfl⟩
theorem cf_X8_44 : ct_Fp RX8 44 8 6 (.object "BackHooks$Setting") true := ⟨RX8, TX8, 16, tyX8, rfl, inX8, by decide, bk_in 334 (by decide +kernel) rfl, tyX8_ok, nmX8, rfl, by decide +kernel, rfl⟩
theorem cn_X8_47 : ct_Nw RX8 47 1 12 [.null, .null, .null, .null, .null, .null, .null, .null, .null, .null, .null, .int 0] := ⟨RX1, TX1, tyX1, rfl, inX1, tyX1_ok, bk_in 212 (by decide +kernel) rfl, bk_in 213 (by decide +kernel) rfl, bk_in 96 (by decide +kernel) rfl, by decide +kernel⟩
theorem yi_X1 : Cond.instanceMethod yX1_init ∈ lw_good := bk_in 215 (by decide +kernel) rfl
theorem cf_X8_50 : ct_Fp RX8 50 8 7 (.object "BackHooks$Course") true := ⟨RX8, TX8, 16, tyX8, rfl, inX8, by decide, bk_in 335 (by decide +kernel) rfl, tyX8_ok, nmX8, rfl, by decide +kernel, rfl⟩
theorem cf_X8_54 : ct_Fp RX8 54 8 8 (.object "BackHooks$Course") true := ⟨RX8, TX8, 16, tyX8, rfl, inX8, by decide, bk_in 336 (by decide +kernel) rfl, tyX8_ok, nmX8, rfl, by decide +kernel, rfl⟩
theorem cn_X8_57 : ct_Nw RX8 57 0 5 [.int 0, .int 0, .int 0, .int 0, .int 0] := ⟨RX0, TX0, tyX0, rfl, inX0, tyX0_ok, bk_in 262 (by decide +kernel) rfl, bk_in 263 (by decide +kernel) rfl, bk_in 97 (by decide +kernel) rfl, by decide +kernel⟩
theorem yi_X0 : Cond.instanceMethod yX0_init ∈ lw_good := bk_in 265 (by decide +kernel) rfl
theorem cf_X8_60 : ct_Fp RX8 60 8 9 (.object "BackHooks$Choice") true := ⟨RX8, TX8, 16, tyX8, rfl, inX8, by decide, bk_in 337 (by decide +kernel) rfl, tyX8_ok, nmX8, rfl, by decide +kernel, rfl⟩
theorem cn_X8_64 : ct_Nw RX8 64 2 2 [.int 0, .null] := ⟨RX2, TX2, tyX2, rfl, inX2, tyX2_ok, bk_in 284 (by decide +kernel) rfl, bk_in 285 (by decide +kernel) rfl, bk_in 98 (by decide +kernel) rfl, by decide +kernel⟩
theorem yi_X2 : Cond.instanceMethod yX2_init ∈ lw_good := bk_in 287 (by decide +kernel) rfl
theorem cf_X8_67 : ct_Fp RX8 67 8 10 (.object "BackHooks$Heats") true := ⟨RX8, TX8, 16, tyX8, rfl, inX8, by decide, bk_in 338 (by decide +kernel) rfl, tyX8_ok, nmX8, rfl, by decide +kernel, rfl⟩
theorem cn_X8_71 : ct_Nw RX8 71 3 1 [.int 0] := ⟨RX3, TX3, tyX3, rfl, inX3, tyX3_ok, bk_in 299 (by decide +kernel) rfl, bk_in 300 (by decide +kernel) rfl, bk_in 99 (by decide +kernel) rfl, by decide +kernel⟩
theorem yi_X3 : Cond.instanceMethod yX3_init ∈ lw_good := bk_in 302 (by decide +kernel) rfl
theorem cf_X8_74 : ct_Fp RX8 74 8 11 (.object "BackHooks$Lots") true := ⟨RX8, TX8, 16, tyX8, rfl, inX8, by decide, bk_in 339 (by decide +kernel) rfl, tyX8_ok, nmX8, rfl, by decide +kernel, rfl⟩
theorem ctksi_256 : (Int16.ofInt (256)).toInt32 = (256 : Int32) := by decide
theorem cf_X8_78 : ct_Fp RX8 78 8 12 (.array .int) true := ⟨RX8, TX8, 16, tyX8, rfl, inX8, by decide, bk_in 340 (by decide +kernel) rfl, tyX8_ok, nmX8, rfl, by decide +kernel, rfl⟩
theorem ctkic_1 : Int32.ofInt (1) = (1 : Int32) := by decide
theorem cf_X8_82 : ct_Fp RX8 82 8 13 .boolean false := ⟨RX8, TX8, 16, tyX8, rfl, inX8, by decide, bk_in 341 (by decide +kernel) rfl, tyX8_ok, nmX8, rfl, by decide +kernel, rfl⟩
theorem cf_X8_86 : ct_Fp RX8 86 8 14 .boolean false := ⟨RX8, TX8, 16, tyX8, rfl, inX8, by decide, bk_in 342 (by decide +kernel) rfl, tyX8_ok, nmX8, rfl, by decide +kernel, rfl⟩
theorem cf_X8_89 : ct_Fp RX8 89 8 15 .int false := ⟨RX8, TX8, 16, tyX8, rfl, inX8, by decide, bk_in 343 (by decide +kernel) rfl, tyX8_ok, nmX8, rfl, by decide +kernel, rfl⟩
theorem cn_X8_31 : ct_Nw RX8 31 5 3 [.int 0, .int 0, .null] := ⟨RX5, TX5, tyX5, rfl, inX5, tyX5_ok, bk_in 164 (by decide +kernel) rfl, bk_in 310 (by decide +kernel) rfl, bk_in 100 (by decide +kernel) rfl, by decide +kernel⟩
theorem yi_X5 : Cond.instanceMethod yX5_init ∈ lw_good := bk_in 312 (by decide +kernel) rfl
theorem cn_L_7 : ct_Nw RL 7 8 16 [.null, .null, .null, .null, .null, .null, .null, .null, .null, .null, .null, .null, .null, .int 0, .int 0, .int 0] := ⟨RX8, TX8, tyX8, rfl, inX8, tyX8_ok, bk_in 104 (by decide +kernel) rfl, bk_in 105 (by decide +kernel) rfl, bk_in 91 (by decide +kernel) rfl, by decide +kernel⟩
theorem cn_L_10 : ct_Nw RL 10 9 57 [.null, .null, .int 0, .null, .int 0, .null, .null, .null, .int 0, .null, .null, .null, .int 0, .null, .null, .null, .int 0, .int 0, .int 0, .int 0, .int 0, .int 0, .int 0, .int 0, .int 0, .int 0, .int 0, .int 0, .int 0, .int 0, .int 0, .int 0, .null, .null, .null, .null, .null, .null, .null, .null, .null, .null, .int 0, .int 0, .int 0, .null, .int 0, .null, .null, .null, .null, .null, .null, .null, .null, .null, .int 0] := ⟨RX9, TX9, tyX9, rfl, inX9, tyX9_ok, bk_in 842 (by decide +kernel) rfl, bk_in 843 (by decide +kernel) rfl, bk_in 101 (by decide +kernel) rfl, by decide +kernel⟩
theorem yi_X8 : Cond.instanceMethod yX8_init ∈ lw_good := bk_in 107 (by decide +kernel) rfl
theorem yi_X9 : Cond.instanceMethod yX9_init ∈ lw_good := bk_in 845 (by decide +kernel) rfl
