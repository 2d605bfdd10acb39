/-! The law's loop. -/
theorem lw_63 : (Int8.ofInt (63)).toInt32 = (63 : Int32) := by decide
theorem lw_c6 {L n : Nat} (hL : L ≤ 3072) (hn : n ≤ 4000) (h : ¬ (Int32.ofNat L - 6) < nI n) : n + 6 ≤ L := by
  rw [show Int32.ofNat L = nI L from rfl, Int32.lt_iff_toInt_lt, Int32.toInt_sub, nI_toInt (by omega), nI_toInt (by omega), show (6 : Int32).toInt = 6 by decide, Int.bmod_eq_of_le (by omega) (by omega)] at h
  omega
theorem lw_vin {L n : Nat} {v : Int32} (j : Nat) (hv : v = nI j) (hL : L ≤ 3072) (h : n + j < L) : vp_in (nI n + v) L := by
  rw [hv, nI_add]
  exact vp_in_nI h (by omega)
theorem lw_in {L n : Nat} (hL : L ≤ 3072) (h : n + 6 ≤ L) : bl_in (nI n) L := ⟨lw_vin 1 rfl hL (by omega), lw_vin 2 rfl hL (by omega), lw_vin 3 rfl hL (by omega), lw_vin 4 rfl hL (by omega), lw_vin 5 rfl hL (by omega)⟩
/-- the switch -/
theorem lw_switch {w : bk_W} {X : bk_X} {b L : Nat} {xs : Nat → Int32} {x : Int32} {σ τ : bk_S} (hX : bk_Ok bl_K w X code RL 4 13 526) (hs : bl_Sc X b L xs) (hin : bl_in x L) (hR : RR σ τ) (hk : ∀ σ' τ', RR σ' τ' → bk_At bl_K w X 1249 (bl_lv w b x) [] (bl_s lyC.2 σ' τ')) (z : Int32) : bk_At bl_K w X 33 (bl_lv w b x) [.int z] (bl_s lyC.2 σ τ) := by
  by_cases h1 : z.toInt < 0
  · exact bl_tabOut (Z := True) hX 1249 dL_law_33 (Or.inl h1) rfl (fun _ => hk _ _ hR) trivial
  by_cases h2 : 36 < z.toInt
  · exact bl_tabOut (Z := True) hX 1249 dL_law_33 (Or.inr h2) rfl (fun _ => hk _ _ hR) trivial
  obtain ⟨j, hj⟩ : ∃ j : Nat, z.toInt = (j : Int) := ⟨z.toInt.toNat, by omega⟩
  have hj2 : j < 37 := by omega
  have ho : (z.toInt - 0).toNat = j := by omega
  match j, hj2, ho with
  | 0, _, ho => exact bl_tabIn (Z := True) hX 196 dL_law_33 h1 h2 (by rw [ho]; rfl) rfl (fun _ => lc_type hX hs hin hR hk) trivial
  | 1, _, ho => exact bl_tabIn (Z := True) hX 229 dL_law_33 h1 h2 (by rw [ho]; rfl) rfl (fun _ => lc_wipe hX hs hin hR hk) trivial
  | 2, _, ho => exact bl_tabIn (Z := True) hX 252 dL_law_33 h1 h2 (by rw [ho]; rfl) rfl (fun _ => lc_undo hX hs hin hR hk) trivial
  | 3, _, ho => exact bl_tabIn (Z := True) hX 275 dL_law_33 h1 h2 (by rw [ho]; rfl) rfl (fun _ => lc_fault hX hs hin hR hk) trivial
  | 4, _, ho => exact bl_tabIn (Z := True) hX 298 dL_law_33 h1 h2 (by rw [ho]; rfl) rfl (fun _ => lc_hook hX hs hin hR hk) trivial
  | 5, _, ho => exact bl_tabIn (Z := True) hX 321 dL_law_33 h1 h2 (by rw [ho]; rfl) rfl (fun _ => lc_thing hX hs hin hR hk) trivial
  | 6, _, ho => exact bl_tabIn (Z := True) hX 354 dL_law_33 h1 h2 (by rw [ho]; rfl) rfl (fun _ => lc_event hX hs hin hR hk) trivial
  | 7, _, ho => exact bl_tabIn (Z := True) hX 397 dL_law_33 h1 h2 (by rw [ho]; rfl) rfl (fun _ => lc_back hX hs hin hR hk) trivial
  | 8, _, ho => exact bl_tabIn (Z := True) hX 410 dL_law_33 h1 h2 (by rw [ho]; rfl) rfl (fun _ => lc_read hX hs hin hR hk) trivial
  | 9, _, ho => exact bl_tabIn (Z := True) hX 433 dL_law_33 h1 h2 (by rw [ho]; rfl) rfl (fun _ => lc_heat hX hs hin hR hk) trivial
  | 10, _, ho => exact bl_tabIn (Z := True) hX 476 dL_law_33 h1 h2 (by rw [ho]; rfl) rfl (fun _ => lc_said hX hs hin hR hk) trivial
  | 11, _, ho => exact bl_tabIn (Z := True) hX 509 dL_law_33 h1 h2 (by rw [ho]; rfl) rfl (fun _ => lc_at hX hs hin hR hk) trivial
  | 12, _, ho => exact bl_tabIn (Z := True) hX 542 dL_law_33 h1 h2 (by rw [ho]; rfl) rfl (fun _ => lc_settled hX hs hin hR hk) trivial
  | 13, _, ho => exact bl_tabIn (Z := True) hX 565 dL_law_33 h1 h2 (by rw [ho]; rfl) rfl (fun _ => lc_sum hX hs hin hR hk) trivial
  | 14, _, ho => exact bl_tabIn (Z := True) hX 588 dL_law_33 h1 h2 (by rw [ho]; rfl) rfl (fun _ => lc_peace hX hs hin hR hk) trivial
  | 15, _, ho => exact bl_tabIn (Z := True) hX 601 dL_law_33 h1 h2 (by rw [ho]; rfl) rfl (fun _ => lc_longest hX hs hin hR hk) trivial
  | 16, _, ho => exact bl_tabIn (Z := True) hX 614 dL_law_33 h1 h2 (by rw [ho]; rfl) rfl (fun _ => lc_highest hX hs hin hR hk) trivial
  | 17, _, ho => exact bl_tabIn (Z := True) hX 637 dL_law_33 h1 h2 (by rw [ho]; rfl) rfl (fun _ => lc_sore hX hs hin hR hk) trivial
  | 18, _, ho => exact bl_tabIn (Z := True) hX 650 dL_law_33 h1 h2 (by rw [ho]; rfl) rfl (fun _ => lc_swap hX hs hin hR hk) trivial
  | 19, _, ho => exact bl_tabIn (Z := True) hX 673 dL_law_33 h1 h2 (by rw [ho]; rfl) rfl (fun _ => lc_fit hX hs hin hR hk) trivial
  | 20, _, ho => exact bl_tabIn (Z := True) hX 686 dL_law_33 h1 h2 (by rw [ho]; rfl) rfl (fun _ => lc_leave hX hs hin hR hk) trivial
  | 21, _, ho => exact bl_tabIn (Z := True) hX 719 dL_law_33 h1 h2 (by rw [ho]; rfl) rfl (fun _ => lc_spare hX hs hin hR hk) trivial
  | 22, _, ho => exact bl_tabIn (Z := True) hX 742 dL_law_33 h1 h2 (by rw [ho]; rfl) rfl (fun _ => lc_seen hX hs hin hR hk) trivial
  | 23, _, ho => exact bl_tabIn (Z := True) hX 785 dL_law_33 h1 h2 (by rw [ho]; rfl) rfl (fun _ => lc_forget hX hs hin hR hk) trivial
  | 24, _, ho => exact bl_tabIn (Z := True) hX 798 dL_law_33 h1 h2 (by rw [ho]; rfl) rfl (fun _ => lc_never hX hs hin hR hk) trivial
  | 25, _, ho => exact bl_tabIn (Z := True) hX 811 dL_law_33 h1 h2 (by rw [ho]; rfl) rfl (fun _ => lc_was hX hs hin hR hk) trivial
  | 26, _, ho => exact bl_tabIn (Z := True) hX 844 dL_law_33 h1 h2 (by rw [ho]; rfl) rfl (fun _ => lc_ask hX hs hin hR hk) trivial
  | 27, _, ho => exact bl_tabIn (Z := True) hX 867 dL_law_33 h1 h2 (by rw [ho]; rfl) rfl (fun _ => lc_chance hX hs hin hR hk) trivial
  | 28, _, ho => exact bl_tabIn (Z := True) hX 911 dL_law_33 h1 h2 (by rw [ho]; rfl) rfl (fun _ => lc_seasons hX hs hin hR hk) trivial
  | 29, _, ho => exact bl_tabIn (Z := True) hX 954 dL_law_33 h1 h2 (by rw [ho]; rfl) rfl (fun _ => lc_sheet hX hs hin hR hk) trivial
  | 30, _, ho => exact bl_tabIn (Z := True) hX 997 dL_law_33 h1 h2 (by rw [ho]; rfl) rfl (fun _ => lc_lose hX hs hin hR hk) trivial
  | 31, _, ho => exact bl_tabIn (Z := True) hX 1020 dL_law_33 h1 h2 (by rw [ho]; rfl) rfl (fun _ => lc_put hX hs hin hR hk) trivial
  | 32, _, ho => exact bl_tabIn (Z := True) hX 1073 dL_law_33 h1 h2 (by rw [ho]; rfl) rfl (fun _ => lc_get hX hs hin hR hk) trivial
  | 33, _, ho => exact bl_tabIn (Z := True) hX 1116 dL_law_33 h1 h2 (by rw [ho]; rfl) rfl (fun _ => lc_copy hX hs hin hR hk) trivial
  | 34, _, ho => exact bl_tabIn (Z := True) hX 1179 dL_law_33 h1 h2 (by rw [ho]; rfl) rfl (fun _ => lc_write hX hs hin hR hk) trivial
  | 35, _, ho => exact bl_tabIn (Z := True) hX 1212 dL_law_33 h1 h2 (by rw [ho]; rfl) rfl (fun _ => lc_count hX hs hin hR hk) trivial
  | 36, _, ho => exact bl_tabIn (Z := True) hX 1235 dL_law_33 h1 h2 (by rw [ho]; rfl) rfl (fun _ => lc_digest hX hs hin hR hk) trivial
  | j + 37, h, _ => exact absurd h (by omega)
theorem lw_loop {w : bk_W} {X : bk_X} {b L : Nat} {xs : Nat → Int32} (hX : bk_Ok bl_K w X code RL 4 13 526) (hs : bl_Sc X b L xs) (hL : L ≤ 3072) (hend : ∀ lv σ, bk_At bl_K w X 1255 lv [] σ) : ∀ (f n : Nat) (σ τ : bk_S), L < n + 6 * f → n ≤ 3078 → RR σ τ → bk_At bl_K w X 18 (bl_lv w b (nI n)) [] (bl_s lyC.2 σ τ) := by
  intro f
  induction f with
  | zero =>
    intro n σ τ hf hn hR
    refine (?_ : True → _) trivial
    refine bk_iload_n hX 0 dL_law_18 rfl ?_
    refine bk_aload_n hX 3 dL_law_19 rfl ?_
    refine bl_slen hX hs dL_law_20 ?_
    refine bk_bipush hX bk_cb_6 dL_law_21 ?_
    refine bk_isub hX dL_law_23 ?_
    exact fun _ => bk_icmp_gt (Z1 := True) (Z2 := False) hX 1255 dL_law_24 rfl (fun _ => hend _ _) (fun z => z.elim) ⟨fun _ => trivial, fun h => by have := lw_c6 hL (by omega) h; omega⟩
  | succ f ih =>
    intro n σ τ hf hn hR
    refine (?_ : True → _) trivial
    refine bk_iload_n hX 0 dL_law_18 rfl ?_
    refine bk_aload_n hX 3 dL_law_19 rfl ?_
    refine bl_slen hX hs dL_law_20 ?_
    refine bk_bipush hX bk_cb_6 dL_law_21 ?_
    refine bk_isub hX dL_law_23 ?_
    refine fun _ => bk_icmp_gt (Z1 := True) (Z2 := n + 6 ≤ L) hX 1255 dL_law_24 rfl (fun _ => hend _ _) ?_ ⟨fun _ => trivial, fun h => lw_c6 hL (by omega) h⟩
    intro h6
    refine (?_ : True → _) trivial
    refine bk_aload_n hX 3 dL_law_27 rfl ?_
    refine bk_iload_n hX 0 dL_law_28 rfl ?_
    refine bl_sld hX hs (vp_in_nI (show n < L by omega) (by omega)) dL_law_29 ?_
    refine bk_bipush hX lw_63 dL_law_30 ?_
    refine bk_iand hX dL_law_32 ?_
    refine fun _ => lw_switch hX hs (lw_in hL h6) hR ?_ _
    intro σ' τ' hR'
    refine bk_iinc (Z := fun v => v = nI (n + 6)) hX 0 (fun v => bl_lv w b v) dL_law_1249 rfl rfl (by decide) (fun _ => rfl) ?_ (show nI n + 6 = nI (n + 6) from nI_add n 6)
    rintro _ rfl
    exact bk_goto (Z := True) hX 18 dL_law_1252 rfl (fun _ => ih (n + 6) σ' τ' (by omega) (by omega) hR') trivial
