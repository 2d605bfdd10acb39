theorem lc_swap {w : bk_W} {X : bk_X} {b L : Nat} {xs : Nat → Int32} {x : Int32} {σ τ : bk_S} (hX : bk_Ok bl_K w X code RL 4 13 526) (hs : bl_Sc X b L xs) (hin : bl_in x L) (hR : RR σ τ) (hk : ∀ σ' τ', RR σ' τ' → bk_At bl_K w X 1249 (bl_lv w b x) [] (bl_s lyC.2 σ' τ')) : bk_At bl_K w X 650 (bl_lv w b x) [] (bl_s lyC.2 σ τ) := by
  refine (?_ : True → _) trivial
  refine bk_aload_n hX 2 dL_law_650 rfl ?_
  refine bl_arg hX hs bk_ci_1 hin.1 dL_law_651 dL_law_652 dL_law_653 dL_law_654 dL_law_655 ?_
  refine bl_call1_i hX (post := (bl_Q1 (w_X9_swap (xs (x + (1 : Int32)).toNatClampNeg) τ))) [.int (xs (x + (1 : Int32)).toNatClampNeg)] [] yk_X8_swap yv_X8_swap lk_L_89 rfl rfl kc_0 rfl rfl (Nat.le_of_ble_eq_true rfl) ⟨Nat.le_of_ble_eq_true rfl, Nat.le_of_ble_eq_true rfl⟩ dL_law_656 (fun _ => m_X8_swap w (bl_Q1.of (s_swap hR))) (fun r σ1 => ?_)
  refine bk_aload_n hX 1 dL_law_659 rfl ?_
  refine bl_arg hX hs bk_ci_1 hin.1 dL_law_660 dL_law_661 dL_law_662 dL_law_663 dL_law_664 ?_
  refine bl_call2_i hX (post := bl_Q2 r σ1) [.int (xs (x + (1 : Int32)).toNatClampNeg)] [.int r] yk_X9_swap yv_X9_swap lk_L_92 rfl rfl km_o rfl rfl (Nat.le_of_ble_eq_true rfl) ⟨Nat.le_of_ble_eq_true rfl, Nat.le_of_ble_eq_true rfl⟩ dL_law_665 (fun z => m_X9_swap (bl_w lyC.2 w) z.to) (fun r' τ1 => ?_)
  exact bl_endi hX dL_law_668 rfl hk
theorem lc_fit {w : bk_W} {X : bk_X} {b L : Nat} {xs : Nat → Int32} {x : Int32} {σ τ : bk_S} (hX : bk_Ok bl_K w X code RL 4 13 526) (hs : bl_Sc X b L xs) (hin : bl_in x L) (hR : RR σ τ) (hk : ∀ σ' τ', RR σ' τ' → bk_At bl_K w X 1249 (bl_lv w b x) [] (bl_s lyC.2 σ' τ')) : bk_At bl_K w X 673 (bl_lv w b x) [] (bl_s lyC.2 σ τ) := by
  refine (?_ : True → _) trivial
  refine bk_aload_n hX 2 dL_law_673 rfl ?_
  refine bl_call1_i hX (post := (bl_Q1 (w_X9_fit τ))) [] [] yk_X8_fit yv_X8_fit lk_L_93 rfl rfl kc_0 rfl rfl (Nat.le_of_ble_eq_true rfl) ⟨Nat.le_of_ble_eq_true rfl, Nat.le_of_ble_eq_true rfl⟩ dL_law_674 (fun _ => m_X8_fit w (bl_Q1.of (s_fit hR))) (fun r σ1 => ?_)
  refine bk_aload_n hX 1 dL_law_677 rfl ?_
  refine bl_call2_i hX (post := bl_Q2 r σ1) [] [.int r] yk_X9_fit yv_X9_fit lk_L_96 rfl rfl km_o rfl rfl (Nat.le_of_ble_eq_true rfl) ⟨Nat.le_of_ble_eq_true rfl, Nat.le_of_ble_eq_true rfl⟩ dL_law_678 (fun z => m_X9_fit (bl_w lyC.2 w) z.to) (fun r' τ1 => ?_)
  exact bl_endi hX dL_law_681 rfl hk
theorem lc_leave {w : bk_W} {X : bk_X} {b L : Nat} {xs : Nat → Int32} {x : Int32} {σ τ : bk_S} (hX : bk_Ok bl_K w X code RL 4 13 526) (hs : bl_Sc X b L xs) (hin : bl_in x L) (hR : RR σ τ) (hk : ∀ σ' τ', RR σ' τ' → bk_At bl_K w X 1249 (bl_lv w b x) [] (bl_s lyC.2 σ' τ')) : bk_At bl_K w X 686 (bl_lv w b x) [] (bl_s lyC.2 σ τ) := by
  refine (?_ : True → _) trivial
  refine bk_aload_n hX 2 dL_law_686 rfl ?_
  refine bl_arg hX hs bk_ci_1 hin.1 dL_law_687 dL_law_688 dL_law_689 dL_law_690 dL_law_691 ?_
  refine bl_arg hX hs bk_ci_2 hin.2.1 dL_law_692 dL_law_693 dL_law_694 dL_law_695 dL_law_696 ?_
  refine bl_call1_i hX (post := (bl_Q1 (w_X9_leave (xs (x + (1 : Int32)).toNatClampNeg) (xs (x + (2 : Int32)).toNatClampNeg) τ))) [.int (xs (x + (1 : Int32)).toNatClampNeg), .int (xs (x + (2 : Int32)).toNatClampNeg)] [] yk_X8_leave yv_X8_leave lk_L_97 rfl rfl kc_0 rfl rfl (Nat.le_of_ble_eq_true rfl) ⟨Nat.le_of_ble_eq_true rfl, Nat.le_of_ble_eq_true rfl⟩ dL_law_697 (fun _ => m_X8_leave w (bl_Q1.of (s_leave hR))) (fun r σ1 => ?_)
  refine bk_aload_n hX 1 dL_law_700 rfl ?_
  refine bl_arg hX hs bk_ci_1 hin.1 dL_law_701 dL_law_702 dL_law_703 dL_law_704 dL_law_705 ?_
  refine bl_arg hX hs bk_ci_2 hin.2.1 dL_law_706 dL_law_707 dL_law_708 dL_law_709 dL_law_710 ?_
  refine bl_call2_i hX (post := bl_Q2 r σ1) [.int (xs (x + (1 : Int32)).toNatClampNeg), .int (xs (x + (2 : Int32)).toNatClampNeg)] [.int r] yk_X9_leave yv_X9_leave lk_L_100 rfl rfl km_o rfl rfl (Nat.le_of_ble_eq_true rfl) ⟨Nat.le_of_ble_eq_true rfl, Nat.le_of_ble_eq_true rfl⟩ dL_law_711 (fun z => m_X9_leave (bl_w lyC.2 w) z.to) (fun r' τ1 => ?_)
  exact bl_endi hX dL_law_714 rfl hk
theorem lc_spare {w : bk_W} {X : bk_X} {b L : Nat} {xs : Nat → Int32} {x : Int32} {σ τ : bk_S} (hX : bk_Ok bl_K w X code RL 4 13 526) (hs : bl_Sc X b L xs) (hin : bl_in x L) (hR : RR σ τ) (hk : ∀ σ' τ', RR σ' τ' → bk_At bl_K w X 1249 (bl_lv w b x) [] (bl_s lyC.2 σ' τ')) : bk_At bl_K w X 719 (bl_lv w b x) [] (bl_s lyC.2 σ τ) := by
  refine (?_ : True → _) trivial
  refine bk_aload_n hX 2 dL_law_719 rfl ?_
  refine bl_arg hX hs bk_ci_1 hin.1 dL_law_720 dL_law_721 dL_law_722 dL_law_723 dL_law_724 ?_
  refine bl_call1_i hX (post := (bl_Q1 (w_X9_spare (xs (x + (1 : Int32)).toNatClampNeg) τ))) [.int (xs (x + (1 : Int32)).toNatClampNeg)] [] yk_X8_spare yv_X8_spare lk_L_101 rfl rfl kc_0 rfl rfl (Nat.le_of_ble_eq_true rfl) ⟨Nat.le_of_ble_eq_true rfl, Nat.le_of_ble_eq_true rfl⟩ dL_law_725 (fun _ => m_X8_spare w (bl_Q1.of (s_spare hR))) (fun r σ1 => ?_)
  refine bk_aload_n hX 1 dL_law_728 rfl ?_
  refine bl_arg hX hs bk_ci_1 hin.1 dL_law_729 dL_law_730 dL_law_731 dL_law_732 dL_law_733 ?_
  refine bl_call2_i hX (post := bl_Q2 r σ1) [.int (xs (x + (1 : Int32)).toNatClampNeg)] [.int r] yk_X9_spare yv_X9_spare lk_L_104 rfl rfl km_o rfl rfl (Nat.le_of_ble_eq_true rfl) ⟨Nat.le_of_ble_eq_true rfl, Nat.le_of_ble_eq_true rfl⟩ dL_law_734 (fun z => m_X9_spare (bl_w lyC.2 w) z.to) (fun r' τ1 => ?_)
  exact bl_endi hX dL_law_737 rfl hk
theorem lc_seen {w : bk_W} {X : bk_X} {b L : Nat} {xs : Nat → Int32} {x : Int32} {σ τ : bk_S} (hX : bk_Ok bl_K w X code RL 4 13 526) (hs : bl_Sc X b L xs) (hin : bl_in x L) (hR : RR σ τ) (hk : ∀ σ' τ', RR σ' τ' → bk_At bl_K w X 1249 (bl_lv w b x) [] (bl_s lyC.2 σ' τ')) : bk_At bl_K w X 742 (bl_lv w b x) [] (bl_s lyC.2 σ τ) := by
  refine (?_ : True → _) trivial
  refine bk_aload_n hX 2 dL_law_742 rfl ?_
  refine bl_arg hX hs bk_ci_1 hin.1 dL_law_743 dL_law_744 dL_law_745 dL_law_746 dL_law_747 ?_
  refine bl_arg hX hs bk_ci_2 hin.2.1 dL_law_748 dL_law_749 dL_law_750 dL_law_751 dL_law_752 ?_
  refine bl_arg hX hs bk_ci_3 hin.2.2.1 dL_law_753 dL_law_754 dL_law_755 dL_law_756 dL_law_757 ?_
  refine bl_call1_i hX (post := (bl_Q1 (w_X9_seen (xs (x + (1 : Int32)).toNatClampNeg) (xs (x + (2 : Int32)).toNatClampNeg) (xs (x + (3 : Int32)).toNatClampNeg) τ))) [.int (xs (x + (1 : Int32)).toNatClampNeg), .int (xs (x + (2 : Int32)).toNatClampNeg), .int (xs (x + (3 : Int32)).toNatClampNeg)] [] yk_X8_seen yv_X8_seen lk_L_105 rfl rfl kc_0 rfl rfl (Nat.le_of_ble_eq_true rfl) ⟨Nat.le_of_ble_eq_true rfl, Nat.le_of_ble_eq_true rfl⟩ dL_law_758 (fun _ => m_X8_seen w (bl_Q1.of (s_seen hR))) (fun r σ1 => ?_)
  refine bk_aload_n hX 1 dL_law_761 rfl ?_
  refine bl_arg hX hs bk_ci_1 hin.1 dL_law_762 dL_law_763 dL_law_764 dL_law_765 dL_law_766 ?_
  refine bl_arg hX hs bk_ci_2 hin.2.1 dL_law_767 dL_law_768 dL_law_769 dL_law_770 dL_law_771 ?_
  refine bl_arg hX hs bk_ci_3 hin.2.2.1 dL_law_772 dL_law_773 dL_law_774 dL_law_775 dL_law_776 ?_
  refine bl_call2_i hX (post := bl_Q2 r σ1) [.int (xs (x + (1 : Int32)).toNatClampNeg), .int (xs (x + (2 : Int32)).toNatClampNeg), .int (xs (x + (3 : Int32)).toNatClampNeg)] [.int r] yk_X9_seen yv_X9_seen lk_L_108 rfl rfl km_o rfl rfl (Nat.le_of_ble_eq_true rfl) ⟨Nat.le_of_ble_eq_true rfl, Nat.le_of_ble_eq_true rfl⟩ dL_law_777 (fun z => m_X9_seen (bl_w lyC.2 w) z.to) (fun r' τ1 => ?_)
  exact bl_endi hX dL_law_780 rfl hk
theorem lc_forget {w : bk_W} {X : bk_X} {b L : Nat} {xs : Nat → Int32} {x : Int32} {σ τ : bk_S} (hX : bk_Ok bl_K w X code RL 4 13 526) (hs : bl_Sc X b L xs) (hin : bl_in x L) (hR : RR σ τ) (hk : ∀ σ' τ', RR σ' τ' → bk_At bl_K w X 1249 (bl_lv w b x) [] (bl_s lyC.2 σ' τ')) : bk_At bl_K w X 785 (bl_lv w b x) [] (bl_s lyC.2 σ τ) := by
  refine (?_ : True → _) trivial
  refine bk_aload_n hX 2 dL_law_785 rfl ?_
  refine bl_call1_i hX (post := (bl_Q1 (w_X9_forget τ))) [] [] yk_X8_forget yv_X8_forget lk_L_109 rfl rfl kc_0 rfl rfl (Nat.le_of_ble_eq_true rfl) ⟨Nat.le_of_ble_eq_true rfl, Nat.le_of_ble_eq_true rfl⟩ dL_law_786 (fun _ => m_X8_forget w (bl_Q1.of (s_forget hR))) (fun r σ1 => ?_)
  refine bk_aload_n hX 1 dL_law_789 rfl ?_
  refine bl_call2_i hX (post := bl_Q2 r σ1) [] [.int r] yk_X9_forget yv_X9_forget lk_L_112 rfl rfl km_o rfl rfl (Nat.le_of_ble_eq_true rfl) ⟨Nat.le_of_ble_eq_true rfl, Nat.le_of_ble_eq_true rfl⟩ dL_law_790 (fun z => m_X9_forget (bl_w lyC.2 w) z.to) (fun r' τ1 => ?_)
  exact bl_endi hX dL_law_793 rfl hk
theorem lc_never {w : bk_W} {X : bk_X} {b L : Nat} {xs : Nat → Int32} {x : Int32} {σ τ : bk_S} (hX : bk_Ok bl_K w X code RL 4 13 526) (hs : bl_Sc X b L xs) (hin : bl_in x L) (hR : RR σ τ) (hk : ∀ σ' τ', RR σ' τ' → bk_At bl_K w X 1249 (bl_lv w b x) [] (bl_s lyC.2 σ' τ')) : bk_At bl_K w X 798 (bl_lv w b x) [] (bl_s lyC.2 σ τ) := by
  refine (?_ : True → _) trivial
  refine bk_aload_n hX 2 dL_law_798 rfl ?_
  refine bl_call1_i hX (post := (bl_Q1 (w_X9_never τ))) [] [] yk_X8_never yv_X8_never lk_L_113 rfl rfl kc_0 rfl rfl (Nat.le_of_ble_eq_true rfl) ⟨Nat.le_of_ble_eq_true rfl, Nat.le_of_ble_eq_true rfl⟩ dL_law_799 (fun _ => m_X8_never w (bl_Q1.of (s_never hR))) (fun r σ1 => ?_)
  refine bk_aload_n hX 1 dL_law_802 rfl ?_
  refine bl_call2_i hX (post := bl_Q2 r σ1) [] [.int r] yk_X9_never yv_X9_never lk_L_116 rfl rfl km_o rfl rfl (Nat.le_of_ble_eq_true rfl) ⟨Nat.le_of_ble_eq_true rfl, Nat.le_of_ble_eq_true rfl⟩ dL_law_803 (fun z => m_X9_never (bl_w lyC.2 w) z.to) (fun r' τ1 => ?_)
  exact bl_endi hX dL_law_806 rfl hk
theorem lc_was {w : bk_W} {X : bk_X} {b L : Nat} {xs : Nat → Int32} {x : Int32} {σ τ : bk_S} (hX : bk_Ok bl_K w X code RL 4 13 526) (hs : bl_Sc X b L xs) (hin : bl_in x L) (hR : RR σ τ) (hk : ∀ σ' τ', RR σ' τ' → bk_At bl_K w X 1249 (bl_lv w b x) [] (bl_s lyC.2 σ' τ')) : bk_At bl_K w X 811 (bl_lv w b x) [] (bl_s lyC.2 σ τ) := by
  refine (?_ : True → _) trivial
  refine bk_aload_n hX 2 dL_law_811 rfl ?_
  refine bl_arg hX hs bk_ci_1 hin.1 dL_law_812 dL_law_813 dL_law_814 dL_law_815 dL_law_816 ?_
  refine bl_arg hX hs bk_ci_2 hin.2.1 dL_law_817 dL_law_818 dL_law_819 dL_law_820 dL_law_821 ?_
  refine bl_call1_i hX (post := (bl_Q1 (w_X9_was (xs (x + (1 : Int32)).toNatClampNeg) (xs (x + (2 : Int32)).toNatClampNeg) τ))) [.int (xs (x + (1 : Int32)).toNatClampNeg), .int (xs (x + (2 : Int32)).toNatClampNeg)] [] yk_X8_was yv_X8_was lk_L_117 rfl rfl kc_0 rfl rfl (Nat.le_of_ble_eq_true rfl) ⟨Nat.le_of_ble_eq_true rfl, Nat.le_of_ble_eq_true rfl⟩ dL_law_822 (fun _ => m_X8_was w (bl_Q1.of (s_was hR))) (fun r σ1 => ?_)
  refine bk_aload_n hX 1 dL_law_825 rfl ?_
  refine bl_arg hX hs bk_ci_1 hin.1 dL_law_826 dL_law_827 dL_law_828 dL_law_829 dL_law_830 ?_
  refine bl_arg hX hs bk_ci_2 hin.2.1 dL_law_831 dL_law_832 dL_law_833 dL_law_834 dL_law_835 ?_
  refine bl_call2_i hX (post := bl_Q2 r σ1) [.int (xs (x + (1 : Int32)).toNatClampNeg), .int (xs (x + (2 : Int32)).toNatClampNeg)] [.int r] yk_X9_was yv_X9_was lk_L_120 rfl rfl km_o rfl rfl (Nat.le_of_ble_eq_true rfl) ⟨Nat.le_of_ble_eq_true rfl, Nat.le_of_ble_eq_true rfl⟩ dL_law_836 (fun z => m_X9_was (bl_w lyC.2 w) z.to) (fun r' τ1 => ?_)
  exact bl_endi hX dL_law_839 rfl hk
theorem lc_ask {w : bk_W} {X : bk_X} {b L : Nat} {xs : Nat → Int32} {x : Int32} {σ τ : bk_S} (hX : bk_Ok bl_K w X code RL 4 13 526) (hs : bl_Sc X b L xs) (hin : bl_in x L) (hR : RR σ τ) (hk : ∀ σ' τ', RR σ' τ' → bk_At bl_K w X 1249 (bl_lv w b x) [] (bl_s lyC.2 σ' τ')) : bk_At bl_K w X 844 (bl_lv w b x) [] (bl_s lyC.2 σ τ) := by
  refine (?_ : True → _) trivial
  refine bk_aload_n hX 2 dL_law_844 rfl ?_
  refine bl_arg hX hs bk_ci_1 hin.1 dL_law_845 dL_law_846 dL_law_847 dL_law_848 dL_law_849 ?_
  refine bl_call1_i hX (post := (bl_Q1 (w_X9_ask (xs (x + (1 : Int32)).toNatClampNeg) τ))) [.int (xs (x + (1 : Int32)).toNatClampNeg)] [] yk_X8_ask yv_X8_ask lk_L_121 rfl rfl kc_0 rfl rfl (Nat.le_of_ble_eq_true rfl) ⟨Nat.le_of_ble_eq_true rfl, Nat.le_of_ble_eq_true rfl⟩ dL_law_850 (fun _ => m_X8_ask w (bl_Q1.of (s_ask hR))) (fun r σ1 => ?_)
  refine bk_aload_n hX 1 dL_law_853 rfl ?_
  refine bl_arg hX hs bk_ci_1 hin.1 dL_law_854 dL_law_855 dL_law_856 dL_law_857 dL_law_858 ?_
  refine bl_call2_i hX (post := bl_Q2 r σ1) [.int (xs (x + (1 : Int32)).toNatClampNeg)] [.int r] yk_X9_ask yv_X9_ask lk_L_124 rfl rfl km_o rfl rfl (Nat.le_of_ble_eq_true rfl) ⟨Nat.le_of_ble_eq_true rfl, Nat.le_of_ble_eq_true rfl⟩ dL_law_859 (fun z => m_X9_ask (bl_w lyC.2 w) z.to) (fun r' τ1 => ?_)
  exact bl_endi hX dL_law_862 rfl hk
theorem lc_chance {w : bk_W} {X : bk_X} {b L : Nat} {xs : Nat → Int32} {x : Int32} {σ τ : bk_S} (hX : bk_Ok bl_K w X code RL 4 13 526) (hs : bl_Sc X b L xs) (hin : bl_in x L) (hR : RR σ τ) (hk : ∀ σ' τ', RR σ' τ' → bk_At bl_K w X 1249 (bl_lv w b x) [] (bl_s lyC.2 σ' τ')) : bk_At bl_K w X 867 (bl_lv w b x) [] (bl_s lyC.2 σ τ) := by
  refine (?_ : True → _) trivial
  refine bk_aload_n hX 2 dL_law_867 rfl ?_
  refine bl_arg hX hs bk_ci_1 hin.1 dL_law_868 dL_law_869 dL_law_870 dL_law_871 dL_law_872 ?_
  refine bl_arg hX hs bk_ci_2 hin.2.1 dL_law_873 dL_law_874 dL_law_875 dL_law_876 dL_law_877 ?_
  refine bl_arg hX hs bk_ci_3 hin.2.2.1 dL_law_878 dL_law_879 dL_law_880 dL_law_881 dL_law_882 ?_
  refine bl_call1_l hX (post := (bl_Q1 (w_X9_chance (xs (x + (1 : Int32)).toNatClampNeg) (xs (x + (2 : Int32)).toNatClampNeg) (xs (x + (3 : Int32)).toNatClampNeg) τ))) [.int (xs (x + (1 : Int32)).toNatClampNeg), .int (xs (x + (2 : Int32)).toNatClampNeg), .int (xs (x + (3 : Int32)).toNatClampNeg)] [] yk_X8_chance yv_X8_chance lk_L_125 rfl rfl kc_0 rfl rfl (Nat.le_of_ble_eq_true rfl) ⟨Nat.le_of_ble_eq_true rfl, Nat.le_of_ble_eq_true rfl⟩ dL_law_883 (fun _ => m_X8_chance w (bl_Q1.of (s_chance hR))) (fun r σ1 => ?_)
  refine bk_aload_n hX 1 dL_law_886 rfl ?_
  refine bl_arg hX hs bk_ci_1 hin.1 dL_law_887 dL_law_888 dL_law_889 dL_law_890 dL_law_891 ?_
  refine bl_arg hX hs bk_ci_2 hin.2.1 dL_law_892 dL_law_893 dL_law_894 dL_law_895 dL_law_896 ?_
  refine bl_arg hX hs bk_ci_3 hin.2.2.1 dL_law_897 dL_law_898 dL_law_899 dL_law_900 dL_law_901 ?_
  refine bl_call2_l hX (post := bl_Q2 r σ1) [.int (xs (x + (1 : Int32)).toNatClampNeg), .int (xs (x + (2 : Int32)).toNatClampNeg), .int (xs (x + (3 : Int32)).toNatClampNeg)] [.long r] yk_X9_chance yv_X9_chance lk_L_129 rfl rfl km_o rfl rfl (Nat.le_of_ble_eq_true rfl) ⟨Nat.le_of_ble_eq_true rfl, Nat.le_of_ble_eq_true rfl⟩ dL_law_902 (fun z => m_X9_chance (bl_w lyC.2 w) z.to) (fun r' τ1 => ?_)
  exact bl_endl hX dL_law_905 dL_law_906 rfl hk
theorem lc_seasons {w : bk_W} {X : bk_X} {b L : Nat} {xs : Nat → Int32} {x : Int32} {σ τ : bk_S} (hX : bk_Ok bl_K w X code RL 4 13 526) (hs : bl_Sc X b L xs) (hin : bl_in x L) (hR : RR σ τ) (hk : ∀ σ' τ', RR σ' τ' → bk_At bl_K w X 1249 (bl_lv w b x) [] (bl_s lyC.2 σ' τ')) : bk_At bl_K w X 911 (bl_lv w b x) [] (bl_s lyC.2 σ τ) := by
  refine (?_ : True → _) trivial
  refine bk_aload_n hX 2 dL_law_911 rfl ?_
  refine bl_arg hX hs bk_ci_1 hin.1 dL_law_912 dL_law_913 dL_law_914 dL_law_915 dL_law_916 ?_
  refine bl_arg hX hs bk_ci_2 hin.2.1 dL_law_917 dL_law_918 dL_law_919 dL_law_920 dL_law_921 ?_
  refine bl_arg hX hs bk_ci_3 hin.2.2.1 dL_law_922 dL_law_923 dL_law_924 dL_law_925 dL_law_926 ?_
  refine bl_call1_i hX (post := (bl_Q1 (w_X9_seasons (xs (x + (1 : Int32)).toNatClampNeg) (xs (x + (2 : Int32)).toNatClampNeg) (xs (x + (3 : Int32)).toNatClampNeg) τ))) [.int (xs (x + (1 : Int32)).toNatClampNeg), .int (xs (x + (2 : Int32)).toNatClampNeg), .int (xs (x + (3 : Int32)).toNatClampNeg)] [] yk_X8_seasons yv_X8_seasons lk_L_130 rfl rfl kc_0 rfl rfl (Nat.le_of_ble_eq_true rfl) ⟨Nat.le_of_ble_eq_true rfl, Nat.le_of_ble_eq_true rfl⟩ dL_law_927 (fun _ => m_X8_seasons w (bl_Q1.of (s_seasons hR))) (fun r σ1 => ?_)
  refine bk_aload_n hX 1 dL_law_930 rfl ?_
  refine bl_arg hX hs bk_ci_1 hin.1 dL_law_931 dL_law_932 dL_law_933 dL_law_934 dL_law_935 ?_
  refine bl_arg hX hs bk_ci_2 hin.2.1 dL_law_936 dL_law_937 dL_law_938 dL_law_939 dL_law_940 ?_
  refine bl_arg hX hs bk_ci_3 hin.2.2.1 dL_law_941 dL_law_942 dL_law_943 dL_law_944 dL_law_945 ?_
  refine bl_call2_i hX (post := bl_Q2 r σ1) [.int (xs (x + (1 : Int32)).toNatClampNeg), .int (xs (x + (2 : Int32)).toNatClampNeg), .int (xs (x + (3 : Int32)).toNatClampNeg)] [.int r] yk_X9_seasons yv_X9_seasons lk_L_133 rfl rfl km_o rfl rfl (Nat.le_of_ble_eq_true rfl) ⟨Nat.le_of_ble_eq_true rfl, Nat.le_of_ble_eq_true rfl⟩ dL_law_946 (fun z => m_X9_seasons (bl_w lyC.2 w) z.to) (fun r' τ1 => ?_)
  exact bl_endi hX dL_law_949 rfl hk
theorem lc_sheet {w : bk_W} {X : bk_X} {b L : Nat} {xs : Nat → Int32} {x : Int32} {σ τ : bk_S} (hX : bk_Ok bl_K w X code RL 4 13 526) (hs : bl_Sc X b L xs) (hin : bl_in x L) (hR : RR σ τ) (hk : ∀ σ' τ', RR σ' τ' → bk_At bl_K w X 1249 (bl_lv w b x) [] (bl_s lyC.2 σ' τ')) : bk_At bl_K w X 954 (bl_lv w b x) [] (bl_s lyC.2 σ τ) := by
  refine (?_ : True → _) trivial
  refine bk_aload_n hX 2 dL_law_954 rfl ?_
  refine bl_arg hX hs bk_ci_1 hin.1 dL_law_955 dL_law_956 dL_law_957 dL_law_958 dL_law_959 ?_
  refine bl_arg hX hs bk_ci_2 hin.2.1 dL_law_960 dL_law_961 dL_law_962 dL_law_963 dL_law_964 ?_
  refine bl_arg hX hs bk_ci_3 hin.2.2.1 dL_law_965 dL_law_966 dL_law_967 dL_law_968 dL_law_969 ?_
  refine bl_call1_i hX (post := (bl_Q1 (w_X9_sheet (xs (x + (1 : Int32)).toNatClampNeg) (xs (x + (2 : Int32)).toNatClampNeg) (xs (x + (3 : Int32)).toNatClampNeg) τ))) [.int (xs (x + (1 : Int32)).toNatClampNeg), .int (xs (x + (2 : Int32)).toNatClampNeg), .int (xs (x + (3 : Int32)).toNatClampNeg)] [] yk_X8_sheet yv_X8_sheet lk_L_134 rfl rfl kc_0 rfl rfl (Nat.le_of_ble_eq_true rfl) ⟨Nat.le_of_ble_eq_true rfl, Nat.le_of_ble_eq_true rfl⟩ dL_law_970 (fun _ => m_X8_sheet w (bl_Q1.of (s_sheet hR))) (fun r σ1 => ?_)
  refine bk_aload_n hX 1 dL_law_973 rfl ?_
  refine bl_arg hX hs bk_ci_1 hin.1 dL_law_974 dL_law_975 dL_law_976 dL_law_977 dL_law_978 ?_
  refine bl_arg hX hs bk_ci_2 hin.2.1 dL_law_979 dL_law_980 dL_law_981 dL_law_982 dL_law_983 ?_
  refine bl_arg hX hs bk_ci_3 hin.2.2.1 dL_law_984 dL_law_985 dL_law_986 dL_law_987 dL_law_988 ?_
  refine bl_call2_i hX (post := bl_Q2 r σ1) [.int (xs (x + (1 : Int32)).toNatClampNeg), .int (xs (x + (2 : Int32)).toNatClampNeg), .int (xs (x + (3 : Int32)).toNatClampNeg)] [.int r] yk_X9_sheet yv_X9_sheet lk_L_137 rfl rfl km_o rfl rfl (Nat.le_of_ble_eq_true rfl) ⟨Nat.le_of_ble_eq_true rfl, Nat.le_of_ble_eq_true rfl⟩ dL_law_989 (fun z => m_X9_sheet (bl_w lyC.2 w) z.to) (fun r' τ1 => ?_)
  exact bl_endi hX dL_law_992 rfl hk
theorem lc_lose {w : bk_W} {X : bk_X} {b L : Nat} {xs : Nat → Int32} {x : Int32} {σ τ : bk_S} (hX : bk_Ok bl_K w X code RL 4 13 526) (hs : bl_Sc X b L xs) (hin : bl_in x L) (hR : RR σ τ) (hk : ∀ σ' τ', RR σ' τ' → bk_At bl_K w X 1249 (bl_lv w b x) [] (bl_s lyC.2 σ' τ')) : bk_At bl_K w X 997 (bl_lv w b x) [] (bl_s lyC.2 σ τ) := by
  refine (?_ : True → _) trivial
  refine bk_aload_n hX 2 dL_law_997 rfl ?_
  refine bl_arg hX hs bk_ci_1 hin.1 dL_law_998 dL_law_999 dL_law_1000 dL_law_1001 dL_law_1002 ?_
  refine bl_call1_i hX (post := (bl_Q1 (w_X9_lose (xs (x + (1 : Int32)).toNatClampNeg) τ))) [.int (xs (x + (1 : Int32)).toNatClampNeg)] [] yk_X8_lose yv_X8_lose lk_L_138 rfl rfl kc_0 rfl rfl (Nat.le_of_ble_eq_true rfl) ⟨Nat.le_of_ble_eq_true rfl, Nat.le_of_ble_eq_true rfl⟩ dL_law_1003 (fun _ => m_X8_lose w (bl_Q1.of (s_lose hR))) (fun r σ1 => ?_)
  refine bk_aload_n hX 1 dL_law_1006 rfl ?_
  refine bl_arg hX hs bk_ci_1 hin.1 dL_law_1007 dL_law_1008 dL_law_1009 dL_law_1010 dL_law_1011 ?_
  refine bl_call2_i hX (post := bl_Q2 r σ1) [.int (xs (x + (1 : Int32)).toNatClampNeg)] [.int r] yk_X9_lose yv_X9_lose lk_L_141 rfl rfl km_o rfl rfl (Nat.le_of_ble_eq_true rfl) ⟨Nat.le_of_ble_eq_true rfl, Nat.le_of_ble_eq_true rfl⟩ dL_law_1012 (fun z => m_X9_lose (bl_w lyC.2 w) z.to) (fun r' τ1 => ?_)
  exact bl_endi hX dL_law_1015 rfl hk
theorem lc_put {w : bk_W} {X : bk_X} {b L : Nat} {xs : Nat → Int32} {x : Int32} {σ τ : bk_S} (hX : bk_Ok bl_K w X code RL 4 13 526) (hs : bl_Sc X b L xs) (hin : bl_in x L) (hR : RR σ τ) (hk : ∀ σ' τ', RR σ' τ' → bk_At bl_K w X 1249 (bl_lv w b x) [] (bl_s lyC.2 σ' τ')) : bk_At bl_K w X 1020 (bl_lv w b x) [] (bl_s lyC.2 σ τ) := by
  refine (?_ : True → _) trivial
  refine bk_aload_n hX 2 dL_law_1020 rfl ?_
  refine bl_arg hX hs bk_ci_1 hin.1 dL_law_1021 dL_law_1022 dL_law_1023 dL_law_1024 dL_law_1025 ?_
  refine bl_arg hX hs bk_ci_2 hin.2.1 dL_law_1026 dL_law_1027 dL_law_1028 dL_law_1029 dL_law_1030 ?_
  refine bl_arg hX hs bk_ci_3 hin.2.2.1 dL_law_1031 dL_law_1032 dL_law_1033 dL_law_1034 dL_law_1035 ?_
  refine bl_arg hX hs bk_ci_4 hin.2.2.2.1 dL_law_1036 dL_law_1037 dL_law_1038 dL_law_1039 dL_law_1040 ?_
  refine bl_call1_i hX (post := (bl_Q1 (w_X9_put (xs (x + (1 : Int32)).toNatClampNeg) (xs (x + (2 : Int32)).toNatClampNeg) (xs (x + (3 : Int32)).toNatClampNeg) (xs (x + (4 : Int32)).toNatClampNeg) τ))) [.int (xs (x + (1 : Int32)).toNatClampNeg), .int (xs (x + (2 : Int32)).toNatClampNeg), .int (xs (x + (3 : Int32)).toNatClampNeg), .int (xs (x + (4 : Int32)).toNatClampNeg)] [] yk_X8_put yv_X8_put lk_L_142 rfl rfl kc_0 rfl rfl (Nat.le_of_ble_eq_true rfl) ⟨Nat.le_of_ble_eq_true rfl, Nat.le_of_ble_eq_true rfl⟩ dL_law_1041 (fun _ => m_X8_put w (bl_Q1.of (s_put hR))) (fun r σ1 => ?_)
  refine bk_aload_n hX 1 dL_law_1044 rfl ?_
  refine bl_arg hX hs bk_ci_1 hin.1 dL_law_1045 dL_law_1046 dL_law_1047 dL_law_1048 dL_law_1049 ?_
  refine bl_arg hX hs bk_ci_2 hin.2.1 dL_law_1050 dL_law_1051 dL_law_1052 dL_law_1053 dL_law_1054 ?_
  refine bl_arg hX hs bk_ci_3 hin.2.2.1 dL_law_1055 dL_law_1056 dL_law_1057 dL_law_1058 dL_law_1059 ?_
  refine bl_arg hX hs bk_ci_4 hin.2.2.2.1 dL_law_1060 dL_law_1061 dL_law_1062 dL_law_1063 dL_law_1064 ?_
  refine bl_call2_i hX (post := bl_Q2 r σ1) [.int (xs (x + (1 : Int32)).toNatClampNeg), .int (xs (x + (2 : Int32)).toNatClampNeg), .int (xs (x + (3 : Int32)).toNatClampNeg), .int (xs (x + (4 : Int32)).toNatClampNeg)] [.int r] yk_X9_put yv_X9_put lk_L_146 rfl rfl km_o rfl rfl (Nat.le_of_ble_eq_true rfl) ⟨Nat.le_of_ble_eq_true rfl, Nat.le_of_ble_eq_true rfl⟩ dL_law_1065 (fun z => m_X9_put (bl_w lyC.2 w) z.to) (fun r' τ1 => ?_)
  exact bl_endi hX dL_law_1068 rfl hk
theorem lc_get {w : bk_W} {X : bk_X} {b L : Nat} {xs : Nat → Int32} {x : Int32} {σ τ : bk_S} (hX : bk_Ok bl_K w X code RL 4 13 526) (hs : bl_Sc X b L xs) (hin : bl_in x L) (hR : RR σ τ) (hk : ∀ σ' τ', RR σ' τ' → bk_At bl_K w X 1249 (bl_lv w b x) [] (bl_s lyC.2 σ' τ')) : bk_At bl_K w X 1073 (bl_lv w b x) [] (bl_s lyC.2 σ τ) := by
  refine (?_ : True → _) trivial
  refine bk_aload_n hX 2 dL_law_1073 rfl ?_
  refine bl_arg hX hs bk_ci_1 hin.1 dL_law_1074 dL_law_1075 dL_law_1076 dL_law_1077 dL_law_1078 ?_
  refine bl_arg hX hs bk_ci_2 hin.2.1 dL_law_1079 dL_law_1080 dL_law_1081 dL_law_1082 dL_law_1083 ?_
  refine bl_arg hX hs bk_ci_3 hin.2.2.1 dL_law_1084 dL_law_1085 dL_law_1086 dL_law_1087 dL_law_1088 ?_
  refine bl_call1_i hX (post := (bl_Q1 (w_X9_get (xs (x + (1 : Int32)).toNatClampNeg) (xs (x + (2 : Int32)).toNatClampNeg) (xs (x + (3 : Int32)).toNatClampNeg) τ))) [.int (xs (x + (1 : Int32)).toNatClampNeg), .int (xs (x + (2 : Int32)).toNatClampNeg), .int (xs (x + (3 : Int32)).toNatClampNeg)] [] yk_X8_get yv_X8_get lk_L_147 rfl rfl kc_0 rfl rfl (Nat.le_of_ble_eq_true rfl) ⟨Nat.le_of_ble_eq_true rfl, Nat.le_of_ble_eq_true rfl⟩ dL_law_1089 (fun _ => m_X8_get w (bl_Q1.of (s_get hR))) (fun r σ1 => ?_)
  refine bk_aload_n hX 1 dL_law_1092 rfl ?_
  refine bl_arg hX hs bk_ci_1 hin.1 dL_law_1093 dL_law_1094 dL_law_1095 dL_law_1096 dL_law_1097 ?_
  refine bl_arg hX hs bk_ci_2 hin.2.1 dL_law_1098 dL_law_1099 dL_law_1100 dL_law_1101 dL_law_1102 ?_
  refine bl_arg hX hs bk_ci_3 hin.2.2.1 dL_law_1103 dL_law_1104 dL_law_1105 dL_law_1106 dL_law_1107 ?_
  refine bl_call2_i hX (post := bl_Q2 r σ1) [.int (xs (x + (1 : Int32)).toNatClampNeg), .int (xs (x + (2 : Int32)).toNatClampNeg), .int (xs (x + (3 : Int32)).toNatClampNeg)] [.int r] yk_X9_get yv_X9_get lk_L_150 rfl rfl km_o rfl rfl (Nat.le_of_ble_eq_true rfl) ⟨Nat.le_of_ble_eq_true rfl, Nat.le_of_ble_eq_true rfl⟩ dL_law_1108 (fun z => m_X9_get (bl_w lyC.2 w) z.to) (fun r' τ1 => ?_)
  exact bl_endi hX dL_law_1111 rfl hk
theorem lc_copy {w : bk_W} {X : bk_X} {b L : Nat} {xs : Nat → Int32} {x : Int32} {σ τ : bk_S} (hX : bk_Ok bl_K w X code RL 4 13 526) (hs : bl_Sc X b L xs) (hin : bl_in x L) (hR : RR σ τ) (hk : ∀ σ' τ', RR σ' τ' → bk_At bl_K w X 1249 (bl_lv w b x) [] (bl_s lyC.2 σ' τ')) : bk_At bl_K w X 1116 (bl_lv w b x) [] (bl_s lyC.2 σ τ) := by
  refine (?_ : True → _) trivial
  refine bk_aload_n hX 2 dL_law_1116 rfl ?_
  refine bl_arg hX hs bk_ci_1 hin.1 dL_law_1117 dL_law_1118 dL_law_1119 dL_law_1120 dL_law_1121 ?_
  refine bl_arg hX hs bk_ci_2 hin.2.1 dL_law_1122 dL_law_1123 dL_law_1124 dL_law_1125 dL_law_1126 ?_
  refine bl_arg hX hs bk_ci_3 hin.2.2.1 dL_law_1127 dL_law_1128 dL_law_1129 dL_law_1130 dL_law_1131 ?_
  refine bl_arg hX hs bk_ci_4 hin.2.2.2.1 dL_law_1132 dL_law_1133 dL_law_1134 dL_law_1135 dL_law_1136 ?_
  refine bl_arg hX hs bk_ci_5 hin.2.2.2.2 dL_law_1137 dL_law_1138 dL_law_1139 dL_law_1140 dL_law_1141 ?_
  refine bl_call1_i hX (post := (bl_Q1 (w_X9_copy (xs (x + (1 : Int32)).toNatClampNeg) (xs (x + (2 : Int32)).toNatClampNeg) (xs (x + (3 : Int32)).toNatClampNeg) (xs (x + (4 : Int32)).toNatClampNeg) (xs (x + (5 : Int32)).toNatClampNeg) τ))) [.int (xs (x + (1 : Int32)).toNatClampNeg), .int (xs (x + (2 : Int32)).toNatClampNeg), .int (xs (x + (3 : Int32)).toNatClampNeg), .int (xs (x + (4 : Int32)).toNatClampNeg), .int (xs (x + (5 : Int32)).toNatClampNeg)] [] yk_X8_copy yv_X8_copy lk_L_151 rfl rfl kc_0 rfl rfl (Nat.le_of_ble_eq_true rfl) ⟨Nat.le_of_ble_eq_true rfl, Nat.le_of_ble_eq_true rfl⟩ dL_law_1142 (fun _ => m_X8_copy w (bl_Q1.of (s_copy hR))) (fun r σ1 => ?_)
  refine bk_aload_n hX 1 dL_law_1145 rfl ?_
  refine bl_arg hX hs bk_ci_1 hin.1 dL_law_1146 dL_law_1147 dL_law_1148 dL_law_1149 dL_law_1150 ?_
  refine bl_arg hX hs bk_ci_2 hin.2.1 dL_law_1151 dL_law_1152 dL_law_1153 dL_law_1154 dL_law_1155 ?_
  refine bl_arg hX hs bk_ci_3 hin.2.2.1 dL_law_1156 dL_law_1157 dL_law_1158 dL_law_1159 dL_law_1160 ?_
  refine bl_arg hX hs bk_ci_4 hin.2.2.2.1 dL_law_1161 dL_law_1162 dL_law_1163 dL_law_1164 dL_law_1165 ?_
  refine bl_arg hX hs bk_ci_5 hin.2.2.2.2 dL_law_1166 dL_law_1167 dL_law_1168 dL_law_1169 dL_law_1170 ?_
  refine bl_call2_i hX (post := bl_Q2 r σ1) [.int (xs (x + (1 : Int32)).toNatClampNeg), .int (xs (x + (2 : Int32)).toNatClampNeg), .int (xs (x + (3 : Int32)).toNatClampNeg), .int (xs (x + (4 : Int32)).toNatClampNeg), .int (xs (x + (5 : Int32)).toNatClampNeg)] [.int r] yk_X9_copy yv_X9_copy lk_L_155 rfl rfl km_o rfl rfl (Nat.le_of_ble_eq_true rfl) ⟨Nat.le_of_ble_eq_true rfl, Nat.le_of_ble_eq_true rfl⟩ dL_law_1171 (fun z => m_X9_copy (bl_w lyC.2 w) z.to) (fun r' τ1 => ?_)
  exact bl_endi hX dL_law_1174 rfl hk
theorem lc_write {w : bk_W} {X : bk_X} {b L : Nat} {xs : Nat → Int32} {x : Int32} {σ τ : bk_S} (hX : bk_Ok bl_K w X code RL 4 13 526) (hs : bl_Sc X b L xs) (hin : bl_in x L) (hR : RR σ τ) (hk : ∀ σ' τ', RR σ' τ' → bk_At bl_K w X 1249 (bl_lv w b x) [] (bl_s lyC.2 σ' τ')) : bk_At bl_K w X 1179 (bl_lv w b x) [] (bl_s lyC.2 σ τ) := by
  refine (?_ : True → _) trivial
  refine bk_aload_n hX 2 dL_law_1179 rfl ?_
  refine bl_arg hX hs bk_ci_1 hin.1 dL_law_1180 dL_law_1181 dL_law_1182 dL_law_1183 dL_law_1184 ?_
  refine bl_arg hX hs bk_ci_2 hin.2.1 dL_law_1185 dL_law_1186 dL_law_1187 dL_law_1188 dL_law_1189 ?_
  refine bl_call1_i hX (post := (bl_Q1 (w_X9_write (xs (x + (1 : Int32)).toNatClampNeg) (xs (x + (2 : Int32)).toNatClampNeg) τ))) [.int (xs (x + (1 : Int32)).toNatClampNeg), .int (xs (x + (2 : Int32)).toNatClampNeg)] [] yk_X8_write yv_X8_write lk_L_156 rfl rfl kc_0 rfl rfl (Nat.le_of_ble_eq_true rfl) ⟨Nat.le_of_ble_eq_true rfl, Nat.le_of_ble_eq_true rfl⟩ dL_law_1190 (fun _ => m_X8_write w (bl_Q1.of (s_write hR))) (fun r σ1 => ?_)
  refine bk_aload_n hX 1 dL_law_1193 rfl ?_
  refine bl_arg hX hs bk_ci_1 hin.1 dL_law_1194 dL_law_1195 dL_law_1196 dL_law_1197 dL_law_1198 ?_
  refine bl_arg hX hs bk_ci_2 hin.2.1 dL_law_1199 dL_law_1200 dL_law_1201 dL_law_1202 dL_law_1203 ?_
  refine bl_call2_i hX (post := bl_Q2 r σ1) [.int (xs (x + (1 : Int32)).toNatClampNeg), .int (xs (x + (2 : Int32)).toNatClampNeg)] [.int r] yk_X9_write yv_X9_write lk_L_159 rfl rfl km_o rfl rfl (Nat.le_of_ble_eq_true rfl) ⟨Nat.le_of_ble_eq_true rfl, Nat.le_of_ble_eq_true rfl⟩ dL_law_1204 (fun z => m_X9_write (bl_w lyC.2 w) z.to) (fun r' τ1 => ?_)
  exact bl_endi hX dL_law_1207 rfl hk
theorem lc_count {w : bk_W} {X : bk_X} {b L : Nat} {xs : Nat → Int32} {x : Int32} {σ τ : bk_S} (hX : bk_Ok bl_K w X code RL 4 13 526) (hs : bl_Sc X b L xs) (hin : bl_in x L) (hR : RR σ τ) (hk : ∀ σ' τ', RR σ' τ' → bk_At bl_K w X 1249 (bl_lv w b x) [] (bl_s lyC.2 σ' τ')) : bk_At bl_K w X 1212 (bl_lv w b x) [] (bl_s lyC.2 σ τ) := by
  refine (?_ : True → _) trivial
  refine bk_aload_n hX 2 dL_law_1212 rfl ?_
  refine bl_arg hX hs bk_ci_1 hin.1 dL_law_1213 dL_law_1214 dL_law_1215 dL_law_1216 dL_law_1217 ?_
  refine bl_call1_i hX (post := (bl_Q1 (w_X9_count (xs (x + (1 : Int32)).toNatClampNeg) τ))) [.int (xs (x + (1 : Int32)).toNatClampNeg)] [] yk_X8_count yv_X8_count lk_L_160 rfl rfl kc_0 rfl rfl (Nat.le_of_ble_eq_true rfl) ⟨Nat.le_of_ble_eq_true rfl, Nat.le_of_ble_eq_true rfl⟩ dL_law_1218 (fun _ => m_X8_count w (bl_Q1.of (s_count hR))) (fun r σ1 => ?_)
  refine bk_aload_n hX 1 dL_law_1221 rfl ?_
  refine bl_arg hX hs bk_ci_1 hin.1 dL_law_1222 dL_law_1223 dL_law_1224 dL_law_1225 dL_law_1226 ?_
  refine bl_call2_i hX (post := bl_Q2 r σ1) [.int (xs (x + (1 : Int32)).toNatClampNeg)] [.int r] yk_X9_count yv_X9_count lk_L_163 rfl rfl km_o rfl rfl (Nat.le_of_ble_eq_true rfl) ⟨Nat.le_of_ble_eq_true rfl, Nat.le_of_ble_eq_true rfl⟩ dL_law_1227 (fun z => m_X9_count (bl_w lyC.2 w) z.to) (fun r' τ1 => ?_)
  exact bl_endi hX dL_law_1230 rfl hk
theorem lc_digest {w : bk_W} {X : bk_X} {b L : Nat} {xs : Nat → Int32} {x : Int32} {σ τ : bk_S} (hX : bk_Ok bl_K w X code RL 4 13 526) (hs : bl_Sc X b L xs) (hin : bl_in x L) (hR : RR σ τ) (hk : ∀ σ' τ', RR σ' τ' → bk_At bl_K w X 1249 (bl_lv w b x) [] (bl_s lyC.2 σ' τ')) : bk_At bl_K w X 1235 (bl_lv w b x) [] (bl_s lyC.2 σ τ) := by
  refine (?_ : True → _) trivial
  refine bk_aload_n hX 2 dL_law_1235 rfl ?_
  refine bl_call1_l hX (post := (bl_Q1 (w_X9_digest τ))) [] [] yk_X8_digest yv_X8_digest lk_L_164 rfl rfl kc_0 rfl rfl (Nat.le_of_ble_eq_true rfl) ⟨Nat.le_of_ble_eq_true rfl, Nat.le_of_ble_eq_true rfl⟩ dL_law_1236 (fun _ => m_X8_digest w (bl_Q1.of (s_digest hR))) (fun r σ1 => ?_)
  refine bk_aload_n hX 1 dL_law_1239 rfl ?_
  refine bl_call2_l hX (post := bl_Q2 r σ1) [] [.long r] yk_X9_digest yv_X9_digest lk_L_168 rfl rfl km_o rfl rfl (Nat.le_of_ble_eq_true rfl) ⟨Nat.le_of_ble_eq_true rfl, Nat.le_of_ble_eq_true rfl⟩ dL_law_1240 (fun z => m_X9_digest (bl_w lyC.2 w) z.to) (fun r' τ1 => ?_)
  exact bl_endl hX dL_law_1243 dL_law_1244 rfl hk
