section
-- ===== PART A: goes FIRST, ahead of the names: the tables' words, and 'selects' of the private methods out of them =====
/-- a private method of a class that the tables say can be made, by its rows of tables_1 -/
def lw_okq (q : MethodName × Nat) : Prop := (q.1.cls ≠ "java/lang/invoke/MethodHandle" ∧ q.1.cls ≠ "java/lang/invoke/VarHandle") ∧ Cond.instantiable q.1.cls q.2 ∈ tables_1 ∧ Cond.privateMethod q.1 ∈ tables_1 ∧ Cond.instanceMethod q.1 ∈ tables_1
theorem lw_p0 : lw_okq (⟨"BackHooks", "textOf", "(I)LBackHooks$Text;"⟩, 16) := ⟨⟨by decide +kernel, by decide +kernel⟩, List.mem_of_getElem? (i := 15) (by decide +kernel), List.mem_of_getElem? (i := 298) (by decide +kernel), List.mem_of_getElem? (i := 299) (by decide +kernel)⟩
theorem lw_p1 : lw_okq (⟨"BackHooks", "noteChange", "()V"⟩, 16) := ⟨⟨by decide +kernel, by decide +kernel⟩, List.mem_of_getElem? (i := 15) (by decide +kernel), List.mem_of_getElem? (i := 302) (by decide +kernel), List.mem_of_getElem? (i := 303) (by decide +kernel)⟩
theorem lw_p2 : lw_okq (⟨"BackHooks", "refresh", "()V"⟩, 16) := ⟨⟨by decide +kernel, by decide +kernel⟩, List.mem_of_getElem? (i := 15) (by decide +kernel), List.mem_of_getElem? (i := 339) (by decide +kernel), List.mem_of_getElem? (i := 340) (by decide +kernel)⟩
theorem lw_p3 : lw_okq (⟨"BackHooks", "allEvents", "()I"⟩, 16) := ⟨⟨by decide +kernel, by decide +kernel⟩, List.mem_of_getElem? (i := 15) (by decide +kernel), List.mem_of_getElem? (i := 355) (by decide +kernel), List.mem_of_getElem? (i := 356) (by decide +kernel)⟩
theorem lw_p4 : lw_okq (⟨"BackHooks$Setting", "takeEvent", "(III)V"⟩, 8) := ⟨⟨by decide +kernel, by decide +kernel⟩, List.mem_of_getElem? (i := 77) (by decide +kernel), List.mem_of_getElem? (i := 366) (by decide +kernel), List.mem_of_getElem? (i := 367) (by decide +kernel)⟩
theorem lw_p5 : lw_okq (⟨"BackHooks$Course", "begin", "(LBackHooks$Setting;)V"⟩, 12) := ⟨⟨by decide +kernel, by decide +kernel⟩, List.mem_of_getElem? (i := 123) (by decide +kernel), List.mem_of_getElem? (i := 374) (by decide +kernel), List.mem_of_getElem? (i := 375) (by decide +kernel)⟩
theorem lw_p6 : lw_okq (⟨"BackHooks$Course", "heatUp", "(I)V"⟩, 12) := ⟨⟨by decide +kernel, by decide +kernel⟩, List.mem_of_getElem? (i := 123) (by decide +kernel), List.mem_of_getElem? (i := 382) (by decide +kernel), List.mem_of_getElem? (i := 383) (by decide +kernel)⟩
theorem lw_p7 : lw_okq (⟨"BackHooks$Course", "doHooks", "(LBackHooks$Setting;I)V"⟩, 12) := ⟨⟨by decide +kernel, by decide +kernel⟩, List.mem_of_getElem? (i := 123) (by decide +kernel), List.mem_of_getElem? (i := 386) (by decide +kernel), List.mem_of_getElem? (i := 387) (by decide +kernel)⟩
theorem lw_p8 : lw_okq (⟨"BackHooks$Course", "doHook", "(LBackHooks$Setting;IIIZ)V"⟩, 12) := ⟨⟨by decide +kernel, by decide +kernel⟩, List.mem_of_getElem? (i := 123) (by decide +kernel), List.mem_of_getElem? (i := 393) (by decide +kernel), List.mem_of_getElem? (i := 394) (by decide +kernel)⟩
theorem lw_p9 : lw_okq (⟨"BackHooks$Course", "whatIsSaid", "(LBackHooks$Setting;I)I"⟩, 12) := ⟨⟨by decide +kernel, by decide +kernel⟩, List.mem_of_getElem? (i := 123) (by decide +kernel), List.mem_of_getElem? (i := 397) (by decide +kernel), List.mem_of_getElem? (i := 398) (by decide +kernel)⟩
theorem lw_p10 : lw_okq (⟨"BackHooks$Course", "soften", "(IIIZ)V"⟩, 12) := ⟨⟨by decide +kernel, by decide +kernel⟩, List.mem_of_getElem? (i := 123) (by decide +kernel), List.mem_of_getElem? (i := 401) (by decide +kernel), List.mem_of_getElem? (i := 402) (by decide +kernel)⟩
theorem lw_p11 : lw_okq (⟨"BackHooks", "isHook", "(I)Z"⟩, 16) := ⟨⟨by decide +kernel, by decide +kernel⟩, List.mem_of_getElem? (i := 15) (by decide +kernel), List.mem_of_getElem? (i := 405) (by decide +kernel), List.mem_of_getElem? (i := 406) (by decide +kernel)⟩
theorem lw_p12 : lw_okq (⟨"BackHooks", "isThing", "(I)Z"⟩, 16) := ⟨⟨by decide +kernel, by decide +kernel⟩, List.mem_of_getElem? (i := 15) (by decide +kernel), List.mem_of_getElem? (i := 413) (by decide +kernel), List.mem_of_getElem? (i := 414) (by decide +kernel)⟩
theorem lw_p13 : lw_okq (⟨"BackHooks", "findingOf", "(I)I"⟩, 16) := ⟨⟨by decide +kernel, by decide +kernel⟩, List.mem_of_getElem? (i := 15) (by decide +kernel), List.mem_of_getElem? (i := 451) (by decide +kernel), List.mem_of_getElem? (i := 452) (by decide +kernel)⟩
theorem lw_p14 : lw_okq (⟨"BackHooks", "unsettledThings", "()I"⟩, 16) := ⟨⟨by decide +kernel, by decide +kernel⟩, List.mem_of_getElem? (i := 15) (by decide +kernel), List.mem_of_getElem? (i := 519) (by decide +kernel), List.mem_of_getElem? (i := 520) (by decide +kernel)⟩
theorem lw_p15 : lw_okq (⟨"BackHooks", "chooseSwap", "()V"⟩, 16) := ⟨⟨by decide +kernel, by decide +kernel⟩, List.mem_of_getElem? (i := 15) (by decide +kernel), List.mem_of_getElem? (i := 528) (by decide +kernel), List.mem_of_getElem? (i := 529) (by decide +kernel)⟩
def lw_privs_1 : List (MethodName × Nat) := [(⟨"BackHooks", "textOf", "(I)LBackHooks$Text;"⟩, 16), (⟨"BackHooks", "noteChange", "()V"⟩, 16), (⟨"BackHooks", "refresh", "()V"⟩, 16), (⟨"BackHooks", "allEvents", "()I"⟩, 16), (⟨"BackHooks$Setting", "takeEvent", "(III)V"⟩, 8), (⟨"BackHooks$Course", "begin", "(LBackHooks$Setting;)V"⟩, 12), (⟨"BackHooks$Course", "heatUp", "(I)V"⟩, 12), (⟨"BackHooks$Course", "doHooks", "(LBackHooks$Setting;I)V"⟩, 12), (⟨"BackHooks$Course", "doHook", "(LBackHooks$Setting;IIIZ)V"⟩, 12), (⟨"BackHooks$Course", "whatIsSaid", "(LBackHooks$Setting;I)I"⟩, 12), (⟨"BackHooks$Course", "soften", "(IIIZ)V"⟩, 12), (⟨"BackHooks", "isHook", "(I)Z"⟩, 16), (⟨"BackHooks", "isThing", "(I)Z"⟩, 16), (⟨"BackHooks", "findingOf", "(I)I"⟩, 16), (⟨"BackHooks", "unsettledThings", "()I"⟩, 16), (⟨"BackHooks", "chooseSwap", "()V"⟩, 16)]
theorem lw_r1 : ∀ q ∈ lw_privs_1, lw_okq q := List.forall_mem_cons.mpr ⟨lw_p0, List.forall_mem_cons.mpr ⟨lw_p1, List.forall_mem_cons.mpr ⟨lw_p2, List.forall_mem_cons.mpr ⟨lw_p3, List.forall_mem_cons.mpr ⟨lw_p4, List.forall_mem_cons.mpr ⟨lw_p5, List.forall_mem_cons.mpr ⟨lw_p6, List.forall_mem_cons.mpr ⟨lw_p7, List.forall_mem_cons.mpr ⟨lw_p8, List.forall_mem_cons.mpr ⟨lw_p9, List.forall_mem_cons.mpr ⟨lw_p10, List.forall_mem_cons.mpr ⟨lw_p11, List.forall_mem_cons.mpr ⟨lw_p12, List.forall_mem_cons.mpr ⟨lw_p13, List.forall_mem_cons.mpr ⟨lw_p14, List.forall_mem_cons.mpr ⟨lw_p15, fun _ h => absurd h List.not_mem_nil⟩⟩⟩⟩⟩⟩⟩⟩⟩⟩⟩⟩⟩⟩⟩⟩
theorem lw_p16 : lw_okq (⟨"BackHooks", "fewestHooks", "()I"⟩, 16) := ⟨⟨by decide +kernel, by decide +kernel⟩, List.mem_of_getElem? (i := 15) (by decide +kernel), List.mem_of_getElem? (i := 565) (by decide +kernel), List.mem_of_getElem? (i := 566) (by decide +kernel)⟩
theorem lw_p17 : lw_okq (⟨"BackHooks", "chooseLeft", "(I)V"⟩, 16) := ⟨⟨by decide +kernel, by decide +kernel⟩, List.mem_of_getElem? (i := 15) (by decide +kernel), List.mem_of_getElem? (i := 573) (by decide +kernel), List.mem_of_getElem? (i := 574) (by decide +kernel)⟩
theorem lw_p18 : lw_okq (⟨"BackHooks", "refreshEnds", "()V"⟩, 16) := ⟨⟨by decide +kernel, by decide +kernel⟩, List.mem_of_getElem? (i := 15) (by decide +kernel), List.mem_of_getElem? (i := 582) (by decide +kernel), List.mem_of_getElem? (i := 583) (by decide +kernel)⟩
theorem lw_p19 : lw_okq (⟨"BackHooks", "chooseSpared", "()V"⟩, 16) := ⟨⟨by decide +kernel, by decide +kernel⟩, List.mem_of_getElem? (i := 15) (by decide +kernel), List.mem_of_getElem? (i := 586) (by decide +kernel), List.mem_of_getElem? (i := 587) (by decide +kernel)⟩
theorem lw_p20 : lw_okq (⟨"BackHooks", "eventsThatNeverWere", "()I"⟩, 16) := ⟨⟨by decide +kernel, by decide +kernel⟩, List.mem_of_getElem? (i := 15) (by decide +kernel), List.mem_of_getElem? (i := 606) (by decide +kernel), List.mem_of_getElem? (i := 607) (by decide +kernel)⟩
theorem lw_p21 : lw_okq (⟨"BackHooks", "allComesOut", "()Z"⟩, 16) := ⟨⟨by decide +kernel, by decide +kernel⟩, List.mem_of_getElem? (i := 15) (by decide +kernel), List.mem_of_getElem? (i := 610) (by decide +kernel), List.mem_of_getElem? (i := 611) (by decide +kernel)⟩
theorem lw_p22 : lw_okq (⟨"BackHooks", "sortsThatFit", "(I)I"⟩, 16) := ⟨⟨by decide +kernel, by decide +kernel⟩, List.mem_of_getElem? (i := 15) (by decide +kernel), List.mem_of_getElem? (i := 618) (by decide +kernel), List.mem_of_getElem? (i := 619) (by decide +kernel)⟩
theorem lw_p23 : lw_okq (⟨"BackHooks", "tryHeats", "(I)V"⟩, 16) := ⟨⟨by decide +kernel, by decide +kernel⟩, List.mem_of_getElem? (i := 15) (by decide +kernel), List.mem_of_getElem? (i := 622) (by decide +kernel), List.mem_of_getElem? (i := 623) (by decide +kernel)⟩
theorem lw_p24 : lw_okq (⟨"BackHooks$Heats", "greatestLikeness", "(I)I"⟩, 2) := ⟨⟨by decide +kernel, by decide +kernel⟩, List.mem_of_getElem? (i := 195) (by decide +kernel), List.mem_of_getElem? (i := 634) (by decide +kernel), List.mem_of_getElem? (i := 635) (by decide +kernel)⟩
theorem lw_p25 : lw_okq (⟨"BackHooks$Heats", "likenessOf", "(II)I"⟩, 2) := ⟨⟨by decide +kernel, by decide +kernel⟩, List.mem_of_getElem? (i := 195) (by decide +kernel), List.mem_of_getElem? (i := 638) (by decide +kernel), List.mem_of_getElem? (i := 639) (by decide +kernel)⟩
theorem lw_p26 : lw_okq (⟨"BackHooks", "chanceOf", "(III)J"⟩, 16) := ⟨⟨by decide +kernel, by decide +kernel⟩, List.mem_of_getElem? (i := 15) (by decide +kernel), List.mem_of_getElem? (i := 650) (by decide +kernel), List.mem_of_getElem? (i := 651) (by decide +kernel)⟩
theorem lw_p27 : lw_okq (⟨"BackHooks", "weightOf", "(II)J"⟩, 16) := ⟨⟨by decide +kernel, by decide +kernel⟩, List.mem_of_getElem? (i := 15) (by decide +kernel), List.mem_of_getElem? (i := 654) (by decide +kernel), List.mem_of_getElem? (i := 655) (by decide +kernel)⟩
theorem lw_p28 : lw_okq (⟨"BackHooks", "runSeason", "(II)V"⟩, 16) := ⟨⟨by decide +kernel, by decide +kernel⟩, List.mem_of_getElem? (i := 15) (by decide +kernel), List.mem_of_getElem? (i := 662) (by decide +kernel), List.mem_of_getElem? (i := 663) (by decide +kernel)⟩
theorem lw_p29 : lw_okq (⟨"BackHooks", "foldHook", "(JI)J"⟩, 16) := ⟨⟨by decide +kernel, by decide +kernel⟩, List.mem_of_getElem? (i := 15) (by decide +kernel), List.mem_of_getElem? (i := 729) (by decide +kernel), List.mem_of_getElem? (i := 730) (by decide +kernel)⟩
theorem lw_p30 : lw_okq (⟨"BackHooks", "foldEvening", "(JI)J"⟩, 16) := ⟨⟨by decide +kernel, by decide +kernel⟩, List.mem_of_getElem? (i := 15) (by decide +kernel), List.mem_of_getElem? (i := 733) (by decide +kernel), List.mem_of_getElem? (i := 734) (by decide +kernel)⟩
theorem lw_p31 : lw_okq (⟨"BackHooks", "foldThing", "(JI)J"⟩, 16) := ⟨⟨by decide +kernel, by decide +kernel⟩, List.mem_of_getElem? (i := 15) (by decide +kernel), List.mem_of_getElem? (i := 737) (by decide +kernel), List.mem_of_getElem? (i := 738) (by decide +kernel)⟩
def lw_privs_2 : List (MethodName × Nat) := [(⟨"BackHooks", "fewestHooks", "()I"⟩, 16), (⟨"BackHooks", "chooseLeft", "(I)V"⟩, 16), (⟨"BackHooks", "refreshEnds", "()V"⟩, 16), (⟨"BackHooks", "chooseSpared", "()V"⟩, 16), (⟨"BackHooks", "eventsThatNeverWere", "()I"⟩, 16), (⟨"BackHooks", "allComesOut", "()Z"⟩, 16), (⟨"BackHooks", "sortsThatFit", "(I)I"⟩, 16), (⟨"BackHooks", "tryHeats", "(I)V"⟩, 16), (⟨"BackHooks$Heats", "greatestLikeness", "(I)I"⟩, 2), (⟨"BackHooks$Heats", "likenessOf", "(II)I"⟩, 2), (⟨"BackHooks", "chanceOf", "(III)J"⟩, 16), (⟨"BackHooks", "weightOf", "(II)J"⟩, 16), (⟨"BackHooks", "runSeason", "(II)V"⟩, 16), (⟨"BackHooks", "foldHook", "(JI)J"⟩, 16), (⟨"BackHooks", "foldEvening", "(JI)J"⟩, 16), (⟨"BackHooks", "foldThing", "(JI)J"⟩, 16)]
theorem lw_r2 : ∀ q ∈ lw_privs_2, lw_okq q := List.forall_mem_cons.mpr ⟨lw_p16, List.forall_mem_cons.mpr ⟨lw_p17, List.forall_mem_cons.mpr ⟨lw_p18, List.forall_mem_cons.mpr ⟨lw_p19, List.forall_mem_cons.mpr ⟨lw_p20, List.forall_mem_cons.mpr ⟨lw_p21, List.forall_mem_cons.mpr ⟨lw_p22, List.forall_mem_cons.mpr ⟨lw_p23, List.forall_mem_cons.mpr ⟨lw_p24, List.forall_mem_cons.mpr ⟨lw_p25, List.forall_mem_cons.mpr ⟨lw_p26, List.forall_mem_cons.mpr ⟨lw_p27, List.forall_mem_cons.mpr ⟨lw_p28, List.forall_mem_cons.mpr ⟨lw_p29, List.forall_mem_cons.mpr ⟨lw_p30, List.forall_mem_cons.mpr ⟨lw_p31, fun _ h => absurd h List.not_mem_nil⟩⟩⟩⟩⟩⟩⟩⟩⟩⟩⟩⟩⟩⟩⟩⟩
theorem lw_p32 : lw_okq (⟨"BackHooks", "foldHeat", "(JI)J"⟩, 16) := ⟨⟨by decide +kernel, by decide +kernel⟩, List.mem_of_getElem? (i := 15) (by decide +kernel), List.mem_of_getElem? (i := 741) (by decide +kernel), List.mem_of_getElem? (i := 742) (by decide +kernel)⟩
theorem lw_p33 : lw_okq (⟨"BackHooks", "foldSums", "(J)J"⟩, 16) := ⟨⟨by decide +kernel, by decide +kernel⟩, List.mem_of_getElem? (i := 15) (by decide +kernel), List.mem_of_getElem? (i := 745) (by decide +kernel), List.mem_of_getElem? (i := 746) (by decide +kernel)⟩
theorem lw_p34 : lw_okq (⟨"BackHooks", "foldPlans", "(J)J"⟩, 16) := ⟨⟨by decide +kernel, by decide +kernel⟩, List.mem_of_getElem? (i := 15) (by decide +kernel), List.mem_of_getElem? (i := 749) (by decide +kernel), List.mem_of_getElem? (i := 750) (by decide +kernel)⟩
theorem lw_p35 : lw_okq (⟨"BackHooksModel", "faultOf", "(I)I"⟩, 57) := ⟨⟨by decide +kernel, by decide +kernel⟩, List.mem_of_getElem? (i := 753) (by decide +kernel), List.mem_of_getElem? (i := 954) (by decide +kernel), List.mem_of_getElem? (i := 955) (by decide +kernel)⟩
theorem lw_p36 : lw_okq (⟨"BackHooksModel", "readsHooks", "()I"⟩, 57) := ⟨⟨by decide +kernel, by decide +kernel⟩, List.mem_of_getElem? (i := 753) (by decide +kernel), List.mem_of_getElem? (i := 958) (by decide +kernel), List.mem_of_getElem? (i := 959) (by decide +kernel)⟩
theorem lw_p37 : lw_okq (⟨"BackHooksModel", "byteAt", "(II)I"⟩, 57) := ⟨⟨by decide +kernel, by decide +kernel⟩, List.mem_of_getElem? (i := 753) (by decide +kernel), List.mem_of_getElem? (i := 962) (by decide +kernel), List.mem_of_getElem? (i := 963) (by decide +kernel)⟩
theorem lw_p38 : lw_okq (⟨"BackHooksModel", "readsThings", "()I"⟩, 57) := ⟨⟨by decide +kernel, by decide +kernel⟩, List.mem_of_getElem? (i := 753) (by decide +kernel), List.mem_of_getElem? (i := 966) (by decide +kernel), List.mem_of_getElem? (i := 967) (by decide +kernel)⟩
theorem lw_p39 : lw_okq (⟨"BackHooksModel", "readsThing", "(II)I"⟩, 57) := ⟨⟨by decide +kernel, by decide +kernel⟩, List.mem_of_getElem? (i := 753) (by decide +kernel), List.mem_of_getElem? (i := 970) (by decide +kernel), List.mem_of_getElem? (i := 971) (by decide +kernel)⟩
theorem lw_p40 : lw_okq (⟨"BackHooksModel", "isHook", "(I)Z"⟩, 57) := ⟨⟨by decide +kernel, by decide +kernel⟩, List.mem_of_getElem? (i := 753) (by decide +kernel), List.mem_of_getElem? (i := 978) (by decide +kernel), List.mem_of_getElem? (i := 979) (by decide +kernel)⟩
theorem lw_p41 : lw_okq (⟨"BackHooksModel", "reads", "()V"⟩, 57) := ⟨⟨by decide +kernel, by decide +kernel⟩, List.mem_of_getElem? (i := 753) (by decide +kernel), List.mem_of_getElem? (i := 982) (by decide +kernel), List.mem_of_getElem? (i := 983) (by decide +kernel)⟩
theorem lw_p42 : lw_okq (⟨"BackHooksModel", "isThing", "(I)Z"⟩, 57) := ⟨⟨by decide +kernel, by decide +kernel⟩, List.mem_of_getElem? (i := 753) (by decide +kernel), List.mem_of_getElem? (i := 990) (by decide +kernel), List.mem_of_getElem? (i := 991) (by decide +kernel)⟩
theorem lw_p43 : lw_okq (⟨"BackHooksModel", "thingOf", "(II)I"⟩, 57) := ⟨⟨by decide +kernel, by decide +kernel⟩, List.mem_of_getElem? (i := 753) (by decide +kernel), List.mem_of_getElem? (i := 997) (by decide +kernel), List.mem_of_getElem? (i := 998) (by decide +kernel)⟩
theorem lw_p44 : lw_okq (⟨"BackHooksModel", "meets", "(I)I"⟩, 57) := ⟨⟨by decide +kernel, by decide +kernel⟩, List.mem_of_getElem? (i := 753) (by decide +kernel), List.mem_of_getElem? (i := 1019) (by decide +kernel), List.mem_of_getElem? (i := 1020) (by decide +kernel)⟩
theorem lw_p45 : lw_okq (⟨"BackHooksModel", "heatOf", "(III)I"⟩, 57) := ⟨⟨by decide +kernel, by decide +kernel⟩, List.mem_of_getElem? (i := 753) (by decide +kernel), List.mem_of_getElem? (i := 1028) (by decide +kernel), List.mem_of_getElem? (i := 1029) (by decide +kernel)⟩
theorem lw_p46 : lw_okq (⟨"BackHooksModel", "runsTold", "()V"⟩, 57) := ⟨⟨by decide +kernel, by decide +kernel⟩, List.mem_of_getElem? (i := 753) (by decide +kernel), List.mem_of_getElem? (i := 1032) (by decide +kernel), List.mem_of_getElem? (i := 1033) (by decide +kernel)⟩
theorem lw_p47 : lw_okq (⟨"BackHooksModel", "asTold", "()V"⟩, 57) := ⟨⟨by decide +kernel, by decide +kernel⟩, List.mem_of_getElem? (i := 753) (by decide +kernel), List.mem_of_getElem? (i := 1036) (by decide +kernel), List.mem_of_getElem? (i := 1037) (by decide +kernel)⟩
def lw_privs_3 : List (MethodName × Nat) := [(⟨"BackHooks", "foldHeat", "(JI)J"⟩, 16), (⟨"BackHooks", "foldSums", "(J)J"⟩, 16), (⟨"BackHooks", "foldPlans", "(J)J"⟩, 16), (⟨"BackHooksModel", "faultOf", "(I)I"⟩, 57), (⟨"BackHooksModel", "readsHooks", "()I"⟩, 57), (⟨"BackHooksModel", "byteAt", "(II)I"⟩, 57), (⟨"BackHooksModel", "readsThings", "()I"⟩, 57), (⟨"BackHooksModel", "readsThing", "(II)I"⟩, 57), (⟨"BackHooksModel", "isHook", "(I)Z"⟩, 57), (⟨"BackHooksModel", "reads", "()V"⟩, 57), (⟨"BackHooksModel", "isThing", "(I)Z"⟩, 57), (⟨"BackHooksModel", "thingOf", "(II)I"⟩, 57), (⟨"BackHooksModel", "meets", "(I)I"⟩, 57), (⟨"BackHooksModel", "heatOf", "(III)I"⟩, 57), (⟨"BackHooksModel", "runsTold", "()V"⟩, 57), (⟨"BackHooksModel", "asTold", "()V"⟩, 57)]
theorem lw_r3 : ∀ q ∈ lw_privs_3, lw_okq q := List.forall_mem_cons.mpr ⟨lw_p32, List.forall_mem_cons.mpr ⟨lw_p33, List.forall_mem_cons.mpr ⟨lw_p34, List.forall_mem_cons.mpr ⟨lw_p35, List.forall_mem_cons.mpr ⟨lw_p36, List.forall_mem_cons.mpr ⟨lw_p37, List.forall_mem_cons.mpr ⟨lw_p38, List.forall_mem_cons.mpr ⟨lw_p39, List.forall_mem_cons.mpr ⟨lw_p40, List.forall_mem_cons.mpr ⟨lw_p41, List.forall_mem_cons.mpr ⟨lw_p42, List.forall_mem_cons.mpr ⟨lw_p43, List.forall_mem_cons.mpr ⟨lw_p44, List.forall_mem_cons.mpr ⟨lw_p45, List.forall_mem_cons.mpr ⟨lw_p46, List.forall_mem_cons.mpr ⟨lw_p47, fun _ h => absurd h List.not_mem_nil⟩⟩⟩⟩⟩⟩⟩⟩⟩⟩⟩⟩⟩⟩⟩⟩
theorem lw_p48 : lw_okq (⟨"BackHooksModel", "runs", "()V"⟩, 57) := ⟨⟨by decide +kernel, by decide +kernel⟩, List.mem_of_getElem? (i := 753) (by decide +kernel), List.mem_of_getElem? (i := 1040) (by decide +kernel), List.mem_of_getElem? (i := 1041) (by decide +kernel)⟩
theorem lw_p49 : lw_okq (⟨"BackHooksModel", "goesBy", "(I)V"⟩, 57) := ⟨⟨by decide +kernel, by decide +kernel⟩, List.mem_of_getElem? (i := 753) (by decide +kernel), List.mem_of_getElem? (i := 1044) (by decide +kernel), List.mem_of_getElem? (i := 1045) (by decide +kernel)⟩
theorem lw_p50 : lw_okq (⟨"BackHooksModel", "befalls", "(I)V"⟩, 57) := ⟨⟨by decide +kernel, by decide +kernel⟩, List.mem_of_getElem? (i := 753) (by decide +kernel), List.mem_of_getElem? (i := 1048) (by decide +kernel), List.mem_of_getElem? (i := 1049) (by decide +kernel)⟩
theorem lw_p51 : lw_okq (⟨"BackHooksModel", "heatsUp", "()V"⟩, 57) := ⟨⟨by decide +kernel, by decide +kernel⟩, List.mem_of_getElem? (i := 753) (by decide +kernel), List.mem_of_getElem? (i := 1055) (by decide +kernel), List.mem_of_getElem? (i := 1056) (by decide +kernel)⟩
theorem lw_p52 : lw_okq (⟨"BackHooksModel", "isOpen", "(I)Z"⟩, 57) := ⟨⟨by decide +kernel, by decide +kernel⟩, List.mem_of_getElem? (i := 753) (by decide +kernel), List.mem_of_getElem? (i := 1059) (by decide +kernel), List.mem_of_getElem? (i := 1060) (by decide +kernel)⟩
theorem lw_p53 : lw_okq (⟨"BackHooksModel", "lastOf", "()I"⟩, 57) := ⟨⟨by decide +kernel, by decide +kernel⟩, List.mem_of_getElem? (i := 753) (by decide +kernel), List.mem_of_getElem? (i := 1063) (by decide +kernel), List.mem_of_getElem? (i := 1064) (by decide +kernel)⟩
theorem lw_p54 : lw_okq (⟨"BackHooksModel", "takes", "(I)I"⟩, 57) := ⟨⟨by decide +kernel, by decide +kernel⟩, List.mem_of_getElem? (i := 753) (by decide +kernel), List.mem_of_getElem? (i := 1067) (by decide +kernel), List.mem_of_getElem? (i := 1068) (by decide +kernel)⟩
theorem lw_p55 : lw_okq (⟨"BackHooksModel", "does", "(IZ)V"⟩, 57) := ⟨⟨by decide +kernel, by decide +kernel⟩, List.mem_of_getElem? (i := 753) (by decide +kernel), List.mem_of_getElem? (i := 1071) (by decide +kernel), List.mem_of_getElem? (i := 1072) (by decide +kernel)⟩
theorem lw_p56 : lw_okq (⟨"BackHooksModel", "says", "(II)V"⟩, 57) := ⟨⟨by decide +kernel, by decide +kernel⟩, List.mem_of_getElem? (i := 753) (by decide +kernel), List.mem_of_getElem? (i := 1075) (by decide +kernel), List.mem_of_getElem? (i := 1076) (by decide +kernel)⟩
theorem lw_p57 : lw_okq (⟨"BackHooksModel", "chosen", "(I)I"⟩, 57) := ⟨⟨by decide +kernel, by decide +kernel⟩, List.mem_of_getElem? (i := 753) (by decide +kernel), List.mem_of_getElem? (i := 1079) (by decide +kernel), List.mem_of_getElem? (i := 1080) (by decide +kernel)⟩
theorem lw_p58 : lw_okq (⟨"BackHooksModel", "notes", "(I)V"⟩, 57) := ⟨⟨by decide +kernel, by decide +kernel⟩, List.mem_of_getElem? (i := 753) (by decide +kernel), List.mem_of_getElem? (i := 1083) (by decide +kernel), List.mem_of_getElem? (i := 1084) (by decide +kernel)⟩
theorem lw_p59 : lw_okq (⟨"BackHooksModel", "saidOf", "(II)I"⟩, 57) := ⟨⟨by decide +kernel, by decide +kernel⟩, List.mem_of_getElem? (i := 753) (by decide +kernel), List.mem_of_getElem? (i := 1091) (by decide +kernel), List.mem_of_getElem? (i := 1092) (by decide +kernel)⟩
theorem lw_p60 : lw_okq (⟨"BackHooksModel", "atOf", "(II)I"⟩, 57) := ⟨⟨by decide +kernel, by decide +kernel⟩, List.mem_of_getElem? (i := 753) (by decide +kernel), List.mem_of_getElem? (i := 1099) (by decide +kernel), List.mem_of_getElem? (i := 1100) (by decide +kernel)⟩
theorem lw_p61 : lw_okq (⟨"BackHooksModel", "settledOf", "(I)I"⟩, 57) := ⟨⟨by decide +kernel, by decide +kernel⟩, List.mem_of_getElem? (i := 753) (by decide +kernel), List.mem_of_getElem? (i := 1107) (by decide +kernel), List.mem_of_getElem? (i := 1108) (by decide +kernel)⟩
theorem lw_p62 : lw_okq (⟨"BackHooksModel", "sumOf", "(I)I"⟩, 57) := ⟨⟨by decide +kernel, by decide +kernel⟩, List.mem_of_getElem? (i := 753) (by decide +kernel), List.mem_of_getElem? (i := 1115) (by decide +kernel), List.mem_of_getElem? (i := 1116) (by decide +kernel)⟩
theorem lw_p63 : lw_okq (⟨"BackHooksModel", "manySettled", "()I"⟩, 57) := ⟨⟨by decide +kernel, by decide +kernel⟩, List.mem_of_getElem? (i := 753) (by decide +kernel), List.mem_of_getElem? (i := 1119) (by decide +kernel), List.mem_of_getElem? (i := 1120) (by decide +kernel)⟩
def lw_privs_4 : List (MethodName × Nat) := [(⟨"BackHooksModel", "runs", "()V"⟩, 57), (⟨"BackHooksModel", "goesBy", "(I)V"⟩, 57), (⟨"BackHooksModel", "befalls", "(I)V"⟩, 57), (⟨"BackHooksModel", "heatsUp", "()V"⟩, 57), (⟨"BackHooksModel", "isOpen", "(I)Z"⟩, 57), (⟨"BackHooksModel", "lastOf", "()I"⟩, 57), (⟨"BackHooksModel", "takes", "(I)I"⟩, 57), (⟨"BackHooksModel", "does", "(IZ)V"⟩, 57), (⟨"BackHooksModel", "says", "(II)V"⟩, 57), (⟨"BackHooksModel", "chosen", "(I)I"⟩, 57), (⟨"BackHooksModel", "notes", "(I)V"⟩, 57), (⟨"BackHooksModel", "saidOf", "(II)I"⟩, 57), (⟨"BackHooksModel", "atOf", "(II)I"⟩, 57), (⟨"BackHooksModel", "settledOf", "(I)I"⟩, 57), (⟨"BackHooksModel", "sumOf", "(I)I"⟩, 57), (⟨"BackHooksModel", "manySettled", "()I"⟩, 57)]
theorem lw_r4 : ∀ q ∈ lw_privs_4, lw_okq q := List.forall_mem_cons.mpr ⟨lw_p48, List.forall_mem_cons.mpr ⟨lw_p49, List.forall_mem_cons.mpr ⟨lw_p50, List.forall_mem_cons.mpr ⟨lw_p51, List.forall_mem_cons.mpr ⟨lw_p52, List.forall_mem_cons.mpr ⟨lw_p53, List.forall_mem_cons.mpr ⟨lw_p54, List.forall_mem_cons.mpr ⟨lw_p55, List.forall_mem_cons.mpr ⟨lw_p56, List.forall_mem_cons.mpr ⟨lw_p57, List.forall_mem_cons.mpr ⟨lw_p58, List.forall_mem_cons.mpr ⟨lw_p59, List.forall_mem_cons.mpr ⟨lw_p60, List.forall_mem_cons.mpr ⟨lw_p61, List.forall_mem_cons.mpr ⟨lw_p62, List.forall_mem_cons.mpr ⟨lw_p63, fun _ h => absurd h List.not_mem_nil⟩⟩⟩⟩⟩⟩⟩⟩⟩⟩⟩⟩⟩⟩⟩⟩
theorem lw_p64 : lw_okq (⟨"BackHooksModel", "peaceOf", "()I"⟩, 57) := ⟨⟨by decide +kernel, by decide +kernel⟩, List.mem_of_getElem? (i := 753) (by decide +kernel), List.mem_of_getElem? (i := 1127) (by decide +kernel), List.mem_of_getElem? (i := 1128) (by decide +kernel)⟩
theorem lw_p65 : lw_okq (⟨"BackHooksModel", "longestOf", "()I"⟩, 57) := ⟨⟨by decide +kernel, by decide +kernel⟩, List.mem_of_getElem? (i := 753) (by decide +kernel), List.mem_of_getElem? (i := 1135) (by decide +kernel), List.mem_of_getElem? (i := 1136) (by decide +kernel)⟩
theorem lw_p66 : lw_okq (⟨"BackHooksModel", "highestOf", "(I)I"⟩, 57) := ⟨⟨by decide +kernel, by decide +kernel⟩, List.mem_of_getElem? (i := 753) (by decide +kernel), List.mem_of_getElem? (i := 1143) (by decide +kernel), List.mem_of_getElem? (i := 1144) (by decide +kernel)⟩
theorem lw_p67 : lw_okq (⟨"BackHooksModel", "soreOf", "()I"⟩, 57) := ⟨⟨by decide +kernel, by decide +kernel⟩, List.mem_of_getElem? (i := 753) (by decide +kernel), List.mem_of_getElem? (i := 1151) (by decide +kernel), List.mem_of_getElem? (i := 1152) (by decide +kernel)⟩
theorem lw_p68 : lw_okq (⟨"BackHooksModel", "swapOf", "(I)I"⟩, 57) := ⟨⟨by decide +kernel, by decide +kernel⟩, List.mem_of_getElem? (i := 753) (by decide +kernel), List.mem_of_getElem? (i := 1159) (by decide +kernel), List.mem_of_getElem? (i := 1160) (by decide +kernel)⟩
theorem lw_p69 : lw_okq (⟨"BackHooksModel", "starts", "()V"⟩, 57) := ⟨⟨by decide +kernel, by decide +kernel⟩, List.mem_of_getElem? (i := 753) (by decide +kernel), List.mem_of_getElem? (i := 1163) (by decide +kernel), List.mem_of_getElem? (i := 1164) (by decide +kernel)⟩
theorem lw_p70 : lw_okq (⟨"BackHooksModel", "puts", "(II)V"⟩, 57) := ⟨⟨by decide +kernel, by decide +kernel⟩, List.mem_of_getElem? (i := 753) (by decide +kernel), List.mem_of_getElem? (i := 1167) (by decide +kernel), List.mem_of_getElem? (i := 1168) (by decide +kernel)⟩
theorem lw_p71 : lw_okq (⟨"BackHooksModel", "tries", "(I)V"⟩, 57) := ⟨⟨by decide +kernel, by decide +kernel⟩, List.mem_of_getElem? (i := 753) (by decide +kernel), List.mem_of_getElem? (i := 1171) (by decide +kernel), List.mem_of_getElem? (i := 1172) (by decide +kernel)⟩
theorem lw_p72 : lw_okq (⟨"BackHooksModel", "fitOf", "()I"⟩, 57) := ⟨⟨by decide +kernel, by decide +kernel⟩, List.mem_of_getElem? (i := 753) (by decide +kernel), List.mem_of_getElem? (i := 1179) (by decide +kernel), List.mem_of_getElem? (i := 1180) (by decide +kernel)⟩
theorem lw_p73 : lw_okq (⟨"BackHooksModel", "leaveTold", "(II)I"⟩, 57) := ⟨⟨by decide +kernel, by decide +kernel⟩, List.mem_of_getElem? (i := 753) (by decide +kernel), List.mem_of_getElem? (i := 1187) (by decide +kernel), List.mem_of_getElem? (i := 1188) (by decide +kernel)⟩
theorem lw_p74 : lw_okq (⟨"BackHooksModel", "leaveOf", "(II)I"⟩, 57) := ⟨⟨by decide +kernel, by decide +kernel⟩, List.mem_of_getElem? (i := 753) (by decide +kernel), List.mem_of_getElem? (i := 1191) (by decide +kernel), List.mem_of_getElem? (i := 1192) (by decide +kernel)⟩
theorem lw_p75 : lw_okq (⟨"BackHooksModel", "spareBy", "()I"⟩, 57) := ⟨⟨by decide +kernel, by decide +kernel⟩, List.mem_of_getElem? (i := 753) (by decide +kernel), List.mem_of_getElem? (i := 1199) (by decide +kernel), List.mem_of_getElem? (i := 1200) (by decide +kernel)⟩
theorem lw_p76 : lw_okq (⟨"BackHooksModel", "isSpared", "(I)Z"⟩, 57) := ⟨⟨by decide +kernel, by decide +kernel⟩, List.mem_of_getElem? (i := 753) (by decide +kernel), List.mem_of_getElem? (i := 1203) (by decide +kernel), List.mem_of_getElem? (i := 1204) (by decide +kernel)⟩
theorem lw_p77 : lw_okq (⟨"BackHooksModel", "ofRow", "(II)I"⟩, 57) := ⟨⟨by decide +kernel, by decide +kernel⟩, List.mem_of_getElem? (i := 753) (by decide +kernel), List.mem_of_getElem? (i := 1207) (by decide +kernel), List.mem_of_getElem? (i := 1208) (by decide +kernel)⟩
theorem lw_p78 : lw_okq (⟨"BackHooksModel", "neverNow", "()I"⟩, 57) := ⟨⟨by decide +kernel, by decide +kernel⟩, List.mem_of_getElem? (i := 753) (by decide +kernel), List.mem_of_getElem? (i := 1223) (by decide +kernel), List.mem_of_getElem? (i := 1224) (by decide +kernel)⟩
theorem lw_p79 : lw_okq (⟨"BackHooksModel", "isSeen", "()Z"⟩, 57) := ⟨⟨by decide +kernel, by decide +kernel⟩, List.mem_of_getElem? (i := 753) (by decide +kernel), List.mem_of_getElem? (i := 1227) (by decide +kernel), List.mem_of_getElem? (i := 1228) (by decide +kernel)⟩
def lw_privs_5 : List (MethodName × Nat) := [(⟨"BackHooksModel", "peaceOf", "()I"⟩, 57), (⟨"BackHooksModel", "longestOf", "()I"⟩, 57), (⟨"BackHooksModel", "highestOf", "(I)I"⟩, 57), (⟨"BackHooksModel", "soreOf", "()I"⟩, 57), (⟨"BackHooksModel", "swapOf", "(I)I"⟩, 57), (⟨"BackHooksModel", "starts", "()V"⟩, 57), (⟨"BackHooksModel", "puts", "(II)V"⟩, 57), (⟨"BackHooksModel", "tries", "(I)V"⟩, 57), (⟨"BackHooksModel", "fitOf", "()I"⟩, 57), (⟨"BackHooksModel", "leaveTold", "(II)I"⟩, 57), (⟨"BackHooksModel", "leaveOf", "(II)I"⟩, 57), (⟨"BackHooksModel", "spareBy", "()I"⟩, 57), (⟨"BackHooksModel", "isSpared", "(I)Z"⟩, 57), (⟨"BackHooksModel", "ofRow", "(II)I"⟩, 57), (⟨"BackHooksModel", "neverNow", "()I"⟩, 57), (⟨"BackHooksModel", "isSeen", "()Z"⟩, 57)]
theorem lw_r5 : ∀ q ∈ lw_privs_5, lw_okq q := List.forall_mem_cons.mpr ⟨lw_p64, List.forall_mem_cons.mpr ⟨lw_p65, List.forall_mem_cons.mpr ⟨lw_p66, List.forall_mem_cons.mpr ⟨lw_p67, List.forall_mem_cons.mpr ⟨lw_p68, List.forall_mem_cons.mpr ⟨lw_p69, List.forall_mem_cons.mpr ⟨lw_p70, List.forall_mem_cons.mpr ⟨lw_p71, List.forall_mem_cons.mpr ⟨lw_p72, List.forall_mem_cons.mpr ⟨lw_p73, List.forall_mem_cons.mpr ⟨lw_p74, List.forall_mem_cons.mpr ⟨lw_p75, List.forall_mem_cons.mpr ⟨lw_p76, List.forall_mem_cons.mpr ⟨lw_p77, List.forall_mem_cons.mpr ⟨lw_p78, List.forall_mem_cons.mpr ⟨lw_p79, fun _ h => absurd h List.not_mem_nil⟩⟩⟩⟩⟩⟩⟩⟩⟩⟩⟩⟩⟩⟩⟩⟩
theorem lw_p80 : lw_okq (⟨"BackHooksModel", "heatsBy", "(I)I"⟩, 57) := ⟨⟨by decide +kernel, by decide +kernel⟩, List.mem_of_getElem? (i := 753) (by decide +kernel), List.mem_of_getElem? (i := 1235) (by decide +kernel), List.mem_of_getElem? (i := 1236) (by decide +kernel)⟩
theorem lw_p81 : lw_okq (⟨"BackHooksModel", "sortsBy", "(I)I"⟩, 57) := ⟨⟨by decide +kernel, by decide +kernel⟩, List.mem_of_getElem? (i := 753) (by decide +kernel), List.mem_of_getElem? (i := 1239) (by decide +kernel), List.mem_of_getElem? (i := 1240) (by decide +kernel)⟩
theorem lw_p82 : lw_okq (⟨"BackHooksModel", "askOf", "(I)I"⟩, 57) := ⟨⟨by decide +kernel, by decide +kernel⟩, List.mem_of_getElem? (i := 753) (by decide +kernel), List.mem_of_getElem? (i := 1247) (by decide +kernel), List.mem_of_getElem? (i := 1248) (by decide +kernel)⟩
theorem lw_p83 : lw_okq (⟨"BackHooksModel", "chanceOf", "(III)J"⟩, 57) := ⟨⟨by decide +kernel, by decide +kernel⟩, List.mem_of_getElem? (i := 753) (by decide +kernel), List.mem_of_getElem? (i := 1255) (by decide +kernel), List.mem_of_getElem? (i := 1256) (by decide +kernel)⟩
theorem lw_p84 : lw_okq (⟨"BackHooksModel", "seasonsOf", "(III)I"⟩, 57) := ⟨⟨by decide +kernel, by decide +kernel⟩, List.mem_of_getElem? (i := 753) (by decide +kernel), List.mem_of_getElem? (i := 1270) (by decide +kernel), List.mem_of_getElem? (i := 1271) (by decide +kernel)⟩
theorem lw_p85 : lw_okq (⟨"BackHooksModel", "lacks", "(III)I"⟩, 57) := ⟨⟨by decide +kernel, by decide +kernel⟩, List.mem_of_getElem? (i := 753) (by decide +kernel), List.mem_of_getElem? (i := 1287) (by decide +kernel), List.mem_of_getElem? (i := 1288) (by decide +kernel)⟩
theorem lw_p86 : lw_okq (⟨"BackHooksModel", "keep", "(III)V"⟩, 57) := ⟨⟨by decide +kernel, by decide +kernel⟩, List.mem_of_getElem? (i := 753) (by decide +kernel), List.mem_of_getElem? (i := 1291) (by decide +kernel), List.mem_of_getElem? (i := 1292) (by decide +kernel)⟩
theorem lw_p87 : lw_okq (⟨"BackHooksModel", "tellOf", "(I)I"⟩, 57) := ⟨⟨by decide +kernel, by decide +kernel⟩, List.mem_of_getElem? (i := 753) (by decide +kernel), List.mem_of_getElem? (i := 1312) (by decide +kernel), List.mem_of_getElem? (i := 1313) (by decide +kernel)⟩
theorem lw_p88 : lw_okq (⟨"BackHooksModel", "thingDigest", "(JI)J"⟩, 57) := ⟨⟨by decide +kernel, by decide +kernel⟩, List.mem_of_getElem? (i := 753) (by decide +kernel), List.mem_of_getElem? (i := 1323) (by decide +kernel), List.mem_of_getElem? (i := 1324) (by decide +kernel)⟩
theorem lw_p89 : lw_okq (⟨"BackHooksModel", "heatDigest", "(JII)J"⟩, 57) := ⟨⟨by decide +kernel, by decide +kernel⟩, List.mem_of_getElem? (i := 753) (by decide +kernel), List.mem_of_getElem? (i := 1327) (by decide +kernel), List.mem_of_getElem? (i := 1328) (by decide +kernel)⟩
def lw_privs_6 : List (MethodName × Nat) := [(⟨"BackHooksModel", "heatsBy", "(I)I"⟩, 57), (⟨"BackHooksModel", "sortsBy", "(I)I"⟩, 57), (⟨"BackHooksModel", "askOf", "(I)I"⟩, 57), (⟨"BackHooksModel", "chanceOf", "(III)J"⟩, 57), (⟨"BackHooksModel", "seasonsOf", "(III)I"⟩, 57), (⟨"BackHooksModel", "lacks", "(III)I"⟩, 57), (⟨"BackHooksModel", "keep", "(III)V"⟩, 57), (⟨"BackHooksModel", "tellOf", "(I)I"⟩, 57), (⟨"BackHooksModel", "thingDigest", "(JI)J"⟩, 57), (⟨"BackHooksModel", "heatDigest", "(JII)J"⟩, 57)]
theorem lw_r6 : ∀ q ∈ lw_privs_6, lw_okq q := List.forall_mem_cons.mpr ⟨lw_p80, List.forall_mem_cons.mpr ⟨lw_p81, List.forall_mem_cons.mpr ⟨lw_p82, List.forall_mem_cons.mpr ⟨lw_p83, List.forall_mem_cons.mpr ⟨lw_p84, List.forall_mem_cons.mpr ⟨lw_p85, List.forall_mem_cons.mpr ⟨lw_p86, List.forall_mem_cons.mpr ⟨lw_p87, List.forall_mem_cons.mpr ⟨lw_p88, List.forall_mem_cons.mpr ⟨lw_p89, fun _ h => absurd h List.not_mem_nil⟩⟩⟩⟩⟩⟩⟩⟩⟩⟩
def lw_privs : List (MethodName × Nat) := lw_privs_1 ++ (lw_privs_2 ++ (lw_privs_3 ++ (lw_privs_4 ++ (lw_privs_5 ++ (lw_privs_6)))))
def lw_tbl : List Cond := k2_sels lw_privs ++ tables_1
theorem lw_privs_ok : ∀ q ∈ lw_privs, lw_okq q := by
  show ∀ q ∈ lw_privs_1 ++ (lw_privs_2 ++ (lw_privs_3 ++ (lw_privs_4 ++ (lw_privs_5 ++ (lw_privs_6))))), lw_okq q
  exact List.forall_mem_append.mpr ⟨lw_r1, List.forall_mem_append.mpr ⟨lw_r2, List.forall_mem_append.mpr ⟨lw_r3, List.forall_mem_append.mpr ⟨lw_r4, List.forall_mem_append.mpr ⟨lw_r5, lw_r6⟩⟩⟩⟩⟩
-- ===== end of PART A; then your names; then what follows =====
end
section
def RX0 : String := "BackHooks$Choice"
def TX0 : u_T := fun k => match k with
  | 0 => ("BackHooks$Choice", "isMade", "Z", false)
  | 1 => ("BackHooks$Choice", "first", "I", false)
  | 2 => ("BackHooks$Choice", "other", "I", false)
  | 3 => ("BackHooks$Choice", "settledThings", "I", false)
  | _ => ("BackHooks$Choice", "holidayMinutes", "I", false)
def tyX0 : Nat → FieldType := fun k => match k with
  | 0 => .boolean
  | 1 => .int
  | 2 => .int
  | 3 => .int
  | _ => .int
abbrev wsX00 : List Cond := u_ws RX0 TX0 5
theorem nmX0 : ∀ a, a < 5 → ∀ b, b < 5 → a ≠ b → (TX0 a).2.1 ≠ (TX0 b).2.1 := by decide +kernel
theorem tyX0_ok : ∀ k, k < 5 → parseFieldDescriptor (TX0 k).2.2.1 = some (tyX0 k) := by decide +kernel
abbrev cX0_init : ByteArray := prog_2_method_1_code
def yX0_init : MethodName := ⟨RX0, "<init>", "()V"⟩
abbrev cX0_clear : ByteArray := prog_2_method_2_code
def yX0_clear : MethodName := ⟨RX0, "clear", "()V"⟩
abbrev cX0_offer : ByteArray := prog_2_method_3_code
def yX0_offer : MethodName := ⟨RX0, "offer", "(IIII)V"⟩
abbrev cX0_swapAnswer : ByteArray := prog_2_method_4_code
def yX0_swapAnswer : MethodName := ⟨RX0, "swapAnswer", "(I)I"⟩
abbrev cX0_leaveAnswer : ByteArray := prog_2_method_5_code
def yX0_leaveAnswer : MethodName := ⟨RX0, "leaveAnswer", "(I)I"⟩
abbrev cX0_spareAnswer : ByteArray := prog_2_method_6_code
def yX0_spareAnswer : MethodName := ⟨RX0, "spareAnswer", "(I)I"⟩
def RX1 : String := "BackHooks$Course"
def TX1 : u_T := fun k => match k with
  | 0 => ("BackHooks$Course", "heatNow", "[I", true)
  | 1 => ("BackHooks$Course", "settledOn", "[I", true)
  | 2 => ("BackHooks$Course", "highestHook", "[I", true)
  | 3 => ("BackHooks$Course", "minutesInAll", "[I", true)
  | 4 => ("BackHooks$Course", "heatBehind", "[I", true)
  | 5 => ("BackHooks$Course", "minutesOfThing", "[I", true)
  | 6 => ("BackHooks$Course", "lastSaid", "[I", true)
  | 7 => ("BackHooks$Course", "minutes", "[I", true)
  | 8 => ("BackHooks$Course", "holiday", "[I", true)
  | 9 => ("BackHooks$Course", "nothing", "[I", true)
  | 10 => ("BackHooks$Course", "settledIn", "[I", true)
  | _ => ("BackHooks$Course", "settledInAll", "I", false)
def tyX1 : Nat → FieldType := fun k => match k with
  | 0 => .array .int
  | 1 => .array .int
  | 2 => .array .int
  | 3 => .array .int
  | 4 => .array .int
  | 5 => .array .int
  | 6 => .array .int
  | 7 => .array .int
  | 8 => .array .int
  | 9 => .array .int
  | 10 => .array .int
  | _ => .int
abbrev wsX10 : List Cond := u_ws RX1 TX1 12
theorem nmX1 : ∀ a, a < 12 → ∀ b, b < 12 → a ≠ b → (TX1 a).2.1 ≠ (TX1 b).2.1 := by decide +kernel
theorem tyX1_ok : ∀ k, k < 12 → parseFieldDescriptor (TX1 k).2.2.1 = some (tyX1 k) := by decide +kernel
abbrev cX1_init : ByteArray := prog_3_method_1_code
def yX1_init : MethodName := ⟨RX1, "<init>", "()V"⟩
abbrev cX1_run : ByteArray := prog_3_method_2_code
def yX1_run : MethodName := ⟨RX1, "run", "(LBackHooks$Setting;)V"⟩
abbrev cX1_begin : ByteArray := prog_3_method_3_code
def yX1_begin : MethodName := ⟨RX1, "begin", "(LBackHooks$Setting;)V"⟩
abbrev cX1_heatUp : ByteArray := prog_3_method_4_code
def yX1_heatUp : MethodName := ⟨RX1, "heatUp", "(I)V"⟩
abbrev cX1_doHooks : ByteArray := prog_3_method_5_code
def yX1_doHooks : MethodName := ⟨RX1, "doHooks", "(LBackHooks$Setting;I)V"⟩
abbrev cX1_lastHookDone : ByteArray := prog_3_method_6_code
def yX1_lastHookDone : MethodName := ⟨RX1, "lastHookDone", "(LBackHooks$Setting;I)I"⟩
abbrev cX1_doHook : ByteArray := prog_3_method_7_code
def yX1_doHook : MethodName := ⟨RX1, "doHook", "(LBackHooks$Setting;IIIZ)V"⟩
abbrev cX1_whatIsSaid : ByteArray := prog_3_method_8_code
def yX1_whatIsSaid : MethodName := ⟨RX1, "whatIsSaid", "(LBackHooks$Setting;I)I"⟩
abbrev cX1_soften : ByteArray := prog_3_method_9_code
def yX1_soften : MethodName := ⟨RX1, "soften", "(IIIZ)V"⟩
abbrev cX1_settledBehind : ByteArray := prog_3_method_10_code
def yX1_settledBehind : MethodName := ⟨RX1, "settledBehind", "(I)I"⟩
abbrev cX1_firstPeace : ByteArray := prog_3_method_11_code
def yX1_firstPeace : MethodName := ⟨RX1, "firstPeace", "(I)I"⟩
abbrev cX1_thingSaidMost : ByteArray := prog_3_method_12_code
def yX1_thingSaidMost : MethodName := ⟨RX1, "thingSaidMost", "()I"⟩
abbrev cX1_eveningAnswer : ByteArray := prog_3_method_13_code
def yX1_eveningAnswer : MethodName := ⟨RX1, "eveningAnswer", "(II)I"⟩
abbrev cX1_sumAnswer : ByteArray := prog_3_method_14_code
def yX1_sumAnswer : MethodName := ⟨RX1, "sumAnswer", "(I)I"⟩
def RX2 : String := "BackHooks$Heats"
def TX2 : u_T := fun k => match k with
  | 0 => ("BackHooks$Heats", "fitting", "I", false)
  | _ => ("BackHooks$Heats", "settledBy", "[I", true)
def tyX2 : Nat → FieldType := fun k => match k with
  | 0 => .int
  | _ => .array .int
abbrev wsX20 : List Cond := u_ws RX2 TX2 2
theorem nmX2 : ∀ a, a < 2 → ∀ b, b < 2 → a ≠ b → (TX2 a).2.1 ≠ (TX2 b).2.1 := by decide +kernel
theorem tyX2_ok : ∀ k, k < 2 → parseFieldDescriptor (TX2 k).2.2.1 = some (tyX2 k) := by decide +kernel
abbrev cX2_init : ByteArray := prog_4_method_1_code
def yX2_init : MethodName := ⟨RX2, "<init>", "()V"⟩
abbrev cX2_eveningToAsk : ByteArray := prog_4_method_2_code
def yX2_eveningToAsk : MethodName := ⟨RX2, "eveningToAsk", "()I"⟩
abbrev cX2_greatestLikeness : ByteArray := prog_4_method_3_code
def yX2_greatestLikeness : MethodName := ⟨RX2, "greatestLikeness", "(I)I"⟩
abbrev cX2_likenessOf : ByteArray := prog_4_method_4_code
def yX2_likenessOf : MethodName := ⟨RX2, "likenessOf", "(II)I"⟩
def RX3 : String := "BackHooks$Lots"
def TX3 : u_T := fun k => match k with
  | _ => ("BackHooks$Lots", "seed", "I", false)
def tyX3 : Nat → FieldType := fun k => match k with
  | _ => .int
abbrev wsX30 : List Cond := u_ws RX3 TX3 1
theorem nmX3 : ∀ a, a < 1 → ∀ b, b < 1 → a ≠ b → (TX3 a).2.1 ≠ (TX3 b).2.1 := by decide +kernel
theorem tyX3_ok : ∀ k, k < 1 → parseFieldDescriptor (TX3 k).2.2.1 = some (tyX3 k) := by decide +kernel
abbrev cX3_init : ByteArray := prog_5_method_1_code
def yX3_init : MethodName := ⟨RX3, "<init>", "()V"⟩
abbrev cX3_draw : ByteArray := prog_5_method_2_code
def yX3_draw : MethodName := ⟨RX3, "draw", "(I)I"⟩
def RX4 : String := "BackHooks$Setting"
def TX4 : u_T := fun k => match k with
  | 0 => ("BackHooks$Setting", "hooks", "I", false)
  | 1 => ("BackHooks$Setting", "things", "I", false)
  | 2 => ("BackHooks$Setting", "takes", "[I", true)
  | 3 => ("BackHooks$Setting", "sort", "[I", true)
  | 4 => ("BackHooks$Setting", "warmth", "[I", true)
  | 5 => ("BackHooks$Setting", "mark", "[I", true)
  | 6 => ("BackHooks$Setting", "left", "[I", true)
  | _ => ("BackHooks$Setting", "silence", "[I", true)
def tyX4 : Nat → FieldType := fun k => match k with
  | 0 => .int
  | 1 => .int
  | 2 => .array .int
  | 3 => .array .int
  | 4 => .array .int
  | 5 => .array .int
  | 6 => .array .int
  | _ => .array .int
abbrev wsX40 : List Cond := u_ws RX4 TX4 8
theorem nmX4 : ∀ a, a < 8 → ∀ b, b < 8 → a ≠ b → (TX4 a).2.1 ≠ (TX4 b).2.1 := by decide +kernel
theorem tyX4_ok : ∀ k, k < 8 → parseFieldDescriptor (TX4 k).2.2.1 = some (tyX4 k) := by decide +kernel
abbrev cX4_init : ByteArray := prog_6_method_1_code
def yX4_init : MethodName := ⟨RX4, "<init>", "()V"⟩
abbrev cX4_takeHooks : ByteArray := prog_6_method_2_code
def yX4_takeHooks : MethodName := ⟨RX4, "takeHooks", "(LBackHooks$Text;)V"⟩
abbrev cX4_takeThings : ByteArray := prog_6_method_3_code
def yX4_takeThings : MethodName := ⟨RX4, "takeThings", "(LBackHooks$Text;)V"⟩
abbrev cX4_takeEvents : ByteArray := prog_6_method_4_code
def yX4_takeEvents : MethodName := ⟨RX4, "takeEvents", "(LBackHooks$Triples;I)V"⟩
abbrev cX4_takeEvent : ByteArray := prog_6_method_5_code
def yX4_takeEvent : MethodName := ⟨RX4, "takeEvent", "(III)V"⟩
abbrev cX4_copyFrom : ByteArray := prog_6_method_6_code
def yX4_copyFrom : MethodName := ⟨RX4, "copyFrom", "(LBackHooks$Setting;)V"⟩
abbrev cX4_allThings : ByteArray := prog_6_method_7_code
def yX4_allThings : MethodName := ⟨RX4, "allThings", "()I"⟩
abbrev cX4_exchange : ByteArray := prog_6_method_8_code
def yX4_exchange : MethodName := ⟨RX4, "exchange", "(II)V"⟩
abbrev cX4_exchangeIn : ByteArray := prog_6_method_9_code
def yX4_exchangeIn : MethodName := ⟨RX4, "exchangeIn", "([III)V"⟩
def RX5 : String := "BackHooks$Sheet"
def TX5 : u_T := fun k => match k with
  | 0 => ("BackHooks$Sheet", "form", "I", false)
  | 1 => ("BackHooks$Sheet", "size", "I", false)
  | _ => ("BackHooks$Sheet", "items", "[I", true)
def tyX5 : Nat → FieldType := fun k => match k with
  | 0 => .int
  | 1 => .int
  | _ => .array .int
abbrev wsX50 : List Cond := u_ws RX5 TX5 3
theorem nmX5 : ∀ a, a < 3 → ∀ b, b < 3 → a ≠ b → (TX5 a).2.1 ≠ (TX5 b).2.1 := by decide +kernel
theorem tyX5_ok : ∀ k, k < 3 → parseFieldDescriptor (TX5 k).2.2.1 = some (tyX5 k) := by decide +kernel
abbrev cX5_init : ByteArray := prog_7_method_1_code
def yX5_init : MethodName := ⟨RX5, "<init>", "()V"⟩
abbrev cX5_isLost : ByteArray := prog_7_method_2_code
def yX5_isLost : MethodName := ⟨RX5, "isLost", "()Z"⟩
abbrev cX5_lay : ByteArray := prog_7_method_3_code
def yX5_lay : MethodName := ⟨RX5, "lay", "(II)V"⟩
abbrev cX5_findingAt : ByteArray := prog_7_method_4_code
def yX5_findingAt : MethodName := ⟨RX5, "findingAt", "(II)I"⟩
abbrev cX5_hasStretch : ByteArray := prog_7_method_5_code
def yX5_hasStretch : MethodName := ⟨RX5, "hasStretch", "(II)Z"⟩
abbrev cX5_lowestBits : ByteArray := prog_7_method_6_code
def yX5_lowestBits : MethodName := ⟨RX5, "lowestBits", "(I)I"⟩
def RX6 : String := "BackHooks$Text"
def TX6 : u_T := fun k => match k with
  | 0 => ("BackHooks$Text", "bytes", "[I", true)
  | 1 => ("BackHooks$Text", "limit", "I", true)
  | _ => ("BackHooks$Text", "length", "I", false)
def tyX6 : Nat → FieldType := fun k => match k with
  | 0 => .array .int
  | 1 => .int
  | _ => .int
abbrev wsX60 : List Cond := u_ws RX6 TX6 3
theorem nmX6 : ∀ a, a < 3 → ∀ b, b < 3 → a ≠ b → (TX6 a).2.1 ≠ (TX6 b).2.1 := by decide +kernel
theorem tyX6_ok : ∀ k, k < 3 → parseFieldDescriptor (TX6 k).2.2.1 = some (tyX6 k) := by decide +kernel
abbrev cX6_init : ByteArray := prog_8_method_1_code
def yX6_init : MethodName := ⟨RX6, "<init>", "(I)V"⟩
abbrev cX6_faultOfHooks : ByteArray := prog_8_method_2_code
def yX6_faultOfHooks : MethodName := ⟨RX6, "faultOfHooks", "()I"⟩
abbrev cX6_faultOfThings : ByteArray := prog_8_method_3_code
def yX6_faultOfThings : MethodName := ⟨RX6, "faultOfThings", "()I"⟩
abbrev cX6_mayStand : ByteArray := prog_8_method_4_code
def yX6_mayStand : MethodName := ⟨RX6, "mayStand", "(II)Z"⟩
abbrev cX6_minutesOf : ByteArray := prog_8_method_5_code
def yX6_minutesOf : MethodName := ⟨RX6, "minutesOf", "(I)I"⟩
abbrev cX6_sortOf : ByteArray := prog_8_method_6_code
def yX6_sortOf : MethodName := ⟨RX6, "sortOf", "(I)I"⟩
def RX7 : String := "BackHooks$Triples"
def TX7 : u_T := fun k => match k with
  | 0 => ("BackHooks$Triples", "first", "[I", true)
  | 1 => ("BackHooks$Triples", "second", "[I", true)
  | 2 => ("BackHooks$Triples", "third", "[I", true)
  | _ => ("BackHooks$Triples", "size", "I", false)
def tyX7 : Nat → FieldType := fun k => match k with
  | 0 => .array .int
  | 1 => .array .int
  | 2 => .array .int
  | _ => .int
abbrev wsX70 : List Cond := u_ws RX7 TX7 4
theorem nmX7 : ∀ a, a < 4 → ∀ b, b < 4 → a ≠ b → (TX7 a).2.1 ≠ (TX7 b).2.1 := by decide +kernel
theorem tyX7_ok : ∀ k, k < 4 → parseFieldDescriptor (TX7 k).2.2.1 = some (tyX7 k) := by decide +kernel
abbrev cX7_init : ByteArray := prog_9_method_1_code
def yX7_init : MethodName := ⟨RX7, "<init>", "()V"⟩
abbrev cX7_isFull : ByteArray := prog_9_method_2_code
def yX7_isFull : MethodName := ⟨RX7, "isFull", "()Z"⟩
abbrev cX7_append : ByteArray := prog_9_method_3_code
def yX7_append : MethodName := ⟨RX7, "append", "(III)V"⟩
def RX8 : String := "BackHooks"
def TX8 : u_T := fun k => match k with
  | 0 => ("BackHooks", "hookText", "LBackHooks$Text;", true)
  | 1 => ("BackHooks", "thingText", "LBackHooks$Text;", true)
  | 2 => ("BackHooks", "events", "LBackHooks$Triples;", true)
  | 3 => ("BackHooks", "sights", "LBackHooks$Triples;", true)
  | 4 => ("BackHooks", "sheets", "[LBackHooks$Sheet;", true)
  | 5 => ("BackHooks", "told", "LBackHooks$Setting;", true)
  | 6 => ("BackHooks", "tried", "LBackHooks$Setting;", true)
  | 7 => ("BackHooks", "toldCourse", "LBackHooks$Course;", true)
  | 8 => ("BackHooks", "triedCourse", "LBackHooks$Course;", true)
  | 9 => ("BackHooks", "choice", "LBackHooks$Choice;", true)
  | 10 => ("BackHooks", "heats", "LBackHooks$Heats;", true)
  | 11 => ("BackHooks", "lots", "LBackHooks$Lots;", true)
  | 12 => ("BackHooks", "ends", "[I", true)
  | 13 => ("BackHooks", "toldIsStale", "Z", false)
  | 14 => ("BackHooks", "endsAreStale", "Z", false)
  | _ => ("BackHooks", "latestFinding", "I", false)
def tyX8 : Nat → FieldType := fun k => match k with
  | 0 => .object "BackHooks$Text"
  | 1 => .object "BackHooks$Text"
  | 2 => .object "BackHooks$Triples"
  | 3 => .object "BackHooks$Triples"
  | 4 => .array (.object "BackHooks$Sheet")
  | 5 => .object "BackHooks$Setting"
  | 6 => .object "BackHooks$Setting"
  | 7 => .object "BackHooks$Course"
  | 8 => .object "BackHooks$Course"
  | 9 => .object "BackHooks$Choice"
  | 10 => .object "BackHooks$Heats"
  | 11 => .object "BackHooks$Lots"
  | 12 => .array .int
  | 13 => .boolean
  | 14 => .boolean
  | _ => .int
abbrev wsX80 : List Cond := u_ws RX8 TX8 16
theorem nmX8 : ∀ a, a < 16 → ∀ b, b < 16 → a ≠ b → (TX8 a).2.1 ≠ (TX8 b).2.1 := by decide +kernel
theorem tyX8_ok : ∀ k, k < 16 → parseFieldDescriptor (TX8 k).2.2.1 = some (tyX8 k) := by decide +kernel
abbrev cX8_init : ByteArray := prog_1_method_1_code
def yX8_init : MethodName := ⟨RX8, "<init>", "()V"⟩
abbrev cX8_type : ByteArray := prog_1_method_2_code
def yX8_type : MethodName := ⟨RX8, "type", "(II)I"⟩
abbrev cX8_wipe : ByteArray := prog_1_method_3_code
def yX8_wipe : MethodName := ⟨RX8, "wipe", "(I)I"⟩
abbrev cX8_undo : ByteArray := prog_1_method_4_code
def yX8_undo : MethodName := ⟨RX8, "undo", "(I)I"⟩
abbrev cX8_fault : ByteArray := prog_1_method_5_code
def yX8_fault : MethodName := ⟨RX8, "fault", "(I)I"⟩
abbrev cX8_hook : ByteArray := prog_1_method_6_code
def yX8_hook : MethodName := ⟨RX8, "hook", "(I)I"⟩
abbrev cX8_thing : ByteArray := prog_1_method_7_code
def yX8_thing : MethodName := ⟨RX8, "thing", "(II)I"⟩
abbrev cX8_event : ByteArray := prog_1_method_8_code
def yX8_event : MethodName := ⟨RX8, "event", "(III)I"⟩
abbrev cX8_back : ByteArray := prog_1_method_9_code
def yX8_back : MethodName := ⟨RX8, "back", "()I"⟩
abbrev cX8_read : ByteArray := prog_1_method_10_code
def yX8_read : MethodName := ⟨RX8, "read", "(I)I"⟩
abbrev cX8_heat : ByteArray := prog_1_method_11_code
def yX8_heat : MethodName := ⟨RX8, "heat", "(III)I"⟩
abbrev cX8_said : ByteArray := prog_1_method_12_code
def yX8_said : MethodName := ⟨RX8, "said", "(II)I"⟩
abbrev cX8_at : ByteArray := prog_1_method_13_code
def yX8_at : MethodName := ⟨RX8, "at", "(II)I"⟩
abbrev cX8_settled : ByteArray := prog_1_method_14_code
def yX8_settled : MethodName := ⟨RX8, "settled", "(I)I"⟩
abbrev cX8_sum : ByteArray := prog_1_method_15_code
def yX8_sum : MethodName := ⟨RX8, "sum", "(I)I"⟩
abbrev cX8_peace : ByteArray := prog_1_method_16_code
def yX8_peace : MethodName := ⟨RX8, "peace", "()I"⟩
abbrev cX8_longest : ByteArray := prog_1_method_17_code
def yX8_longest : MethodName := ⟨RX8, "longest", "()I"⟩
abbrev cX8_highest : ByteArray := prog_1_method_18_code
def yX8_highest : MethodName := ⟨RX8, "highest", "(I)I"⟩
abbrev cX8_sore : ByteArray := prog_1_method_19_code
def yX8_sore : MethodName := ⟨RX8, "sore", "()I"⟩
abbrev cX8_swap : ByteArray := prog_1_method_20_code
def yX8_swap : MethodName := ⟨RX8, "swap", "(I)I"⟩
abbrev cX8_fit : ByteArray := prog_1_method_21_code
def yX8_fit : MethodName := ⟨RX8, "fit", "()I"⟩
abbrev cX8_leave : ByteArray := prog_1_method_22_code
def yX8_leave : MethodName := ⟨RX8, "leave", "(II)I"⟩
abbrev cX8_spare : ByteArray := prog_1_method_23_code
def yX8_spare : MethodName := ⟨RX8, "spare", "(I)I"⟩
abbrev cX8_seen : ByteArray := prog_1_method_24_code
def yX8_seen : MethodName := ⟨RX8, "seen", "(III)I"⟩
abbrev cX8_forget : ByteArray := prog_1_method_25_code
def yX8_forget : MethodName := ⟨RX8, "forget", "()I"⟩
abbrev cX8_never : ByteArray := prog_1_method_26_code
def yX8_never : MethodName := ⟨RX8, "never", "()I"⟩
abbrev cX8_was : ByteArray := prog_1_method_27_code
def yX8_was : MethodName := ⟨RX8, "was", "(II)I"⟩
abbrev cX8_ask : ByteArray := prog_1_method_28_code
def yX8_ask : MethodName := ⟨RX8, "ask", "(I)I"⟩
abbrev cX8_chance : ByteArray := prog_1_method_29_code
def yX8_chance : MethodName := ⟨RX8, "chance", "(III)J"⟩
abbrev cX8_seasons : ByteArray := prog_1_method_30_code
def yX8_seasons : MethodName := ⟨RX8, "seasons", "(III)I"⟩
abbrev cX8_sheet : ByteArray := prog_1_method_31_code
def yX8_sheet : MethodName := ⟨RX8, "sheet", "(III)I"⟩
abbrev cX8_lose : ByteArray := prog_1_method_32_code
def yX8_lose : MethodName := ⟨RX8, "lose", "(I)I"⟩
abbrev cX8_put : ByteArray := prog_1_method_33_code
def yX8_put : MethodName := ⟨RX8, "put", "(IIII)I"⟩
abbrev cX8_get : ByteArray := prog_1_method_34_code
def yX8_get : MethodName := ⟨RX8, "get", "(III)I"⟩
abbrev cX8_copy : ByteArray := prog_1_method_35_code
def yX8_copy : MethodName := ⟨RX8, "copy", "(IIIII)I"⟩
abbrev cX8_write : ByteArray := prog_1_method_36_code
def yX8_write : MethodName := ⟨RX8, "write", "(II)I"⟩
abbrev cX8_count : ByteArray := prog_1_method_37_code
def yX8_count : MethodName := ⟨RX8, "count", "(I)I"⟩
abbrev cX8_digest : ByteArray := prog_1_method_38_code
def yX8_digest : MethodName := ⟨RX8, "digest", "()J"⟩
abbrev cX8_foldHook : ByteArray := prog_1_method_39_code
def yX8_foldHook : MethodName := ⟨RX8, "foldHook", "(JI)J"⟩
abbrev cX8_foldEvening : ByteArray := prog_1_method_40_code
def yX8_foldEvening : MethodName := ⟨RX8, "foldEvening", "(JI)J"⟩
abbrev cX8_foldThing : ByteArray := prog_1_method_41_code
def yX8_foldThing : MethodName := ⟨RX8, "foldThing", "(JI)J"⟩
abbrev cX8_foldHeat : ByteArray := prog_1_method_42_code
def yX8_foldHeat : MethodName := ⟨RX8, "foldHeat", "(JI)J"⟩
abbrev cX8_foldSums : ByteArray := prog_1_method_43_code
def yX8_foldSums : MethodName := ⟨RX8, "foldSums", "(J)J"⟩
abbrev cX8_foldPlans : ByteArray := prog_1_method_44_code
def yX8_foldPlans : MethodName := ⟨RX8, "foldPlans", "(J)J"⟩
abbrev cX8_isBelow : ByteArray := prog_1_method_45_code
def yX8_isBelow : MethodName := ⟨RX8, "isBelow", "(II)Z"⟩
abbrev cX8_isText : ByteArray := prog_1_method_46_code
def yX8_isText : MethodName := ⟨RX8, "isText", "(I)Z"⟩
abbrev cX8_isEvening : ByteArray := prog_1_method_47_code
def yX8_isEvening : MethodName := ⟨RX8, "isEvening", "(I)Z"⟩
abbrev cX8_isSheet : ByteArray := prog_1_method_48_code
def yX8_isSheet : MethodName := ⟨RX8, "isSheet", "(I)Z"⟩
abbrev cX8_isEvent : ByteArray := prog_1_method_49_code
def yX8_isEvent : MethodName := ⟨RX8, "isEvent", "(III)Z"⟩
abbrev cX8_isHook : ByteArray := prog_1_method_50_code
def yX8_isHook : MethodName := ⟨RX8, "isHook", "(I)Z"⟩
abbrev cX8_isThing : ByteArray := prog_1_method_51_code
def yX8_isThing : MethodName := ⟨RX8, "isThing", "(I)Z"⟩
abbrev cX8_textOf : ByteArray := prog_1_method_52_code
def yX8_textOf : MethodName := ⟨RX8, "textOf", "(I)LBackHooks$Text;"⟩
abbrev cX8_findingOf : ByteArray := prog_1_method_53_code
def yX8_findingOf : MethodName := ⟨RX8, "findingOf", "(I)I"⟩
abbrev cX8_sumOf : ByteArray := prog_1_method_54_code
def yX8_sumOf : MethodName := ⟨RX8, "sumOf", "([I)I"⟩
abbrev cX8_noteChange : ByteArray := prog_1_method_55_code
def yX8_noteChange : MethodName := ⟨RX8, "noteChange", "()V"⟩
abbrev cX8_refresh : ByteArray := prog_1_method_56_code
def yX8_refresh : MethodName := ⟨RX8, "refresh", "()V"⟩
abbrev cX8_allEvents : ByteArray := prog_1_method_57_code
def yX8_allEvents : MethodName := ⟨RX8, "allEvents", "()I"⟩
abbrev cX8_unsettledThings : ByteArray := prog_1_method_58_code
def yX8_unsettledThings : MethodName := ⟨RX8, "unsettledThings", "()I"⟩
abbrev cX8_fewestHooks : ByteArray := prog_1_method_59_code
def yX8_fewestHooks : MethodName := ⟨RX8, "fewestHooks", "()I"⟩
abbrev cX8_chooseSwap : ByteArray := prog_1_method_60_code
def yX8_chooseSwap : MethodName := ⟨RX8, "chooseSwap", "()V"⟩
abbrev cX8_chooseLeft : ByteArray := prog_1_method_61_code
def yX8_chooseLeft : MethodName := ⟨RX8, "chooseLeft", "(I)V"⟩
abbrev cX8_chooseSpared : ByteArray := prog_1_method_62_code
def yX8_chooseSpared : MethodName := ⟨RX8, "chooseSpared", "()V"⟩
abbrev cX8_eventsThatNeverWere : ByteArray := prog_1_method_63_code
def yX8_eventsThatNeverWere : MethodName := ⟨RX8, "eventsThatNeverWere", "()I"⟩
abbrev cX8_allComesOut : ByteArray := prog_1_method_64_code
def yX8_allComesOut : MethodName := ⟨RX8, "allComesOut", "()Z"⟩
abbrev cX8_sortsThatFit : ByteArray := prog_1_method_65_code
def yX8_sortsThatFit : MethodName := ⟨RX8, "sortsThatFit", "(I)I"⟩
abbrev cX8_tryHeats : ByteArray := prog_1_method_66_code
def yX8_tryHeats : MethodName := ⟨RX8, "tryHeats", "(I)V"⟩
abbrev cX8_refreshEnds : ByteArray := prog_1_method_67_code
def yX8_refreshEnds : MethodName := ⟨RX8, "refreshEnds", "()V"⟩
abbrev cX8_chanceOf : ByteArray := prog_1_method_68_code
def yX8_chanceOf : MethodName := ⟨RX8, "chanceOf", "(III)J"⟩
abbrev cX8_weightOf : ByteArray := prog_1_method_69_code
def yX8_weightOf : MethodName := ⟨RX8, "weightOf", "(II)J"⟩
abbrev cX8_runSeason : ByteArray := prog_1_method_70_code
def yX8_runSeason : MethodName := ⟨RX8, "runSeason", "(II)V"⟩
def RX9 : String := "BackHooksModel"
def TX9 : u_T := fun k => match k with
  | 0 => ("BackHooksModel", "typed", "[I", true)
  | 1 => ("BackHooksModel", "texts", "[I", true)
  | 2 => ("BackHooksModel", "hooks", "I", false)
  | 3 => ("BackHooksModel", "minutes", "[I", true)
  | 4 => ("BackHooksModel", "things", "I", false)
  | 5 => ("BackHooksModel", "sorts", "[I", true)
  | 6 => ("BackHooksModel", "heats", "[I", true)
  | 7 => ("BackHooksModel", "marks", "[I", true)
  | 8 => ("BackHooksModel", "events", "I", false)
  | 9 => ("BackHooksModel", "eventKind", "[I", true)
  | 10 => ("BackHooksModel", "eventAt", "[I", true)
  | 11 => ("BackHooksModel", "eventNumber", "[I", true)
  | 12 => ("BackHooksModel", "thingsNow", "I", false)
  | 13 => ("BackHooksModel", "sortNow", "[I", true)
  | 14 => ("BackHooksModel", "firstHeat", "[I", true)
  | 15 => ("BackHooksModel", "markNow", "[I", true)
  | 16 => ("BackHooksModel", "hooksNow", "I", false)
  | 17 => ("BackHooksModel", "besidesAt", "I", false)
  | 18 => ("BackHooksModel", "besides", "I", false)
  | 19 => ("BackHooksModel", "notEvents", "I", false)
  | 20 => ("BackHooksModel", "maid", "I", false)
  | 21 => ("BackHooksModel", "front", "I", false)
  | 22 => ("BackHooksModel", "left", "I", false)
  | 23 => ("BackHooksModel", "lastHook", "I", false)
  | 24 => ("BackHooksModel", "settledNow", "I", false)
  | 25 => ("BackHooksModel", "minutesNow", "I", false)
  | 26 => ("BackHooksModel", "holidayNow", "I", false)
  | 27 => ("BackHooksModel", "nothingNow", "I", false)
  | 28 => ("BackHooksModel", "allMinutes", "I", false)
  | 29 => ("BackHooksModel", "allHoliday", "I", false)
  | 30 => ("BackHooksModel", "allNothing", "I", false)
  | 31 => ("BackHooksModel", "peaceAt", "I", false)
  | 32 => ("BackHooksModel", "heat", "[I", true)
  | 33 => ("BackHooksModel", "saidNow", "[I", true)
  | 34 => ("BackHooksModel", "saidAll", "[I", true)
  | 35 => ("BackHooksModel", "settledAt", "[I", true)
  | 36 => ("BackHooksModel", "highestAt", "[I", true)
  | 37 => ("BackHooksModel", "heatAt", "[I", true)
  | 38 => ("BackHooksModel", "saidAt", "[I", true)
  | 39 => ("BackHooksModel", "lastSaid", "[I", true)
  | 40 => ("BackHooksModel", "tells", "[I", true)
  | 41 => ("BackHooksModel", "coldAt", "[I", true)
  | 42 => ("BackHooksModel", "bestNow", "I", false)
  | 43 => ("BackHooksModel", "mostNow", "I", false)
  | 44 => ("BackHooksModel", "mostHoliday", "I", false)
  | 45 => ("BackHooksModel", "planRow", "[I", true)
  | 46 => ("BackHooksModel", "seens", "I", false)
  | 47 => ("BackHooksModel", "seenAt", "[I", true)
  | 48 => ("BackHooksModel", "seenThing", "[I", true)
  | 49 => ("BackHooksModel", "seenIs", "[I", true)
  | 50 => ("BackHooksModel", "coldBy", "[I", true)
  | 51 => ("BackHooksModel", "isThere", "[Z", true)
  | 52 => ("BackHooksModel", "forms", "[I", true)
  | 53 => ("BackHooksModel", "sizes", "[I", true)
  | 54 => ("BackHooksModel", "items", "[I", true)
  | 55 => ("BackHooksModel", "moved", "[I", true)
  | _ => ("BackHooksModel", "finding", "I", false)
def tyX9 : Nat → FieldType := fun k => match k with
  | 0 => .array .int
  | 1 => .array .int
  | 2 => .int
  | 3 => .array .int
  | 4 => .int
  | 5 => .array .int
  | 6 => .array .int
  | 7 => .array .int
  | 8 => .int
  | 9 => .array .int
  | 10 => .array .int
  | 11 => .array .int
  | 12 => .int
  | 13 => .array .int
  | 14 => .array .int
  | 15 => .array .int
  | 16 => .int
  | 17 => .int
  | 18 => .int
  | 19 => .int
  | 20 => .int
  | 21 => .int
  | 22 => .int
  | 23 => .int
  | 24 => .int
  | 25 => .int
  | 26 => .int
  | 27 => .int
  | 28 => .int
  | 29 => .int
  | 30 => .int
  | 31 => .int
  | 32 => .array .int
  | 33 => .array .int
  | 34 => .array .int
  | 35 => .array .int
  | 36 => .array .int
  | 37 => .array .int
  | 38 => .array .int
  | 39 => .array .int
  | 40 => .array .int
  | 41 => .array .int
  | 42 => .int
  | 43 => .int
  | 44 => .int
  | 45 => .array .int
  | 46 => .int
  | 47 => .array .int
  | 48 => .array .int
  | 49 => .array .int
  | 50 => .array .int
  | 51 => .array .boolean
  | 52 => .array .int
  | 53 => .array .int
  | 54 => .array .int
  | 55 => .array .int
  | _ => .int
abbrev wsX90 : List Cond := u_ws RX9 TX9 57
theorem nmX9 : ∀ a, a < 57 → ∀ b, b < 57 → a ≠ b → (TX9 a).2.1 ≠ (TX9 b).2.1 := by decide +kernel
theorem tyX9_ok : ∀ k, k < 57 → parseFieldDescriptor (TX9 k).2.2.1 = some (tyX9 k) := by decide +kernel
abbrev cX9_init : ByteArray := prog_11_method_1_code
def yX9_init : MethodName := ⟨RX9, "<init>", "()V"⟩
abbrev cX9_in : ByteArray := prog_11_method_3_code
def yX9_in : MethodName := ⟨RX9, "in", "(III)Z"⟩
abbrev cX9_isIn : ByteArray := prog_11_method_4_code
def yX9_isIn : MethodName := ⟨RX9, "isIn", "(II)Z"⟩
abbrev cX9_no : ByteArray := prog_11_method_5_code
def yX9_no : MethodName := ⟨RX9, "no", "(I)J"⟩
abbrev cX9_lowest : ByteArray := prog_11_method_6_code
def yX9_lowest : MethodName := ⟨RX9, "lowest", "(JJI)J"⟩
abbrev cX9_isTwo : ByteArray := prog_11_method_7_code
def yX9_isTwo : MethodName := ⟨RX9, "isTwo", "(I)Z"⟩
abbrev cX9_isThree : ByteArray := prog_11_method_8_code
def yX9_isThree : MethodName := ⟨RX9, "isThree", "(I)Z"⟩
abbrev cX9_isTwelve : ByteArray := prog_11_method_9_code
def yX9_isTwelve : MethodName := ⟨RX9, "isTwelve", "(I)Z"⟩
abbrev cX9_type : ByteArray := prog_11_method_10_code
def yX9_type : MethodName := ⟨RX9, "type", "(II)I"⟩
abbrev cX9_wipe : ByteArray := prog_11_method_11_code
def yX9_wipe : MethodName := ⟨RX9, "wipe", "(I)I"⟩
abbrev cX9_undo : ByteArray := prog_11_method_12_code
def yX9_undo : MethodName := ⟨RX9, "undo", "(I)I"⟩
abbrev cX9_byteAt : ByteArray := prog_11_method_13_code
def yX9_byteAt : MethodName := ⟨RX9, "byteAt", "(II)I"⟩
abbrev cX9_readsHooks : ByteArray := prog_11_method_14_code
def yX9_readsHooks : MethodName := ⟨RX9, "readsHooks", "()I"⟩
abbrev cX9_readsThing : ByteArray := prog_11_method_15_code
def yX9_readsThing : MethodName := ⟨RX9, "readsThing", "(II)I"⟩
abbrev cX9_readsThings : ByteArray := prog_11_method_16_code
def yX9_readsThings : MethodName := ⟨RX9, "readsThings", "()I"⟩
abbrev cX9_faultOf : ByteArray := prog_11_method_17_code
def yX9_faultOf : MethodName := ⟨RX9, "faultOf", "(I)I"⟩
abbrev cX9_reads : ByteArray := prog_11_method_18_code
def yX9_reads : MethodName := ⟨RX9, "reads", "()V"⟩
abbrev cX9_fault : ByteArray := prog_11_method_19_code
def yX9_fault : MethodName := ⟨RX9, "fault", "(I)I"⟩
abbrev cX9_isHook : ByteArray := prog_11_method_20_code
def yX9_isHook : MethodName := ⟨RX9, "isHook", "(I)Z"⟩
abbrev cX9_isThing : ByteArray := prog_11_method_21_code
def yX9_isThing : MethodName := ⟨RX9, "isThing", "(I)Z"⟩
abbrev cX9_hook : ByteArray := prog_11_method_22_code
def yX9_hook : MethodName := ⟨RX9, "hook", "(I)I"⟩
abbrev cX9_thingOf : ByteArray := prog_11_method_23_code
def yX9_thingOf : MethodName := ⟨RX9, "thingOf", "(II)I"⟩
abbrev cX9_thing : ByteArray := prog_11_method_24_code
def yX9_thing : MethodName := ⟨RX9, "thing", "(II)I"⟩
abbrev cX9_event : ByteArray := prog_11_method_25_code
def yX9_event : MethodName := ⟨RX9, "event", "(III)I"⟩
abbrev cX9_back : ByteArray := prog_11_method_26_code
def yX9_back : MethodName := ⟨RX9, "back", "()I"⟩
abbrev cX9_read : ByteArray := prog_11_method_27_code
def yX9_read : MethodName := ⟨RX9, "read", "(I)I"⟩
abbrev cX9_asTold : ByteArray := prog_11_method_28_code
def yX9_asTold : MethodName := ⟨RX9, "asTold", "()V"⟩
abbrev cX9_befalls : ByteArray := prog_11_method_29_code
def yX9_befalls : MethodName := ⟨RX9, "befalls", "(I)V"⟩
abbrev cX9_isOpen : ByteArray := prog_11_method_30_code
def yX9_isOpen : MethodName := ⟨RX9, "isOpen", "(I)Z"⟩
abbrev cX9_heatsUp : ByteArray := prog_11_method_31_code
def yX9_heatsUp : MethodName := ⟨RX9, "heatsUp", "()V"⟩
abbrev cX9_chosen : ByteArray := prog_11_method_32_code
def yX9_chosen : MethodName := ⟨RX9, "chosen", "(I)I"⟩
abbrev cX9_says : ByteArray := prog_11_method_33_code
def yX9_says : MethodName := ⟨RX9, "says", "(II)V"⟩
abbrev cX9_takes : ByteArray := prog_11_method_34_code
def yX9_takes : MethodName := ⟨RX9, "takes", "(I)I"⟩
abbrev cX9_lastOf : ByteArray := prog_11_method_35_code
def yX9_lastOf : MethodName := ⟨RX9, "lastOf", "()I"⟩
abbrev cX9_does : ByteArray := prog_11_method_36_code
def yX9_does : MethodName := ⟨RX9, "does", "(IZ)V"⟩
abbrev cX9_goesBy : ByteArray := prog_11_method_37_code
def yX9_goesBy : MethodName := ⟨RX9, "goesBy", "(I)V"⟩
abbrev cX9_notes : ByteArray := prog_11_method_38_code
def yX9_notes : MethodName := ⟨RX9, "notes", "(I)V"⟩
abbrev cX9_runs : ByteArray := prog_11_method_39_code
def yX9_runs : MethodName := ⟨RX9, "runs", "()V"⟩
abbrev cX9_runsTold : ByteArray := prog_11_method_40_code
def yX9_runsTold : MethodName := ⟨RX9, "runsTold", "()V"⟩
abbrev cX9_heatOf : ByteArray := prog_11_method_41_code
def yX9_heatOf : MethodName := ⟨RX9, "heatOf", "(III)I"⟩
abbrev cX9_heat : ByteArray := prog_11_method_42_code
def yX9_heat : MethodName := ⟨RX9, "heat", "(III)I"⟩
abbrev cX9_saidOf : ByteArray := prog_11_method_43_code
def yX9_saidOf : MethodName := ⟨RX9, "saidOf", "(II)I"⟩
abbrev cX9_said : ByteArray := prog_11_method_44_code
def yX9_said : MethodName := ⟨RX9, "said", "(II)I"⟩
abbrev cX9_atOf : ByteArray := prog_11_method_45_code
def yX9_atOf : MethodName := ⟨RX9, "atOf", "(II)I"⟩
abbrev cX9_at : ByteArray := prog_11_method_46_code
def yX9_at : MethodName := ⟨RX9, "at", "(II)I"⟩
abbrev cX9_settledOf : ByteArray := prog_11_method_47_code
def yX9_settledOf : MethodName := ⟨RX9, "settledOf", "(I)I"⟩
abbrev cX9_settled : ByteArray := prog_11_method_48_code
def yX9_settled : MethodName := ⟨RX9, "settled", "(I)I"⟩
abbrev cX9_manySettled : ByteArray := prog_11_method_49_code
def yX9_manySettled : MethodName := ⟨RX9, "manySettled", "()I"⟩
abbrev cX9_sumOf : ByteArray := prog_11_method_50_code
def yX9_sumOf : MethodName := ⟨RX9, "sumOf", "(I)I"⟩
abbrev cX9_sum : ByteArray := prog_11_method_51_code
def yX9_sum : MethodName := ⟨RX9, "sum", "(I)I"⟩
abbrev cX9_peaceOf : ByteArray := prog_11_method_52_code
def yX9_peaceOf : MethodName := ⟨RX9, "peaceOf", "()I"⟩
abbrev cX9_peace : ByteArray := prog_11_method_53_code
def yX9_peace : MethodName := ⟨RX9, "peace", "()I"⟩
abbrev cX9_longestOf : ByteArray := prog_11_method_54_code
def yX9_longestOf : MethodName := ⟨RX9, "longestOf", "()I"⟩
abbrev cX9_longest : ByteArray := prog_11_method_55_code
def yX9_longest : MethodName := ⟨RX9, "longest", "()I"⟩
abbrev cX9_highestOf : ByteArray := prog_11_method_56_code
def yX9_highestOf : MethodName := ⟨RX9, "highestOf", "(I)I"⟩
abbrev cX9_highest : ByteArray := prog_11_method_57_code
def yX9_highest : MethodName := ⟨RX9, "highest", "(I)I"⟩
abbrev cX9_soreOf : ByteArray := prog_11_method_58_code
def yX9_soreOf : MethodName := ⟨RX9, "soreOf", "()I"⟩
abbrev cX9_sore : ByteArray := prog_11_method_59_code
def yX9_sore : MethodName := ⟨RX9, "sore", "()I"⟩
abbrev cX9_starts : ByteArray := prog_11_method_60_code
def yX9_starts : MethodName := ⟨RX9, "starts", "()V"⟩
abbrev cX9_tries : ByteArray := prog_11_method_61_code
def yX9_tries : MethodName := ⟨RX9, "tries", "(I)V"⟩
abbrev cX9_puts : ByteArray := prog_11_method_62_code
def yX9_puts : MethodName := ⟨RX9, "puts", "(II)V"⟩
abbrev cX9_swapOf : ByteArray := prog_11_method_63_code
def yX9_swapOf : MethodName := ⟨RX9, "swapOf", "(I)I"⟩
abbrev cX9_swap : ByteArray := prog_11_method_64_code
def yX9_swap : MethodName := ⟨RX9, "swap", "(I)I"⟩
abbrev cX9_fitOf : ByteArray := prog_11_method_65_code
def yX9_fitOf : MethodName := ⟨RX9, "fitOf", "()I"⟩
abbrev cX9_fit : ByteArray := prog_11_method_66_code
def yX9_fit : MethodName := ⟨RX9, "fit", "()I"⟩
abbrev cX9_leaveOf : ByteArray := prog_11_method_67_code
def yX9_leaveOf : MethodName := ⟨RX9, "leaveOf", "(II)I"⟩
abbrev cX9_leaveTold : ByteArray := prog_11_method_68_code
def yX9_leaveTold : MethodName := ⟨RX9, "leaveTold", "(II)I"⟩
abbrev cX9_leave : ByteArray := prog_11_method_69_code
def yX9_leave : MethodName := ⟨RX9, "leave", "(II)I"⟩
abbrev cX9_isSpared : ByteArray := prog_11_method_70_code
def yX9_isSpared : MethodName := ⟨RX9, "isSpared", "(I)Z"⟩
abbrev cX9_spareBy : ByteArray := prog_11_method_71_code
def yX9_spareBy : MethodName := ⟨RX9, "spareBy", "()I"⟩
abbrev cX9_ofRow : ByteArray := prog_11_method_72_code
def yX9_ofRow : MethodName := ⟨RX9, "ofRow", "(II)I"⟩
abbrev cX9_spare : ByteArray := prog_11_method_73_code
def yX9_spare : MethodName := ⟨RX9, "spare", "(I)I"⟩
abbrev cX9_seen : ByteArray := prog_11_method_74_code
def yX9_seen : MethodName := ⟨RX9, "seen", "(III)I"⟩
abbrev cX9_forget : ByteArray := prog_11_method_75_code
def yX9_forget : MethodName := ⟨RX9, "forget", "()I"⟩
abbrev cX9_isSeen : ByteArray := prog_11_method_76_code
def yX9_isSeen : MethodName := ⟨RX9, "isSeen", "()Z"⟩
abbrev cX9_neverNow : ByteArray := prog_11_method_77_code
def yX9_neverNow : MethodName := ⟨RX9, "neverNow", "()I"⟩
abbrev cX9_never : ByteArray := prog_11_method_78_code
def yX9_never : MethodName := ⟨RX9, "never", "()I"⟩
abbrev cX9_heatsBy : ByteArray := prog_11_method_79_code
def yX9_heatsBy : MethodName := ⟨RX9, "heatsBy", "(I)I"⟩
abbrev cX9_sortsBy : ByteArray := prog_11_method_80_code
def yX9_sortsBy : MethodName := ⟨RX9, "sortsBy", "(I)I"⟩
abbrev cX9_was : ByteArray := prog_11_method_81_code
def yX9_was : MethodName := ⟨RX9, "was", "(II)I"⟩
abbrev cX9_askOf : ByteArray := prog_11_method_82_code
def yX9_askOf : MethodName := ⟨RX9, "askOf", "(I)I"⟩
abbrev cX9_ask : ByteArray := prog_11_method_83_code
def yX9_ask : MethodName := ⟨RX9, "ask", "(I)I"⟩
abbrev cX9_chanceOf : ByteArray := prog_11_method_84_code
def yX9_chanceOf : MethodName := ⟨RX9, "chanceOf", "(III)J"⟩
abbrev cX9_chance : ByteArray := prog_11_method_85_code
def yX9_chance : MethodName := ⟨RX9, "chance", "(III)J"⟩
abbrev cX9_seasonsOf : ByteArray := prog_11_method_86_code
def yX9_seasonsOf : MethodName := ⟨RX9, "seasonsOf", "(III)I"⟩
abbrev cX9_seasons : ByteArray := prog_11_method_87_code
def yX9_seasons : MethodName := ⟨RX9, "seasons", "(III)I"⟩
abbrev cX9_meets : ByteArray := prog_11_method_88_code
def yX9_meets : MethodName := ⟨RX9, "meets", "(I)I"⟩
abbrev cX9_isSheet : ByteArray := prog_11_method_89_code
def yX9_isSheet : MethodName := ⟨RX9, "isSheet", "(I)Z"⟩
abbrev cX9_sheet : ByteArray := prog_11_method_90_code
def yX9_sheet : MethodName := ⟨RX9, "sheet", "(III)I"⟩
abbrev cX9_lose : ByteArray := prog_11_method_91_code
def yX9_lose : MethodName := ⟨RX9, "lose", "(I)I"⟩
abbrev cX9_lacks : ByteArray := prog_11_method_92_code
def yX9_lacks : MethodName := ⟨RX9, "lacks", "(III)I"⟩
abbrev cX9_keep : ByteArray := prog_11_method_93_code
def yX9_keep : MethodName := ⟨RX9, "keep", "(III)V"⟩
abbrev cX9_put : ByteArray := prog_11_method_94_code
def yX9_put : MethodName := ⟨RX9, "put", "(IIII)I"⟩
abbrev cX9_get : ByteArray := prog_11_method_95_code
def yX9_get : MethodName := ⟨RX9, "get", "(III)I"⟩
abbrev cX9_copy : ByteArray := prog_11_method_96_code
def yX9_copy : MethodName := ⟨RX9, "copy", "(IIIII)I"⟩
abbrev cX9_write : ByteArray := prog_11_method_97_code
def yX9_write : MethodName := ⟨RX9, "write", "(II)I"⟩
abbrev cX9_tellOf : ByteArray := prog_11_method_98_code
def yX9_tellOf : MethodName := ⟨RX9, "tellOf", "(I)I"⟩
abbrev cX9_count : ByteArray := prog_11_method_99_code
def yX9_count : MethodName := ⟨RX9, "count", "(I)I"⟩
abbrev cX9_heatDigest : ByteArray := prog_11_method_100_code
def yX9_heatDigest : MethodName := ⟨RX9, "heatDigest", "(JII)J"⟩
abbrev cX9_thingDigest : ByteArray := prog_11_method_101_code
def yX9_thingDigest : MethodName := ⟨RX9, "thingDigest", "(JI)J"⟩
abbrev cX9_digest : ByteArray := prog_11_method_102_code
def yX9_digest : MethodName := ⟨RX9, "digest", "()J"⟩
def RJ9 : String := "java/lang/Math"
def TJ9 : u_T := fun k => match k with
  | _ => ("", "", "", false)
def tyJ9 : Nat → FieldType := fun k => match k with
  | _ => .int
abbrev wsJ90 : List Cond := u_ws RJ9 TJ9 0
theorem nmJ9 : ∀ a, a < 0 → ∀ b, b < 0 → a ≠ b → (TJ9 a).2.1 ≠ (TJ9 b).2.1 := by decide +kernel
theorem tyJ9_ok : ∀ k, k < 0 → parseFieldDescriptor (TJ9 k).2.2.1 = some (tyJ9 k) := by decide +kernel
abbrev cJ9_max_7cf53 : ByteArray := prog_12_method_65_code
def yJ9_max_7cf53 : MethodName := ⟨RJ9, "max", "(II)I"⟩
abbrev cJ9_min_7cf53 : ByteArray := prog_12_method_69_code
def yJ9_min_7cf53 : MethodName := ⟨RJ9, "min", "(II)I"⟩
def RJ10 : String := "java/lang/System"
def TJ10 : u_T := fun k => match k with
  | _ => ("", "", "", false)
def tyJ10 : Nat → FieldType := fun k => match k with
  | _ => .int
abbrev wsJ100 : List Cond := u_ws RJ10 TJ10 0
theorem nmJ10 : ∀ a, a < 0 → ∀ b, b < 0 → a ≠ b → (TJ10 a).2.1 ≠ (TJ10 b).2.1 := by decide +kernel
theorem tyJ10_ok : ∀ k, k < 0 → parseFieldDescriptor (TJ10 k).2.2.1 = some (tyJ10 k) := by decide +kernel
def RJ7 : String := "java/util/Arrays"
def TJ7 : u_T := fun k => match k with
  | _ => ("", "", "", false)
def tyJ7 : Nat → FieldType := fun k => match k with
  | _ => .int
abbrev wsJ70 : List Cond := u_ws RJ7 TJ7 0
theorem nmJ7 : ∀ a, a < 0 → ∀ b, b < 0 → a ≠ b → (TJ7 a).2.1 ≠ (TJ7 b).2.1 := by decide +kernel
theorem tyJ7_ok : ∀ k, k < 0 → parseFieldDescriptor (TJ7 k).2.2.1 = some (tyJ7 k) := by decide +kernel
abbrev cJ7_fill_53178 : ByteArray := prog_14_method_103_code
def yJ7_fill_53178 : MethodName := ⟨RJ7, "fill", "([II)V"⟩
def RL : String := "BackHooksLaw"
abbrev cL_law : ByteArray := code
def yL_law : MethodName := ⟨RL, "law", "([I)Z"⟩
abbrev vwCl : List vw_C := [(RX0, TX0, 5), (RX1, TX1, 12), (RX2, TX2, 2), (RX3, TX3, 1), (RX4, TX4, 8), (RX5, TX5, 3), (RX6, TX6, 3), (RX7, TX7, 4), (RX8, TX8, 16), (RX9, TX9, 57)]
end
section
/-! The world as one function of numbers, a judgement over it, a row an instruction. -/
abbrev bk_S : Type := Nat → Nat → Int32
abbrev bk_L : Type := Nat → ((Nat × Nat) ⊕ ((Nat × List (Option Nat)) ⊕ (Nat × (Nat → Nat))))
abbrev bk_Y : Type := bk_L × Nat
abbrev bk_W : Type := va_G × (Nat → Nat) × (Nat → ClassId)
def bk_r (w : bk_W) (k : Nat) : Nat := w.2.1 k
def bk_fs (w : bk_W) (g : Nat → Int32) : Nat → List (Option Nat) → List Value
  | _, [] => []
  | j, some q :: l => .ref (bk_r w q) :: bk_fs w g (j + 1) l
  | j, none :: l => .int (g j) :: bk_fs w g (j + 1) l
def bk_cell (Y : bk_Y) (w : bk_W) (σ : bk_S) (k : Nat) : va_E := match Y.1 k with
  | .inl q => .inl (w.2.2 q.1, q.2, .inl (σ k))
  | .inr (.inl q) => .inr (q.1, bk_fs w (σ k) 0 q.2)
  | .inr (.inr q) => .inl (w.2.2 2, q.1, .inr (.inr (.inr (.inr (fun j => some (bk_r w (q.2 j)))))))
def bk_wl (Y : bk_Y) (w : bk_W) (σ : bk_S) : va_W := (List.range Y.2).map fun k => (bk_r w k, bk_cell Y w σ k)
abbrev bk_tys (w : bk_W) : List (ClassId × FieldType) := [(w.2.2 0, .int), (w.2.2 1, .boolean), (w.2.2 2, .object "BackHooks$Sheet")]
def bk_is (Y : bk_Y) (k : Nat) (x : (Nat × Nat) ⊕ ((Nat × List (Option Nat)) ⊕ (Nat × (Nat → Nat)))) : Prop := Y.1 k = x ∧ k < Y.2
/-- a row of the state replaced -/
def bk_w (σ : bk_S) (k : Nat) (g : Nat → Int32) : bk_S := fun a => if a = k then g else σ a
/-- one number of the state replaced -/
def bk_u (σ : bk_S) (k j : Nat) (v : Int32) : bk_S := bk_w σ k (upd (σ k) j v)
def bk_lt {α : Type} (a : α) (f : α → Prop) : Prop := f a
def bk_jn {α : Type} (rest : α → Prop) (F : (α → Prop) → Prop) : Prop := F rest
def bk_lp {α : Type} (F : (α → Prop) → α → Prop) : Nat → α → Prop
  | 0, _ => False
  | n + 1, a => F (bk_lp F n) a
def bk_loop {α : Type} (F : (α → Prop) → α → Prop) (a : α) : Prop := ∃ n, bk_lp F n a
theorem bk_w_s (σ : bk_S) (k : Nat) (g : Nat → Int32) : bk_w σ k g k = g := if_pos rfl
theorem bk_w_n (σ : bk_S) {k a : Nat} (g : Nat → Int32) (h : a ≠ k) : bk_w σ k g a = σ a := if_neg h
theorem bk_fs_get (w : bk_W) (g : Nat → Int32) : ∀ (l : List (Option Nat)) (j k : Nat), (bk_fs w g j l)[k]? = (l[k]?).map (fun o => match o with | some q => Value.ref (bk_r w q) | none => Value.int (g (j + k)))
  | [], _, _ => by simp [bk_fs]
  | some q :: l, j, 0 => by simp [bk_fs]
  | none :: l, j, 0 => by simp [bk_fs]
  | some q :: l, j, k + 1 => by
    simp only [bk_fs, List.getElem?_cons_succ, bk_fs_get w g l (j + 1) k]
    rw [show j + 1 + k = j + (k + 1) by omega]
  | none :: l, j, k + 1 => by
    simp only [bk_fs, List.getElem?_cons_succ, bk_fs_get w g l (j + 1) k]
    rw [show j + 1 + k = j + (k + 1) by omega]
theorem bk_fs_len (w : bk_W) (g : Nat → Int32) : ∀ (l : List (Option Nat)) (j : Nat), (bk_fs w g j l).length = l.length
  | [], _ => rfl
  | some q :: l, j => by simp [bk_fs, bk_fs_len w g l]
  | none :: l, j => by simp [bk_fs, bk_fs_len w g l]
theorem bk_fs_congr (w : bk_W) {g g' : Nat → Int32} : ∀ (l : List (Option Nat)) (j : Nat), (∀ i, j ≤ i → g i = g' i) → bk_fs w g j l = bk_fs w g' j l
  | [], _, _ => rfl
  | some q :: l, j, h => by simp only [bk_fs]; rw [bk_fs_congr w l (j + 1) (fun i hi => h i (by omega))]
  | none :: l, j, h => by simp only [bk_fs]; rw [bk_fs_congr w l (j + 1) (fun i hi => h i (by omega)), h j (Nat.le_refl j)]
theorem bk_fs_set (w : bk_W) (g : Nat → Int32) (v : Int32) : ∀ (l : List (Option Nat)) (j k : Nat), l[k]? = some none → (bk_fs w g j l).set k (.int v) = bk_fs w (upd g (j + k) v) j l
  | [], _, _, h => by simp at h
  | some q :: l, j, 0, h => by simp at h
  | none :: l, j, 0, _ => by
    simp only [bk_fs, List.set_cons_zero, Nat.add_zero]
    rw [bk_fs_congr w (g := g) (g' := upd g j v) l (j + 1) (fun i hi => by simp [upd, show i ≠ j by omega])]
    simp [upd]
  | some q :: l, j, k + 1, h => by
    have h : l[k]? = some none := by simpa using h
    simp only [bk_fs, List.set_cons_succ, bk_fs_set w g v l (j + 1) k h]
    rw [show j + 1 + k = j + (k + 1) by omega]
  | none :: l, j, k + 1, h => by
    have h : l[k]? = some none := by simpa using h
    simp only [bk_fs, List.set_cons_succ, bk_fs_set w g v l (j + 1) k h]
    rw [show j + 1 + k = j + (k + 1) by omega]
    simp [upd, show j ≠ j + (k + 1) by omega]
theorem bk_wl_get (Y : bk_Y) (w : bk_W) (σ : bk_S) {k : Nat} (h : k < Y.2) : (bk_wl Y w σ)[k]? = some (bk_r w k, bk_cell Y w σ k) := by
  simp [bk_wl, h]
theorem bk_wl_none (Y : bk_Y) (w : bk_W) (σ : bk_S) {k : Nat} (h : Y.2 ≤ k) : (bk_wl Y w σ)[k]? = none := by
  simp [bk_wl, h]
theorem bk_wl_some {Y : bk_Y} {w : bk_W} {σ : bk_S} {k : Nat} {q : Nat × va_E} (h : (bk_wl Y w σ)[k]? = some q) : k < Y.2 ∧ q = (bk_r w k, bk_cell Y w σ k) := by
  rcases Nat.lt_or_ge k Y.2 with hk | hk
  · rw [bk_wl_get Y w σ hk] at h; exact ⟨hk, (Option.some.inj h).symm⟩
  · rw [bk_wl_none Y w σ hk] at h; cases h
theorem bk_cell_n (Y : bk_Y) (w : bk_W) (σ : bk_S) {k a : Nat} (g : Nat → Int32) (h : a ≠ k) : bk_cell Y w (bk_w σ k g) a = bk_cell Y w σ a := by
  simp only [bk_cell, bk_w_n σ g h]
theorem bk_wl_set (Y : bk_Y) (w : bk_W) (σ : bk_S) {k : Nat} (g : Nat → Int32) (h : k < Y.2) (x : va_E) (hx : bk_cell Y w (bk_w σ k g) k = x) : (bk_wl Y w σ).set k (bk_r w k, x) = bk_wl Y w (bk_w σ k g) := by
  apply List.ext_getElem?
  intro i
  rw [List.getElem?_set]
  by_cases hik : k = i
  · subst hik
    rw [if_pos rfl, bk_wl_get Y w _ h, hx]
    simp [bk_wl, h]
  · rw [if_neg hik]
    rcases Nat.lt_or_ge i Y.2 with hi | hi
    · rw [bk_wl_get Y w _ hi, bk_wl_get Y w _ hi, bk_cell_n Y w σ g (fun e => hik e.symm)]
    · rw [bk_wl_none Y w _ hi, bk_wl_none Y w _ hi]
abbrev bk_X : Type := (Program × Launch × Env × Room × State × MethodId × Array Value × List Frame × Method × Code) × (Nat × Nat × Nat × (State → Prop) × (Nat → Prop))
def bk_At (Y : bk_Y) (w : bk_W) (X : bk_X) (pc : Nat) (lv : List (Nat × Value)) (st : List Value) (σ : bk_S) : Prop := match X with
  | ((p, l, e, R, s, m, args, below, meth, c), (nL, cells, slots, Q, A)) => ∀ (H : Heap) (locs : List Loc) (ls : Array Slot), va_P w.1 vwCl (bk_wl Y w σ) H → va_S A s.heap H locs → lv_has ls nL lv → W p l e R s m args below meth c H locs cells slots Q (F0 m pc ls st)
def bk_D (Y : bk_Y) (w : bk_W) (A : Nat → Prop) : Prop := (∀ i j, i < Y.2 → j < Y.2 → bk_r w i = bk_r w j → i = j) ∧ ∀ k, k < Y.2 → A (bk_r w k)
def lw_good : List Cond := lw_tbl.filter goodWord
theorem bk_in {w : Cond} (i : Nat) (h : lw_tbl[i]? = some w) (g : goodWord w = true) : w ∈ lw_good := List.mem_filter.mpr ⟨List.mem_of_getElem? h, g⟩
def bk_nest : List (String × Nat × MethodName × String) := [(RX8, 23, yX7_init, RX8), (RX8, 39, yX4_init, RX8), (RX8, 49, yX1_init, RX8), (RX8, 59, yX0_init, RX8), (RX8, 66, yX2_init, RX8), (RX8, 73, yX3_init, RX8), (RX8, 93, yX5_init, RX8), (RX1, 118, yX8_sumOf, RX8), (RX5, 32, yX8_isBelow, RX8)]
def bk_N (U : State) : Prop := ∀ q ∈ bk_nest, va_Nw (.methodLinkNest q.1 q.2.1 q.2.2.1 q.2.2.2) U
theorem bk_N.warm {s U : State} (h : bk_N s) (hW : s.WarmedH U.vm) : bk_N U := fun q hq => va_Nw.warmM hW (h q hq)
theorem bk_N.same {s U : State} (h : bk_N s) (e : s.vm = U.vm) : bk_N U := fun q hq => va_Nw.same rfl e (h q hq)
def bk_Ok (Y : bk_Y) (w : bk_W) (X : bk_X) (cc : ByteArray) (own : String) (n fr lo : Nat) : Prop := match X with
  | ((p, l, e, R, s, m, args, below, meth, c), (nL, cells, slots, Q, A)) => p.tables.exec = Jvm.exec ∧ c.code = cc ∧ c.maxLocals = nL ∧ s.vm.findClass own = some m.cls ∧ (∀ w ∈ lw_good, w.before args s = true) ∧ va_K w.1 vwCl (bk_tys w) s ∧ bk_N s ∧ bk_D Y w A ∧ (∀ q, s.heap.size ≤ q → A q) ∧ nL = n ∧ fr ≤ R.frames ∧ lo ≤ R.locals ∧ cells ≤ R.cells ∧ slots ≤ R.slots
theorem bk_D.va {Y : bk_Y} {w : bk_W} {A : Nat → Prop} (h : bk_D Y w A) (σ : bk_S) : va_D A (bk_wl Y w σ) := by
  refine ⟨fun i j p q hi hj e => ?_, fun k q hk => ?_⟩
  · obtain ⟨h1, rfl⟩ := bk_wl_some hi
    obtain ⟨h2, rfl⟩ := bk_wl_some hj
    exact h.1 i j h1 h2 e
  · obtain ⟨h1, rfl⟩ := bk_wl_some hk
    exact h.2 k h1
theorem bk_D.of {Y : bk_Y} {w : bk_W} {A : Nat → Prop} {σ : bk_S} (h : va_D A (bk_wl Y w σ)) : bk_D Y w A :=
  ⟨fun i j hi hj e => h.1 i j _ _ (bk_wl_get Y w σ hi) (bk_wl_get Y w σ hj) e, fun k hk => h.2 k _ (bk_wl_get Y w σ hk)⟩
end
section
section Rows
variable {Y : bk_Y} {w : bk_W} {X : bk_X} {cc : ByteArray} {own : String} {n fr lo pc : Nat} {lv : List (Nat × Value)} {st : List Value} {σ : bk_S} {Z : Prop}
theorem bk_iadd (hX : bk_Ok Y w X cc own n fr lo) {x y : Int32} (d : decode cc pc = .ok (.iadd, 1)) (k : Z → bk_At Y w X (pc + 1) lv (.int (x + y) :: st) σ) : Z → bk_At Y w X pc lv (.int y :: .int x :: st) σ := by
  obtain ⟨⟨p, l, e, R, s, m, args, below, meth, c⟩, nL, cells, slots, Q, A⟩ := X
  obtain ⟨hx, hb, hml, hown, hts, hK, hN, hD, hA, rfl, hfr, hlo, hce, hsl⟩ := hX
  exact fun z H locs ls hP hS hl => lv_iadd hx hb d  (k z H locs ls hP hS hl)
theorem bk_isub (hX : bk_Ok Y w X cc own n fr lo) {x y : Int32} (d : decode cc pc = .ok (.isub, 1)) (k : Z → bk_At Y w X (pc + 1) lv (.int (x - y) :: st) σ) : Z → bk_At Y w X pc lv (.int y :: .int x :: st) σ := by
  obtain ⟨⟨p, l, e, R, s, m, args, below, meth, c⟩, nL, cells, slots, Q, A⟩ := X
  obtain ⟨hx, hb, hml, hown, hts, hK, hN, hD, hA, rfl, hfr, hlo, hce, hsl⟩ := hX
  exact fun z H locs ls hP hS hl => lv_isub hx hb d  (k z H locs ls hP hS hl)
theorem bk_imul (hX : bk_Ok Y w X cc own n fr lo) {x y : Int32} (d : decode cc pc = .ok (.imul, 1)) (k : Z → bk_At Y w X (pc + 1) lv (.int (x * y) :: st) σ) : Z → bk_At Y w X pc lv (.int y :: .int x :: st) σ := by
  obtain ⟨⟨p, l, e, R, s, m, args, below, meth, c⟩, nL, cells, slots, Q, A⟩ := X
  obtain ⟨hx, hb, hml, hown, hts, hK, hN, hD, hA, rfl, hfr, hlo, hce, hsl⟩ := hX
  exact fun z H locs ls hP hS hl => lv_imul hx hb d  (k z H locs ls hP hS hl)
theorem bk_iand (hX : bk_Ok Y w X cc own n fr lo) {x y : Int32} (d : decode cc pc = .ok (.iand, 1)) (k : Z → bk_At Y w X (pc + 1) lv (.int (x &&& y) :: st) σ) : Z → bk_At Y w X pc lv (.int y :: .int x :: st) σ := by
  obtain ⟨⟨p, l, e, R, s, m, args, below, meth, c⟩, nL, cells, slots, Q, A⟩ := X
  obtain ⟨hx, hb, hml, hown, hts, hK, hN, hD, hA, rfl, hfr, hlo, hce, hsl⟩ := hX
  exact fun z H locs ls hP hS hl => lv_iand hx hb d  (k z H locs ls hP hS hl)
theorem bk_ior (hX : bk_Ok Y w X cc own n fr lo) {x y : Int32} (d : decode cc pc = .ok (.ior, 1)) (k : Z → bk_At Y w X (pc + 1) lv (.int (x ||| y) :: st) σ) : Z → bk_At Y w X pc lv (.int y :: .int x :: st) σ := by
  obtain ⟨⟨p, l, e, R, s, m, args, below, meth, c⟩, nL, cells, slots, Q, A⟩ := X
  obtain ⟨hx, hb, hml, hown, hts, hK, hN, hD, hA, rfl, hfr, hlo, hce, hsl⟩ := hX
  exact fun z H locs ls hP hS hl => lv_ior hx hb d  (k z H locs ls hP hS hl)
theorem bk_ixor (hX : bk_Ok Y w X cc own n fr lo) {x y : Int32} (d : decode cc pc = .ok (.ixor, 1)) (k : Z → bk_At Y w X (pc + 1) lv (.int (x ^^^ y) :: st) σ) : Z → bk_At Y w X pc lv (.int y :: .int x :: st) σ := by
  obtain ⟨⟨p, l, e, R, s, m, args, below, meth, c⟩, nL, cells, slots, Q, A⟩ := X
  obtain ⟨hx, hb, hml, hown, hts, hK, hN, hD, hA, rfl, hfr, hlo, hce, hsl⟩ := hX
  exact fun z H locs ls hP hS hl => lv_ixor hx hb d  (k z H locs ls hP hS hl)
theorem bk_ishl (hX : bk_Ok Y w X cc own n fr lo) {x y : Int32} (d : decode cc pc = .ok (.ishl, 1)) (k : Z → bk_At Y w X (pc + 1) lv (.int (x <<< (y &&& 31)) :: st) σ) : Z → bk_At Y w X pc lv (.int y :: .int x :: st) σ := by
  obtain ⟨⟨p, l, e, R, s, m, args, below, meth, c⟩, nL, cells, slots, Q, A⟩ := X
  obtain ⟨hx, hb, hml, hown, hts, hK, hN, hD, hA, rfl, hfr, hlo, hce, hsl⟩ := hX
  exact fun z H locs ls hP hS hl => lv_ishl hx hb d  (k z H locs ls hP hS hl)
theorem bk_ishr (hX : bk_Ok Y w X cc own n fr lo) {x y : Int32} (d : decode cc pc = .ok (.ishr, 1)) (k : Z → bk_At Y w X (pc + 1) lv (.int (x >>> (y &&& 31)) :: st) σ) : Z → bk_At Y w X pc lv (.int y :: .int x :: st) σ := by
  obtain ⟨⟨p, l, e, R, s, m, args, below, meth, c⟩, nL, cells, slots, Q, A⟩ := X
  obtain ⟨hx, hb, hml, hown, hts, hK, hN, hD, hA, rfl, hfr, hlo, hce, hsl⟩ := hX
  exact fun z H locs ls hP hS hl => lv_ishr hx hb d  (k z H locs ls hP hS hl)
theorem bk_iushr (hX : bk_Ok Y w X cc own n fr lo) {x y : Int32} (d : decode cc pc = .ok (.iushr, 1)) (k : Z → bk_At Y w X (pc + 1) lv (.int ((x.toUInt32 >>> (y.toUInt32 &&& Int32.toUInt32 31)).toInt32) :: st) σ) : Z → bk_At Y w X pc lv (.int y :: .int x :: st) σ := by
  obtain ⟨⟨p, l, e, R, s, m, args, below, meth, c⟩, nL, cells, slots, Q, A⟩ := X
  obtain ⟨hx, hb, hml, hown, hts, hK, hN, hD, hA, rfl, hfr, hlo, hce, hsl⟩ := hX
  exact fun z H locs ls hP hS hl => lv_iushr hx hb d rfl (k z H locs ls hP hS hl)
theorem bk_ladd (hX : bk_Ok Y w X cc own n fr lo) {x y : Int64} (d : decode cc pc = .ok (.ladd, 1)) (k : Z → bk_At Y w X (pc + 1) lv (.long (x + y) :: st) σ) : Z → bk_At Y w X pc lv (.long y :: .long x :: st) σ := by
  obtain ⟨⟨p, l, e, R, s, m, args, below, meth, c⟩, nL, cells, slots, Q, A⟩ := X
  obtain ⟨hx, hb, hml, hown, hts, hK, hN, hD, hA, rfl, hfr, hlo, hce, hsl⟩ := hX
  exact fun z H locs ls hP hS hl => lv_ladd hx hb d  (k z H locs ls hP hS hl)
theorem bk_lsub (hX : bk_Ok Y w X cc own n fr lo) {x y : Int64} (d : decode cc pc = .ok (.lsub, 1)) (k : Z → bk_At Y w X (pc + 1) lv (.long (x - y) :: st) σ) : Z → bk_At Y w X pc lv (.long y :: .long x :: st) σ := by
  obtain ⟨⟨p, l, e, R, s, m, args, below, meth, c⟩, nL, cells, slots, Q, A⟩ := X
  obtain ⟨hx, hb, hml, hown, hts, hK, hN, hD, hA, rfl, hfr, hlo, hce, hsl⟩ := hX
  exact fun z H locs ls hP hS hl => lv_lsub hx hb d  (k z H locs ls hP hS hl)
theorem bk_lmul (hX : bk_Ok Y w X cc own n fr lo) {x y : Int64} (d : decode cc pc = .ok (.lmul, 1)) (k : Z → bk_At Y w X (pc + 1) lv (.long (x * y) :: st) σ) : Z → bk_At Y w X pc lv (.long y :: .long x :: st) σ := by
  obtain ⟨⟨p, l, e, R, s, m, args, below, meth, c⟩, nL, cells, slots, Q, A⟩ := X
  obtain ⟨hx, hb, hml, hown, hts, hK, hN, hD, hA, rfl, hfr, hlo, hce, hsl⟩ := hX
  exact fun z H locs ls hP hS hl => lv_lmul hx hb d  (k z H locs ls hP hS hl)
theorem bk_land (hX : bk_Ok Y w X cc own n fr lo) {x y : Int64} (d : decode cc pc = .ok (.land, 1)) (k : Z → bk_At Y w X (pc + 1) lv (.long (x &&& y) :: st) σ) : Z → bk_At Y w X pc lv (.long y :: .long x :: st) σ := by
  obtain ⟨⟨p, l, e, R, s, m, args, below, meth, c⟩, nL, cells, slots, Q, A⟩ := X
  obtain ⟨hx, hb, hml, hown, hts, hK, hN, hD, hA, rfl, hfr, hlo, hce, hsl⟩ := hX
  exact fun z H locs ls hP hS hl => lv_land hx hb d  (k z H locs ls hP hS hl)
theorem bk_lcmp (hX : bk_Ok Y w X cc own n fr lo) {x y : Int64} (d : decode cc pc = .ok (.lcmp, 1)) (k : Z → bk_At Y w X (pc + 1) lv (.int (lg_cmp x y) :: st) σ) : Z → bk_At Y w X pc lv (.long y :: .long x :: st) σ := by
  obtain ⟨⟨p, l, e, R, s, m, args, below, meth, c⟩, nL, cells, slots, Q, A⟩ := X
  obtain ⟨hx, hb, hml, hown, hts, hK, hN, hD, hA, rfl, hfr, hlo, hce, hsl⟩ := hX
  exact fun z H locs ls hP hS hl => W.lcmp hx hb d  (k z H locs ls hP hS hl)
theorem bk_lshl (hX : bk_Ok Y w X cc own n fr lo) {x : Int64} {y : Int32} (d : decode cc pc = .ok (.lshl, 1)) (k : Z → bk_At Y w X (pc + 1) lv (.long (x <<< (y.toInt64 &&& 63)) :: st) σ) : Z → bk_At Y w X pc lv (.int y :: .long x :: st) σ := by
  obtain ⟨⟨p, l, e, R, s, m, args, below, meth, c⟩, nL, cells, slots, Q, A⟩ := X
  obtain ⟨hx, hb, hml, hown, hts, hK, hN, hD, hA, rfl, hfr, hlo, hce, hsl⟩ := hX
  exact fun z H locs ls hP hS hl => lv_lshl hx hb d rfl (k z H locs ls hP hS hl)
theorem bk_lshr (hX : bk_Ok Y w X cc own n fr lo) {x : Int64} {y : Int32} (d : decode cc pc = .ok (.lshr, 1)) (k : Z → bk_At Y w X (pc + 1) lv (.long (x >>> (y.toInt64 &&& 63)) :: st) σ) : Z → bk_At Y w X pc lv (.int y :: .long x :: st) σ := by
  obtain ⟨⟨p, l, e, R, s, m, args, below, meth, c⟩, nL, cells, slots, Q, A⟩ := X
  obtain ⟨hx, hb, hml, hown, hts, hK, hN, hD, hA, rfl, hfr, hlo, hce, hsl⟩ := hX
  exact fun z H locs ls hP hS hl => lv_lshr hx hb d rfl (k z H locs ls hP hS hl)
theorem bk_i2l (hX : bk_Ok Y w X cc own n fr lo) {x : Int32} (d : decode cc pc = .ok (.i2l, 1)) (k : Z → bk_At Y w X (pc + 1) lv (.long x.toInt64 :: st) σ) : Z → bk_At Y w X pc lv (.int x :: st) σ := by
  obtain ⟨⟨p, l, e, R, s, m, args, below, meth, c⟩, nL, cells, slots, Q, A⟩ := X
  obtain ⟨hx, hb, hml, hown, hts, hK, hN, hD, hA, rfl, hfr, hlo, hce, hsl⟩ := hX
  exact fun z H locs ls hP hS hl => lv_i2l hx hb d rfl (k z H locs ls hP hS hl)
theorem bk_i2b (hX : bk_Ok Y w X cc own n fr lo) {x : Int32} (d : decode cc pc = .ok (.i2b, 1)) (k : Z → bk_At Y w X (pc + 1) lv (.int x.toInt8.toInt32 :: st) σ) : Z → bk_At Y w X pc lv (.int x :: st) σ := by
  obtain ⟨⟨p, l, e, R, s, m, args, below, meth, c⟩, nL, cells, slots, Q, A⟩ := X
  obtain ⟨hx, hb, hml, hown, hts, hK, hN, hD, hA, rfl, hfr, hlo, hce, hsl⟩ := hX
  exact fun z H locs ls hP hS hl => lv_i2b hx hb d rfl (k z H locs ls hP hS hl)
theorem bk_i2s (hX : bk_Ok Y w X cc own n fr lo) {x : Int32} (d : decode cc pc = .ok (.i2s, 1)) (k : Z → bk_At Y w X (pc + 1) lv (.int x.toInt16.toInt32 :: st) σ) : Z → bk_At Y w X pc lv (.int x :: st) σ := by
  obtain ⟨⟨p, l, e, R, s, m, args, below, meth, c⟩, nL, cells, slots, Q, A⟩ := X
  obtain ⟨hx, hb, hml, hown, hts, hK, hN, hD, hA, rfl, hfr, hlo, hce, hsl⟩ := hX
  exact fun z H locs ls hP hS hl => lv_i2s hx hb d rfl (k z H locs ls hP hS hl)
theorem bk_dup (hX : bk_Ok Y w X cc own n fr lo) {va : Value} (hv : va.category = 1) (d : decode cc pc = .ok (.dup, 1)) (k : Z → bk_At Y w X (pc + 1) lv (va :: va :: st) σ) : Z → bk_At Y w X pc lv (va :: st) σ := by
  obtain ⟨⟨p, l, e, R, s, m, args, below, meth, c⟩, nL, cells, slots, Q, A⟩ := X
  obtain ⟨hx, hb, hml, hown, hts, hK, hN, hD, hA, rfl, hfr, hlo, hce, hsl⟩ := hX
  exact fun z H locs ls hP hS hl => lv_dup hx hb d hv (k z H locs ls hP hS hl)
theorem bk_pop (hX : bk_Ok Y w X cc own n fr lo) {va : Value} (hv : va.category = 1) (d : decode cc pc = .ok (.pop, 1)) (k : Z → bk_At Y w X (pc + 1) lv (st) σ) : Z → bk_At Y w X pc lv (va :: st) σ := by
  obtain ⟨⟨p, l, e, R, s, m, args, below, meth, c⟩, nL, cells, slots, Q, A⟩ := X
  obtain ⟨hx, hb, hml, hown, hts, hK, hN, hD, hA, rfl, hfr, hlo, hce, hsl⟩ := hX
  exact fun z H locs ls hP hS hl => lv_pop hx hb d hv (k z H locs ls hP hS hl)
theorem bk_dup2 (hX : bk_Ok Y w X cc own n fr lo) {va vb : Value} (hv : va.category = 1) (hu : vb.category = 1) (d : decode cc pc = .ok (.dup2, 1)) (k : Z → bk_At Y w X (pc + 1) lv (va :: vb :: va :: vb :: st) σ) : Z → bk_At Y w X pc lv (va :: vb :: st) σ := by
  obtain ⟨⟨p, l, e, R, s, m, args, below, meth, c⟩, nL, cells, slots, Q, A⟩ := X
  obtain ⟨hx, hb, hml, hown, hts, hK, hN, hD, hA, rfl, hfr, hlo, hce, hsl⟩ := hX
  exact fun z H locs ls hP hS hl => lv_dup2_11 hx hb d hv hu (k z H locs ls hP hS hl)
theorem bk_iconst (hX : bk_Ok Y w X cc own n fr lo) {i : Int} {v : Int32} (hv : Int32.ofInt i = v) (d : decode cc pc = .ok (.iconst i, 1)) (k : Z → bk_At Y w X (pc + 1) lv (.int v :: st) σ) : Z → bk_At Y w X pc lv (st) σ := by
  obtain ⟨⟨p, l, e, R, s, m, args, below, meth, c⟩, nL, cells, slots, Q, A⟩ := X
  obtain ⟨hx, hb, hml, hown, hts, hK, hN, hD, hA, rfl, hfr, hlo, hce, hsl⟩ := hX
  exact fun z H locs ls hP hS hl => lv_iconst hx hb d hv (k z H locs ls hP hS hl)
theorem bk_bipush (hX : bk_Ok Y w X cc own n fr lo) {i : Int} {v : Int32} (hv : (Int8.ofInt i).toInt32 = v) (d : decode cc pc = .ok (.bipush i, 2)) (k : Z → bk_At Y w X (pc + 2) lv (.int v :: st) σ) : Z → bk_At Y w X pc lv (st) σ := by
  obtain ⟨⟨p, l, e, R, s, m, args, below, meth, c⟩, nL, cells, slots, Q, A⟩ := X
  obtain ⟨hx, hb, hml, hown, hts, hK, hN, hD, hA, rfl, hfr, hlo, hce, hsl⟩ := hX
  exact fun z H locs ls hP hS hl => lv_bipush hx hb d hv (k z H locs ls hP hS hl)
theorem bk_sipush (hX : bk_Ok Y w X cc own n fr lo) {i : Int} {v : Int32} (hv : (Int16.ofInt i).toInt32 = v) (d : decode cc pc = .ok (.sipush i, 3)) (k : Z → bk_At Y w X (pc + 3) lv (.int v :: st) σ) : Z → bk_At Y w X pc lv (st) σ := by
  obtain ⟨⟨p, l, e, R, s, m, args, below, meth, c⟩, nL, cells, slots, Q, A⟩ := X
  obtain ⟨hx, hb, hml, hown, hts, hK, hN, hD, hA, rfl, hfr, hlo, hce, hsl⟩ := hX
  exact fun z H locs ls hP hS hl => lv_sipush hx hb d hv (k z H locs ls hP hS hl)
theorem bk_lconst (hX : bk_Ok Y w X cc own n fr lo) {i : Fin 2} {v : Int64} (hv : Int64.ofNat (i : Nat) = v) (d : decode cc pc = .ok (.lconst i, 1)) (k : Z → bk_At Y w X (pc + 1) lv (.long v :: st) σ) : Z → bk_At Y w X pc lv (st) σ := by
  obtain ⟨⟨p, l, e, R, s, m, args, below, meth, c⟩, nL, cells, slots, Q, A⟩ := X
  obtain ⟨hx, hb, hml, hown, hts, hK, hN, hD, hA, rfl, hfr, hlo, hce, hsl⟩ := hX
  exact fun z H locs ls hP hS hl => lv_lconst hx hb d hv (k z H locs ls hP hS hl)
theorem bk_ldc (hX : bk_Ok Y w X cc own n fr lo) {i : Nat} {v : Int32} (hc : Jvm.Cond.constant own i v ∈ lw_good) (d : decode cc pc = .ok (.ldc i, 2)) (k : Z → bk_At Y w X (pc + 2) lv (.int v :: st) σ) : Z → bk_At Y w X pc lv st σ := by
  obtain ⟨⟨p, l, e, R, s, m, args, below, meth, c⟩, nL, cells, slots, Q, A⟩ := X
  obtain ⟨hx, hb, hml, hown, hts, hK, hN, hD, hA, rfl, hfr, hlo, hce, hsl⟩ := hX
  exact fun z H locs ls hP hS hl => lv_ldc hx hb hown (hts _ hc) d (k z H locs ls hP hS hl)
theorem bk_ldcw (hX : bk_Ok Y w X cc own n fr lo) {i : Nat} {v : Int32} (hc : Jvm.Cond.constant own i v ∈ lw_good) (d : decode cc pc = .ok (.ldc_w i, 3)) (k : Z → bk_At Y w X (pc + 3) lv (.int v :: st) σ) : Z → bk_At Y w X pc lv st σ := by
  obtain ⟨⟨p, l, e, R, s, m, args, below, meth, c⟩, nL, cells, slots, Q, A⟩ := X
  obtain ⟨hx, hb, hml, hown, hts, hK, hN, hD, hA, rfl, hfr, hlo, hce, hsl⟩ := hX
  exact fun z H locs ls hP hS hl => lv_ldcw hx hb hown (hts _ hc) d (k z H locs ls hP hS hl)
theorem bk_ldc2 (hX : bk_Ok Y w X cc own n fr lo) {i : Nat} {v : Int64} (hc : Jvm.Cond.constantLong own i v ∈ lw_good) (d : decode cc pc = .ok (.ldc2_w i, 3)) (k : Z → bk_At Y w X (pc + 3) lv (.long v :: st) σ) : Z → bk_At Y w X pc lv st σ := by
  obtain ⟨⟨p, l, e, R, s, m, args, below, meth, c⟩, nL, cells, slots, Q, A⟩ := X
  obtain ⟨hx, hb, hml, hown, hts, hK, hN, hD, hA, rfl, hfr, hlo, hce, hsl⟩ := hX
  exact fun z H locs ls hP hS hl => lv_ldc2 hx hb hown (hts _ hc) d (k z H locs ls hP hS hl)
theorem bk_irem (hX : bk_Ok Y w X cc own n fr lo) {x y : Int32} (d : decode cc pc = .ok (.irem, 1)) (k : Z → bk_At Y w X (pc + 1) lv (.int (x - x / y * y) :: st) σ) : ¬ y = 0 ∧ Z → bk_At Y w X pc lv (.int y :: .int x :: st) σ := by
  obtain ⟨⟨p, l, e, R, s, m, args, below, meth, c⟩, nL, cells, slots, Q, A⟩ := X
  obtain ⟨hx, hb, hml, hown, hts, hK, hN, hD, hA, rfl, hfr, hlo, hce, hsl⟩ := hX
  exact fun z H locs ls hP hS hl => lv_irem hx hb d z.1 (k z.2 H locs ls hP hS hl)
theorem bk_idiv (hX : bk_Ok Y w X cc own n fr lo) {x y : Int32} (d : decode cc pc = .ok (.idiv, 1)) (k : Z → bk_At Y w X (pc + 1) lv (.int (x / y) :: st) σ) : ¬ y = 0 ∧ Z → bk_At Y w X pc lv (.int y :: .int x :: st) σ := by
  obtain ⟨⟨p, l, e, R, s, m, args, below, meth, c⟩, nL, cells, slots, Q, A⟩ := X
  obtain ⟨hx, hb, hml, hown, hts, hK, hN, hD, hA, rfl, hfr, hlo, hce, hsl⟩ := hX
  exact fun z H locs ls hP hS hl => lv_idiv hx hb d z.1 (k z.2 H locs ls hP hS hl)
theorem bk_lrem (hX : bk_Ok Y w X cc own n fr lo) {x y : Int64} (d : decode cc pc = .ok (.lrem, 1)) (k : Z → bk_At Y w X (pc + 1) lv (.long (x - x / y * y) :: st) σ) : ¬ y = 0 ∧ Z → bk_At Y w X pc lv (.long y :: .long x :: st) σ := by
  obtain ⟨⟨p, l, e, R, s, m, args, below, meth, c⟩, nL, cells, slots, Q, A⟩ := X
  obtain ⟨hx, hb, hml, hown, hts, hK, hN, hD, hA, rfl, hfr, hlo, hce, hsl⟩ := hX
  exact fun z H locs ls hP hS hl => lv_lrem hx hb d z.1 (k z.2 H locs ls hP hS hl)
theorem bk_ldiv (hX : bk_Ok Y w X cc own n fr lo) {x y : Int64} (d : decode cc pc = .ok (.ldiv, 1)) (k : Z → bk_At Y w X (pc + 1) lv (.long (x / y) :: st) σ) : ¬ y = 0 ∧ Z → bk_At Y w X pc lv (.long y :: .long x :: st) σ := by
  obtain ⟨⟨p, l, e, R, s, m, args, below, meth, c⟩, nL, cells, slots, Q, A⟩ := X
  obtain ⟨hx, hb, hml, hown, hts, hK, hN, hD, hA, rfl, hfr, hlo, hce, hsl⟩ := hX
  exact fun z H locs ls hP hS hl => lv_ldiv hx hb d z.1 (k z.2 H locs ls hP hS hl)
theorem bk_iload_n (hX : bk_Ok Y w X cc own n fr lo) (j : Nat) {i : Fin 4} {x : Int32} (d : decode cc pc = .ok (.iload_n i, 1)) (h : lv[j]? = some ((i : Nat), .int x)) (k : Z → bk_At Y w X (pc + 1) lv (.int x :: st) σ) : Z → bk_At Y w X pc lv st σ := by
  obtain ⟨⟨p, l, e, R, s, m, args, below, meth, c⟩, nL, cells, slots, Q, A⟩ := X
  obtain ⟨hx, hb, hml, hown, hts, hK, hN, hD, hA, rfl, hfr, hlo, hce, hsl⟩ := hX
  exact fun z H locs ls hP hS hl => lv_iload_n hx hb d rfl (lv_at hl j h) (k z H locs ls hP hS hl)
theorem bk_iload (hX : bk_Ok Y w X cc own n fr lo) (j : Nat) {i : Nat} {x : Int32} (d : decode cc pc = .ok (.iload i, 2)) (h : lv[j]? = some (i, .int x)) (k : Z → bk_At Y w X (pc + 2) lv (.int x :: st) σ) : Z → bk_At Y w X pc lv st σ := by
  obtain ⟨⟨p, l, e, R, s, m, args, below, meth, c⟩, nL, cells, slots, Q, A⟩ := X
  obtain ⟨hx, hb, hml, hown, hts, hK, hN, hD, hA, rfl, hfr, hlo, hce, hsl⟩ := hX
  exact fun z H locs ls hP hS hl => lv_iload hx hb d (lv_at hl j h) (k z H locs ls hP hS hl)
theorem bk_lload_n (hX : bk_Ok Y w X cc own n fr lo) (j : Nat) {i : Fin 4} {x : Int64} (d : decode cc pc = .ok (.lload_n i, 1)) (h : lv[j]? = some ((i : Nat), .long x)) (k : Z → bk_At Y w X (pc + 1) lv (.long x :: st) σ) : Z → bk_At Y w X pc lv st σ := by
  obtain ⟨⟨p, l, e, R, s, m, args, below, meth, c⟩, nL, cells, slots, Q, A⟩ := X
  obtain ⟨hx, hb, hml, hown, hts, hK, hN, hD, hA, rfl, hfr, hlo, hce, hsl⟩ := hX
  exact fun z H locs ls hP hS hl => lv_lload_n hx hb d rfl (lv_at hl j h) (k z H locs ls hP hS hl)
theorem bk_lload (hX : bk_Ok Y w X cc own n fr lo) (j : Nat) {i : Nat} {x : Int64} (d : decode cc pc = .ok (.lload i, 2)) (h : lv[j]? = some (i, .long x)) (k : Z → bk_At Y w X (pc + 2) lv (.long x :: st) σ) : Z → bk_At Y w X pc lv st σ := by
  obtain ⟨⟨p, l, e, R, s, m, args, below, meth, c⟩, nL, cells, slots, Q, A⟩ := X
  obtain ⟨hx, hb, hml, hown, hts, hK, hN, hD, hA, rfl, hfr, hlo, hce, hsl⟩ := hX
  exact fun z H locs ls hP hS hl => lv_lload hx hb d (lv_at hl j h) (k z H locs ls hP hS hl)
theorem bk_aload_n (hX : bk_Ok Y w X cc own n fr lo) (j : Nat) {i : Fin 4} {x : Nat} (d : decode cc pc = .ok (.aload_n i, 1)) (h : lv[j]? = some ((i : Nat), .ref x)) (k : Z → bk_At Y w X (pc + 1) lv (.ref x :: st) σ) : Z → bk_At Y w X pc lv st σ := by
  obtain ⟨⟨p, l, e, R, s, m, args, below, meth, c⟩, nL, cells, slots, Q, A⟩ := X
  obtain ⟨hx, hb, hml, hown, hts, hK, hN, hD, hA, rfl, hfr, hlo, hce, hsl⟩ := hX
  exact fun z H locs ls hP hS hl => lv_aload_n hx hb d rfl (lv_at hl j h) (k z H locs ls hP hS hl)
theorem bk_aload (hX : bk_Ok Y w X cc own n fr lo) (j : Nat) {i : Nat} {x : Nat} (d : decode cc pc = .ok (.aload i, 2)) (h : lv[j]? = some (i, .ref x)) (k : Z → bk_At Y w X (pc + 2) lv (.ref x :: st) σ) : Z → bk_At Y w X pc lv st σ := by
  obtain ⟨⟨p, l, e, R, s, m, args, below, meth, c⟩, nL, cells, slots, Q, A⟩ := X
  obtain ⟨hx, hb, hml, hown, hts, hK, hN, hD, hA, rfl, hfr, hlo, hce, hsl⟩ := hX
  exact fun z H locs ls hP hS hl => lv_aload hx hb d (lv_at hl j h) (k z H locs ls hP hS hl)
theorem bk_istore_n (hX : bk_Ok Y w X cc own n fr lo) (lv' : Int32 → List (Nat × Value)) {Z : Int32 → Prop} {i : Fin 4} {x : Int32} (d : decode cc pc = .ok (.istore_n i, 1)) (hn : (i : Nat) < n) (h : ∀ v, ((i : Nat), Value.int v) :: lv.filter (fun q => !(q.1 == (i : Nat)) && !(q.1 + 1 == (i : Nat) && q.2.category == 2)) = lv' v) (k : ∀ v, Z v → bk_At Y w X (pc + 1) (lv' v) st σ) : bk_lt x Z → bk_At Y w X pc lv (.int x :: st) σ := by
  obtain ⟨⟨p, l, e, R, s, m, args, below, meth, c⟩, nL, cells, slots, Q, A⟩ := X
  obtain ⟨hx, hb, hml, hown, hts, hK, hN, hD, hA, rfl, hfr, hlo, hce, hsl⟩ := hX
  exact fun z H locs ls hP hS hl => lv_istore_n hx hb d rfl hl hn (h x) (fun ls hl => k x z H locs ls hP hS hl)
theorem bk_istore (hX : bk_Ok Y w X cc own n fr lo) (lv' : Int32 → List (Nat × Value)) {Z : Int32 → Prop} {i : Nat} {x : Int32} (d : decode cc pc = .ok (.istore i, 2)) (hn : (i : Nat) < n) (h : ∀ v, ((i : Nat), Value.int v) :: lv.filter (fun q => !(q.1 == (i : Nat)) && !(q.1 + 1 == (i : Nat) && q.2.category == 2)) = lv' v) (k : ∀ v, Z v → bk_At Y w X (pc + 2) (lv' v) st σ) : bk_lt x Z → bk_At Y w X pc lv (.int x :: st) σ := by
  obtain ⟨⟨p, l, e, R, s, m, args, below, meth, c⟩, nL, cells, slots, Q, A⟩ := X
  obtain ⟨hx, hb, hml, hown, hts, hK, hN, hD, hA, rfl, hfr, hlo, hce, hsl⟩ := hX
  exact fun z H locs ls hP hS hl => lv_istore hx hb d hl hn (h x) (fun ls hl => k x z H locs ls hP hS hl)
theorem bk_lstore_n (hX : bk_Ok Y w X cc own n fr lo) (lv' : Int64 → List (Nat × Value)) {Z : Int64 → Prop} {i : Fin 4} {x : Int64} (d : decode cc pc = .ok (.lstore_n i, 1)) (hn : (i : Nat) + 1 < n) (h : ∀ v, ((i : Nat), Value.long v) :: lv.filter (fun q => !(q.1 == (i : Nat)) && (!(q.1 == (i : Nat) + 1) && !(q.1 + 1 == (i : Nat) && q.2.category == 2))) = lv' v) (k : ∀ v, Z v → bk_At Y w X (pc + 1) (lv' v) st σ) : bk_lt x Z → bk_At Y w X pc lv (.long x :: st) σ := by
  obtain ⟨⟨p, l, e, R, s, m, args, below, meth, c⟩, nL, cells, slots, Q, A⟩ := X
  obtain ⟨hx, hb, hml, hown, hts, hK, hN, hD, hA, rfl, hfr, hlo, hce, hsl⟩ := hX
  exact fun z H locs ls hP hS hl => lv_lstore_n hx hb d rfl hl hn (h x) (fun ls hl => k x z H locs ls hP hS hl)
theorem bk_lstore (hX : bk_Ok Y w X cc own n fr lo) (lv' : Int64 → List (Nat × Value)) {Z : Int64 → Prop} {i : Nat} {x : Int64} (d : decode cc pc = .ok (.lstore i, 2)) (hn : (i : Nat) + 1 < n) (h : ∀ v, ((i : Nat), Value.long v) :: lv.filter (fun q => !(q.1 == (i : Nat)) && (!(q.1 == (i : Nat) + 1) && !(q.1 + 1 == (i : Nat) && q.2.category == 2))) = lv' v) (k : ∀ v, Z v → bk_At Y w X (pc + 2) (lv' v) st σ) : bk_lt x Z → bk_At Y w X pc lv (.long x :: st) σ := by
  obtain ⟨⟨p, l, e, R, s, m, args, below, meth, c⟩, nL, cells, slots, Q, A⟩ := X
  obtain ⟨hx, hb, hml, hown, hts, hK, hN, hD, hA, rfl, hfr, hlo, hce, hsl⟩ := hX
  exact fun z H locs ls hP hS hl => lv_lstore hx hb d hl hn (h x) (fun ls hl => k x z H locs ls hP hS hl)
theorem bk_astore_n (hX : bk_Ok Y w X cc own n fr lo) (lv' : List (Nat × Value)) {i : Fin 4} {x : Nat} (d : decode cc pc = .ok (.astore_n i, 1)) (hn : (i : Nat) < n) (h : ((i : Nat), Value.ref x) :: lv.filter (fun q => !(q.1 == (i : Nat)) && !(q.1 + 1 == (i : Nat) && q.2.category == 2)) = lv') (k : Z → bk_At Y w X (pc + 1) lv' st σ) : Z → bk_At Y w X pc lv (.ref x :: st) σ := by
  obtain ⟨⟨p, l, e, R, s, m, args, below, meth, c⟩, nL, cells, slots, Q, A⟩ := X
  obtain ⟨hx, hb, hml, hown, hts, hK, hN, hD, hA, rfl, hfr, hlo, hce, hsl⟩ := hX
  exact fun z H locs ls hP hS hl => lv_astore_n hx hb d rfl hl hn h (fun ls hl => k z H locs ls hP hS hl)
theorem bk_astore (hX : bk_Ok Y w X cc own n fr lo) (lv' : List (Nat × Value)) {i : Nat} {x : Nat} (d : decode cc pc = .ok (.astore i, 2)) (hn : (i : Nat) < n) (h : ((i : Nat), Value.ref x) :: lv.filter (fun q => !(q.1 == (i : Nat)) && !(q.1 + 1 == (i : Nat) && q.2.category == 2)) = lv') (k : Z → bk_At Y w X (pc + 2) lv' st σ) : Z → bk_At Y w X pc lv (.ref x :: st) σ := by
  obtain ⟨⟨p, l, e, R, s, m, args, below, meth, c⟩, nL, cells, slots, Q, A⟩ := X
  obtain ⟨hx, hb, hml, hown, hts, hK, hN, hD, hA, rfl, hfr, hlo, hce, hsl⟩ := hX
  exact fun z H locs ls hP hS hl => lv_astore hx hb d hl hn h (fun ls hl => k z H locs ls hP hS hl)
theorem bk_iinc (hX : bk_Ok Y w X cc own n fr lo) (j : Nat) (lv' : Int32 → List (Nat × Value)) {Z : Int32 → Prop} {i : Nat} {a : Int} {x v0 : Int32} (d : decode cc pc = .ok (.iinc i a, 3)) (hj : lv[j]? = some (i, .int x)) (hv : Int32.ofInt a = v0) (hn : i < n) (h : ∀ v, (i, Value.int v) :: lv.filter (fun q => !(q.1 == i) && !(q.1 + 1 == i && q.2.category == 2)) = lv' v) (k : ∀ v, Z v → bk_At Y w X (pc + 3) (lv' v) st σ) : bk_lt (x + v0) Z → bk_At Y w X pc lv st σ := by
  obtain ⟨⟨p, l, e, R, s, m, args, below, meth, c⟩, nL, cells, slots, Q, A⟩ := X
  obtain ⟨hx, hb, hml, hown, hts, hK, hN, hD, hA, rfl, hfr, hlo, hce, hsl⟩ := hX
  exact fun z H locs ls hP hS hl => lv_iinc (v := x + v0) hx hb d hl hj (by rw [hv]) hn (h _) (fun ls hl => k _ z H locs ls hP hS hl)
theorem bk_if_eq (hX : bk_Ok Y w X cc own n fr lo) {Z1 Z2 : Prop} {x : Int32} {off : Int} (tgt : Nat) (d : decode cc pc = .ok (.ifCond .eq off, 3)) (ht : (pc : Int) + off = (tgt : Int)) (k1 : Z1 → bk_At Y w X tgt lv st σ) (k2 : Z2 → bk_At Y w X (pc + 3) lv st σ) : (x = 0 → Z1) ∧ (¬ x = 0 → Z2) → bk_At Y w X pc lv (.int x :: st) σ := by
  obtain ⟨⟨p, l, e, R, s, m, args, below, meth, c⟩, nL, cells, slots, Q, A⟩ := X
  obtain ⟨hx, hb, hml, hown, hts, hK, hN, hD, hA, rfl, hfr, hlo, hce, hsl⟩ := hX
  exact fun z H locs ls hP hS hl => lv_if_eq hx hb d ht (fun h => k1 (z.1 h) H locs ls hP hS hl) (fun h => k2 (z.2 h) H locs ls hP hS hl)
theorem bk_if_ne (hX : bk_Ok Y w X cc own n fr lo) {Z1 Z2 : Prop} {x : Int32} {off : Int} (tgt : Nat) (d : decode cc pc = .ok (.ifCond .ne off, 3)) (ht : (pc : Int) + off = (tgt : Int)) (k1 : Z1 → bk_At Y w X tgt lv st σ) (k2 : Z2 → bk_At Y w X (pc + 3) lv st σ) : (¬ x = 0 → Z1) ∧ (x = 0 → Z2) → bk_At Y w X pc lv (.int x :: st) σ := by
  obtain ⟨⟨p, l, e, R, s, m, args, below, meth, c⟩, nL, cells, slots, Q, A⟩ := X
  obtain ⟨hx, hb, hml, hown, hts, hK, hN, hD, hA, rfl, hfr, hlo, hce, hsl⟩ := hX
  exact fun z H locs ls hP hS hl => lv_if_ne hx hb d ht (fun h => k1 (z.1 h) H locs ls hP hS hl) (fun h => k2 (z.2 h) H locs ls hP hS hl)
theorem bk_if_lt (hX : bk_Ok Y w X cc own n fr lo) {Z1 Z2 : Prop} {x : Int32} {off : Int} (tgt : Nat) (d : decode cc pc = .ok (.ifCond .lt off, 3)) (ht : (pc : Int) + off = (tgt : Int)) (k1 : Z1 → bk_At Y w X tgt lv st σ) (k2 : Z2 → bk_At Y w X (pc + 3) lv st σ) : (x < 0 → Z1) ∧ (¬ x < 0 → Z2) → bk_At Y w X pc lv (.int x :: st) σ := by
  obtain ⟨⟨p, l, e, R, s, m, args, below, meth, c⟩, nL, cells, slots, Q, A⟩ := X
  obtain ⟨hx, hb, hml, hown, hts, hK, hN, hD, hA, rfl, hfr, hlo, hce, hsl⟩ := hX
  exact fun z H locs ls hP hS hl => lv_if_lt hx hb d ht (fun h => k1 (z.1 h) H locs ls hP hS hl) (fun h => k2 (z.2 h) H locs ls hP hS hl)
theorem bk_if_ge (hX : bk_Ok Y w X cc own n fr lo) {Z1 Z2 : Prop} {x : Int32} {off : Int} (tgt : Nat) (d : decode cc pc = .ok (.ifCond .ge off, 3)) (ht : (pc : Int) + off = (tgt : Int)) (k1 : Z1 → bk_At Y w X tgt lv st σ) (k2 : Z2 → bk_At Y w X (pc + 3) lv st σ) : (0 ≤ x → Z1) ∧ (¬ 0 ≤ x → Z2) → bk_At Y w X pc lv (.int x :: st) σ := by
  obtain ⟨⟨p, l, e, R, s, m, args, below, meth, c⟩, nL, cells, slots, Q, A⟩ := X
  obtain ⟨hx, hb, hml, hown, hts, hK, hN, hD, hA, rfl, hfr, hlo, hce, hsl⟩ := hX
  exact fun z H locs ls hP hS hl => lv_if_ge hx hb d ht (fun h => k1 (z.1 h) H locs ls hP hS hl) (fun h => k2 (z.2 h) H locs ls hP hS hl)
theorem bk_if_gt (hX : bk_Ok Y w X cc own n fr lo) {Z1 Z2 : Prop} {x : Int32} {off : Int} (tgt : Nat) (d : decode cc pc = .ok (.ifCond .gt off, 3)) (ht : (pc : Int) + off = (tgt : Int)) (k1 : Z1 → bk_At Y w X tgt lv st σ) (k2 : Z2 → bk_At Y w X (pc + 3) lv st σ) : (0 < x → Z1) ∧ (¬ 0 < x → Z2) → bk_At Y w X pc lv (.int x :: st) σ := by
  obtain ⟨⟨p, l, e, R, s, m, args, below, meth, c⟩, nL, cells, slots, Q, A⟩ := X
  obtain ⟨hx, hb, hml, hown, hts, hK, hN, hD, hA, rfl, hfr, hlo, hce, hsl⟩ := hX
  exact fun z H locs ls hP hS hl => lv_if_gt hx hb d ht (fun h => k1 (z.1 h) H locs ls hP hS hl) (fun h => k2 (z.2 h) H locs ls hP hS hl)
theorem bk_if_le (hX : bk_Ok Y w X cc own n fr lo) {Z1 Z2 : Prop} {x : Int32} {off : Int} (tgt : Nat) (d : decode cc pc = .ok (.ifCond .le off, 3)) (ht : (pc : Int) + off = (tgt : Int)) (k1 : Z1 → bk_At Y w X tgt lv st σ) (k2 : Z2 → bk_At Y w X (pc + 3) lv st σ) : (x ≤ 0 → Z1) ∧ (¬ x ≤ 0 → Z2) → bk_At Y w X pc lv (.int x :: st) σ := by
  obtain ⟨⟨p, l, e, R, s, m, args, below, meth, c⟩, nL, cells, slots, Q, A⟩ := X
  obtain ⟨hx, hb, hml, hown, hts, hK, hN, hD, hA, rfl, hfr, hlo, hce, hsl⟩ := hX
  exact fun z H locs ls hP hS hl => lv_if_le hx hb d ht (fun h => k1 (z.1 h) H locs ls hP hS hl) (fun h => k2 (z.2 h) H locs ls hP hS hl)
theorem bk_icmp_eq (hX : bk_Ok Y w X cc own n fr lo) {Z1 Z2 : Prop} {x y : Int32} {off : Int} (tgt : Nat) (d : decode cc pc = .ok (.if_icmp .eq off, 3)) (ht : (pc : Int) + off = (tgt : Int)) (k1 : Z1 → bk_At Y w X tgt lv st σ) (k2 : Z2 → bk_At Y w X (pc + 3) lv st σ) : (x = y → Z1) ∧ (¬ x = y → Z2) → bk_At Y w X pc lv (.int y :: .int x :: st) σ := by
  obtain ⟨⟨p, l, e, R, s, m, args, below, meth, c⟩, nL, cells, slots, Q, A⟩ := X
  obtain ⟨hx, hb, hml, hown, hts, hK, hN, hD, hA, rfl, hfr, hlo, hce, hsl⟩ := hX
  exact fun z H locs ls hP hS hl => lv_icmp_eq hx hb d ht (fun h => k1 (z.1 h) H locs ls hP hS hl) (fun h => k2 (z.2 h) H locs ls hP hS hl)
theorem bk_icmp_ne (hX : bk_Ok Y w X cc own n fr lo) {Z1 Z2 : Prop} {x y : Int32} {off : Int} (tgt : Nat) (d : decode cc pc = .ok (.if_icmp .ne off, 3)) (ht : (pc : Int) + off = (tgt : Int)) (k1 : Z1 → bk_At Y w X tgt lv st σ) (k2 : Z2 → bk_At Y w X (pc + 3) lv st σ) : (¬ x = y → Z1) ∧ (x = y → Z2) → bk_At Y w X pc lv (.int y :: .int x :: st) σ := by
  obtain ⟨⟨p, l, e, R, s, m, args, below, meth, c⟩, nL, cells, slots, Q, A⟩ := X
  obtain ⟨hx, hb, hml, hown, hts, hK, hN, hD, hA, rfl, hfr, hlo, hce, hsl⟩ := hX
  exact fun z H locs ls hP hS hl => lv_icmp_ne hx hb d ht (fun h => k1 (z.1 h) H locs ls hP hS hl) (fun h => k2 (z.2 h) H locs ls hP hS hl)
theorem bk_icmp_lt (hX : bk_Ok Y w X cc own n fr lo) {Z1 Z2 : Prop} {x y : Int32} {off : Int} (tgt : Nat) (d : decode cc pc = .ok (.if_icmp .lt off, 3)) (ht : (pc : Int) + off = (tgt : Int)) (k1 : Z1 → bk_At Y w X tgt lv st σ) (k2 : Z2 → bk_At Y w X (pc + 3) lv st σ) : (x < y → Z1) ∧ (¬ x < y → Z2) → bk_At Y w X pc lv (.int y :: .int x :: st) σ := by
  obtain ⟨⟨p, l, e, R, s, m, args, below, meth, c⟩, nL, cells, slots, Q, A⟩ := X
  obtain ⟨hx, hb, hml, hown, hts, hK, hN, hD, hA, rfl, hfr, hlo, hce, hsl⟩ := hX
  exact fun z H locs ls hP hS hl => lv_icmp_lt hx hb d ht (fun h => k1 (z.1 h) H locs ls hP hS hl) (fun h => k2 (z.2 h) H locs ls hP hS hl)
theorem bk_icmp_ge (hX : bk_Ok Y w X cc own n fr lo) {Z1 Z2 : Prop} {x y : Int32} {off : Int} (tgt : Nat) (d : decode cc pc = .ok (.if_icmp .ge off, 3)) (ht : (pc : Int) + off = (tgt : Int)) (k1 : Z1 → bk_At Y w X tgt lv st σ) (k2 : Z2 → bk_At Y w X (pc + 3) lv st σ) : (y ≤ x → Z1) ∧ (¬ y ≤ x → Z2) → bk_At Y w X pc lv (.int y :: .int x :: st) σ := by
  obtain ⟨⟨p, l, e, R, s, m, args, below, meth, c⟩, nL, cells, slots, Q, A⟩ := X
  obtain ⟨hx, hb, hml, hown, hts, hK, hN, hD, hA, rfl, hfr, hlo, hce, hsl⟩ := hX
  exact fun z H locs ls hP hS hl => lv_icmp_ge hx hb d ht (fun h => k1 (z.1 h) H locs ls hP hS hl) (fun h => k2 (z.2 h) H locs ls hP hS hl)
theorem bk_icmp_gt (hX : bk_Ok Y w X cc own n fr lo) {Z1 Z2 : Prop} {x y : Int32} {off : Int} (tgt : Nat) (d : decode cc pc = .ok (.if_icmp .gt off, 3)) (ht : (pc : Int) + off = (tgt : Int)) (k1 : Z1 → bk_At Y w X tgt lv st σ) (k2 : Z2 → bk_At Y w X (pc + 3) lv st σ) : (y < x → Z1) ∧ (¬ y < x → Z2) → bk_At Y w X pc lv (.int y :: .int x :: st) σ := by
  obtain ⟨⟨p, l, e, R, s, m, args, below, meth, c⟩, nL, cells, slots, Q, A⟩ := X
  obtain ⟨hx, hb, hml, hown, hts, hK, hN, hD, hA, rfl, hfr, hlo, hce, hsl⟩ := hX
  exact fun z H locs ls hP hS hl => lv_icmp_gt hx hb d ht (fun h => k1 (z.1 h) H locs ls hP hS hl) (fun h => k2 (z.2 h) H locs ls hP hS hl)
theorem bk_icmp_le (hX : bk_Ok Y w X cc own n fr lo) {Z1 Z2 : Prop} {x y : Int32} {off : Int} (tgt : Nat) (d : decode cc pc = .ok (.if_icmp .le off, 3)) (ht : (pc : Int) + off = (tgt : Int)) (k1 : Z1 → bk_At Y w X tgt lv st σ) (k2 : Z2 → bk_At Y w X (pc + 3) lv st σ) : (x ≤ y → Z1) ∧ (¬ x ≤ y → Z2) → bk_At Y w X pc lv (.int y :: .int x :: st) σ := by
  obtain ⟨⟨p, l, e, R, s, m, args, below, meth, c⟩, nL, cells, slots, Q, A⟩ := X
  obtain ⟨hx, hb, hml, hown, hts, hK, hN, hD, hA, rfl, hfr, hlo, hce, hsl⟩ := hX
  exact fun z H locs ls hP hS hl => lv_icmp_le hx hb d ht (fun h => k1 (z.1 h) H locs ls hP hS hl) (fun h => k2 (z.2 h) H locs ls hP hS hl)
theorem bk_goto (hX : bk_Ok Y w X cc own n fr lo) {off : Int} (tgt : Nat) (d : decode cc pc = .ok (.goto off, 3)) (ht : (pc : Int) + off = (tgt : Int)) (k : Z → bk_At Y w X tgt lv st σ) : Z → bk_At Y w X pc lv st σ := by
  obtain ⟨⟨p, l, e, R, s, m, args, below, meth, c⟩, nL, cells, slots, Q, A⟩ := X
  obtain ⟨hx, hb, hml, hown, hts, hK, hN, hD, hA, rfl, hfr, hlo, hce, hsl⟩ := hX
  exact fun z H locs ls hP hS hl => lv_goto hx hb d ht (k z H locs ls hP hS hl)
/-- a field of class ci, place j, as 'own' links it at its entry i -/
def bk_Fl (own : String) (i ci j : Nat) : Prop := ∃ (C : String) (T : u_T) (N : Nat), vwCl[ci]? = some (C, T, N) ∧ (∀ w ∈ u_ws C T N, w ∈ lw_good) ∧ j < N ∧ Cond.fieldLink own i (T j).1 (T j).2.1 (T j).2.2.1 ∈ lw_good
def bk_Fp (own : String) (i ci j : Nat) (ty : FieldType) : Prop := ∃ (C : String) (T : u_T) (N : Nat) (t0 : Nat → FieldType), vwCl[ci]? = some (C, T, N) ∧ (∀ w ∈ u_ws C T N, w ∈ lw_good) ∧ j < N ∧ Cond.fieldLink own i (T j).1 (T j).2.1 (T j).2.2.1 ∈ lw_good ∧ (∀ k, k < N → parseFieldDescriptor (T k).2.2.1 = some (t0 k)) ∧ (∀ a, a < N → ∀ b, b < N → a ≠ b → (T a).2.1 ≠ (T b).2.1) ∧ (T j).2.2.2 = false ∧ parseFieldDescriptor (T j).2.2.1 = some ty
theorem bk_geti (hX : bk_Ok Y w X cc own n fr lo) {q i ci j : Nat} {fs : List (Option Nat)} (ho : bk_is Y q (.inr (.inl (ci, fs)))) (hf : fs[j]? = some (none)) (hF : bk_Fl own i ci j) (d : decode cc pc = .ok (.getfield i, 3)) (k : Z → bk_At Y w X (pc + 3) lv (.int (σ q j) :: st) σ) : Z → bk_At Y w X pc lv (.ref (bk_r w q) :: st) σ := by
  obtain ⟨⟨p, l, e, R, s, m, args, below, meth, c⟩, nL, cells, slots, Q, A⟩ := X
  obtain ⟨hx, hb, hml, hown, hts, hK, hN, hD, hA, rfl, hfr, hlo, hce, hsl⟩ := hX
  have hcell : (bk_wl Y w σ)[q]? = some (bk_r w q, bk_cell Y w σ q) := bk_wl_get Y w σ ho.2
  rw [bk_cell, ho.1] at hcell
  obtain ⟨C, T, N, h1, h2, h3, h4⟩ := hF
  exact fun z H locs ls hP hS hl => va_get (D := w.1) (ci := ci) hx hb hts h2 hown hK hP q hcell h1 j h3 (hts _ h4) (fun _ h9 => h9) (by rw [bk_fs_get, hf]; simp) d (k z H locs ls hP hS hl)
theorem bk_getr (hX : bk_Ok Y w X cc own n fr lo) {q i ci j : Nat} {r : Nat} {fs : List (Option Nat)} (ho : bk_is Y q (.inr (.inl (ci, fs)))) (hf : fs[j]? = some (some r)) (hF : bk_Fl own i ci j) (d : decode cc pc = .ok (.getfield i, 3)) (k : Z → bk_At Y w X (pc + 3) lv (.ref (bk_r w r) :: st) σ) : Z → bk_At Y w X pc lv (.ref (bk_r w q) :: st) σ := by
  obtain ⟨⟨p, l, e, R, s, m, args, below, meth, c⟩, nL, cells, slots, Q, A⟩ := X
  obtain ⟨hx, hb, hml, hown, hts, hK, hN, hD, hA, rfl, hfr, hlo, hce, hsl⟩ := hX
  have hcell : (bk_wl Y w σ)[q]? = some (bk_r w q, bk_cell Y w σ q) := bk_wl_get Y w σ ho.2
  rw [bk_cell, ho.1] at hcell
  obtain ⟨C, T, N, h1, h2, h3, h4⟩ := hF
  exact fun z H locs ls hP hS hl => va_get (D := w.1) (ci := ci) hx hb hts h2 hown hK hP q hcell h1 j h3 (hts _ h4) (fun _ h9 => h9) (by rw [bk_fs_get, hf]; simp) d (k z H locs ls hP hS hl)
theorem bk_puti (hX : bk_Ok Y w X cc own n fr lo) {Z : bk_S → Prop} {q i ci j : Nat} {ty : FieldType} {x : Int32} {fs : List (Option Nat)} (ho : bk_is Y q (.inr (.inl (ci, fs)))) (hf : fs[j]? = some none) (hF : bk_Fp own i ci j ty) (hn : narrow ty (.int x) = .int x) (hft : fits ty (.int x) = true) (d : decode cc pc = .ok (.putfield i, 3)) (k : ∀ σ', Z σ' → bk_At Y w X (pc + 3) lv st σ') : bk_lt (bk_u σ q j x) Z → bk_At Y w X pc lv (.int x :: .ref (bk_r w q) :: st) σ := by
  obtain ⟨⟨p, l, e, R, s, m, args, below, meth, c⟩, nL, cells, slots, Q, A⟩ := X
  obtain ⟨hx, hb, hml, hown, hts, hK, hN, hD, hA, rfl, hfr, hlo, hce, hsl⟩ := hX
  have hcell : (bk_wl Y w σ)[q]? = some (bk_r w q, bk_cell Y w σ q) := bk_wl_get Y w σ ho.2
  rw [bk_cell, ho.1] at hcell
  obtain ⟨C, T, N, t0, h1, h2, h3, h4, h5, h6, h7, h8⟩ := hF
  have hset : (bk_wl Y w σ).set q (bk_r w q, .inr (ci, (bk_fs w (σ q) 0 fs).set j (.int x))) = bk_wl Y w (bk_u σ q j x) := by
    refine bk_wl_set Y w σ _ ho.2 _ ?_
    rw [bk_cell, ho.1]
    simp only [bk_w_s, bk_fs_set w (σ q) x fs 0 j hf, Nat.zero_add]
  intro z H locs ls hP hS hl
  refine va_put (D := w.1) (ci := ci) (v := .int x) (ty := ty) hx hb hts h2 t0 h5 h6 hown hK hP (hD.va σ) hS q hcell h1 j h3 (hts _ h4) (fun _ h9 => h9) h7 h8 hn hft (by rw [bk_fs_len]; exact (List.getElem?_eq_some_iff.mp hf).1) d (fun H1 locs1 hP1 _ hS1 => ?_)
  rw [hset] at hP1
  exact k _ z H1 locs1 ls hP1 hS1 hl
theorem bk_putI (hX : bk_Ok Y w X cc own n fr lo) {Z : bk_S → Prop} {q i ci j : Nat} {x : Int32} {fs : List (Option Nat)} (ho : bk_is Y q (.inr (.inl (ci, fs)))) (hf : fs[j]? = some none) (hF : bk_Fp own i ci j .int) (d : decode cc pc = .ok (.putfield i, 3)) (k : ∀ σ', Z σ' → bk_At Y w X (pc + 3) lv st σ') : bk_lt (bk_u σ q j x) Z → bk_At Y w X pc lv (.int x :: .ref (bk_r w q) :: st) σ := bk_puti hX ho hf hF rfl rfl d k
theorem bk_putZ (hX : bk_Ok Y w X cc own n fr lo) {Z : bk_S → Prop} {q i ci j : Nat} {x : Int32} {fs : List (Option Nat)} (ho : bk_is Y q (.inr (.inl (ci, fs)))) (hf : fs[j]? = some none) (hF : bk_Fp own i ci j .boolean) (hn : narrow .boolean (.int x) = .int x) (hft : fits .boolean (.int x) = true) (d : decode cc pc = .ok (.putfield i, 3)) (k : ∀ σ', Z σ' → bk_At Y w X (pc + 3) lv st σ') : bk_lt (bk_u σ q j x) Z → bk_At Y w X pc lv (.int x :: .ref (bk_r w q) :: st) σ := bk_puti hX ho hf hF hn hft d k
theorem bk_iaload (hX : bk_Ok Y w X cc own n fr lo) {q N : Nat} {i : Int32} (ho : bk_is Y q (.inl (0, N))) (d : decode cc pc = .ok (.iaload, 1)) (k : Z → bk_At Y w X (pc + 1) lv (.int (σ q i.toNatClampNeg) :: st) σ) : vp_in i N ∧ Z → bk_At Y w X pc lv (.int i :: .ref (bk_r w q) :: st) σ := by
  obtain ⟨⟨p, l, e, R, s, m, args, below, meth, c⟩, nL, cells, slots, Q, A⟩ := X
  obtain ⟨hx, hb, hml, hown, hts, hK, hN, hD, hA, rfl, hfr, hlo, hce, hsl⟩ := hX
  have hcell : (bk_wl Y w σ)[q]? = some (bk_r w q, bk_cell Y w σ q) := bk_wl_get Y w σ ho.2
  rw [bk_cell, ho.1] at hcell
  exact fun z H locs ls hP hS hl => va_iald (D := w.1) hx hb hK hP q 0 hcell rfl z.1 d (k z.2 H locs ls hP hS hl)
theorem bk_baload (hX : bk_Ok Y w X cc own n fr lo) {q N : Nat} {i : Int32} (ho : bk_is Y q (.inl (1, N))) (d : decode cc pc = .ok (.baload, 1)) (k : Z → bk_At Y w X (pc + 1) lv (.int (σ q i.toNatClampNeg) :: st) σ) : vp_in i N ∧ Z → bk_At Y w X pc lv (.int i :: .ref (bk_r w q) :: st) σ := by
  obtain ⟨⟨p, l, e, R, s, m, args, below, meth, c⟩, nL, cells, slots, Q, A⟩ := X
  obtain ⟨hx, hb, hml, hown, hts, hK, hN, hD, hA, rfl, hfr, hlo, hce, hsl⟩ := hX
  have hcell : (bk_wl Y w σ)[q]? = some (bk_r w q, bk_cell Y w σ q) := bk_wl_get Y w σ ho.2
  rw [bk_cell, ho.1] at hcell
  exact fun z H locs ls hP hS hl => va_zald (D := w.1) hx hb hK hP q 1 hcell rfl z.1 d (k z.2 H locs ls hP hS hl)
theorem bk_iastore (hX : bk_Ok Y w X cc own n fr lo) {Z : bk_S → Prop} {q N : Nat} {i x : Int32} (ho : bk_is Y q (.inl (0, N))) (d : decode cc pc = .ok (.iastore, 1)) (k : ∀ σ', Z σ' → bk_At Y w X (pc + 1) lv st σ') : vp_in i N ∧ bk_lt (bk_u σ q i.toNatClampNeg (x)) Z → bk_At Y w X pc lv (.int x :: .int i :: .ref (bk_r w q) :: st) σ := by
  obtain ⟨⟨p, l, e, R, s, m, args, below, meth, c⟩, nL, cells, slots, Q, A⟩ := X
  obtain ⟨hx, hb, hml, hown, hts, hK, hN, hD, hA, rfl, hfr, hlo, hce, hsl⟩ := hX
  have hcell : (bk_wl Y w σ)[q]? = some (bk_r w q, bk_cell Y w σ q) := bk_wl_get Y w σ ho.2
  rw [bk_cell, ho.1] at hcell
  have hset : (bk_wl Y w σ).set q (bk_r w q, .inl (w.2.2 0, N, .inl (upd (σ q) i.toNatClampNeg (x)))) = bk_wl Y w (bk_u σ q i.toNatClampNeg (x)) := by
    refine bk_wl_set Y w σ _ ho.2 _ ?_
    rw [bk_cell, ho.1]
    simp only [bk_w_s]
  intro z H locs ls hP hS hl
  refine va_iast (D := w.1) hx hb hK hP (hD.va σ) hS q 0 hcell rfl z.1 d (fun H1 locs1 hP1 _ hS1 => ?_)
  rw [hset] at hP1
  exact k _ z.2 H1 locs1 ls hP1 hS1 hl
theorem bk_bastore (hX : bk_Ok Y w X cc own n fr lo) {Z : bk_S → Prop} {q N : Nat} {i x : Int32} (ho : bk_is Y q (.inl (1, N))) (d : decode cc pc = .ok (.bastore, 1)) (k : ∀ σ', Z σ' → bk_At Y w X (pc + 1) lv st σ') : vp_in i N ∧ bk_lt (bk_u σ q i.toNatClampNeg (vp_nar .boolean x)) Z → bk_At Y w X pc lv (.int x :: .int i :: .ref (bk_r w q) :: st) σ := by
  obtain ⟨⟨p, l, e, R, s, m, args, below, meth, c⟩, nL, cells, slots, Q, A⟩ := X
  obtain ⟨hx, hb, hml, hown, hts, hK, hN, hD, hA, rfl, hfr, hlo, hce, hsl⟩ := hX
  have hcell : (bk_wl Y w σ)[q]? = some (bk_r w q, bk_cell Y w σ q) := bk_wl_get Y w σ ho.2
  rw [bk_cell, ho.1] at hcell
  have hset : (bk_wl Y w σ).set q (bk_r w q, .inl (w.2.2 1, N, .inl (upd (σ q) i.toNatClampNeg (vp_nar .boolean x)))) = bk_wl Y w (bk_u σ q i.toNatClampNeg (vp_nar .boolean x)) := by
    refine bk_wl_set Y w σ _ ho.2 _ ?_
    rw [bk_cell, ho.1]
    simp only [bk_w_s]
  intro z H locs ls hP hS hl
  refine va_zast (D := w.1) hx hb hK hP (hD.va σ) hS q 1 hcell rfl z.1 d (fun H1 locs1 hP1 _ hS1 => ?_)
  rw [hset] at hP1
  exact k _ z.2 H1 locs1 ls hP1 hS1 hl
theorem bk_aaload (hX : bk_Ok Y w X cc own n fr lo) {q N : Nat} {f : Nat → Nat} {i : Int32} (ho : bk_is Y q (.inr (.inr (N, f)))) (d : decode cc pc = .ok (.aaload, 1)) (k : vp_in i N → Z → bk_At Y w X (pc + 1) lv (.ref (bk_r w (f i.toNatClampNeg)) :: st) σ) : vp_in i N ∧ Z → bk_At Y w X pc lv (.int i :: .ref (bk_r w q) :: st) σ := by
  obtain ⟨⟨p, l, e, R, s, m, args, below, meth, c⟩, nL, cells, slots, Q, A⟩ := X
  obtain ⟨hx, hb, hml, hown, hts, hK, hN, hD, hA, rfl, hfr, hlo, hce, hsl⟩ := hX
  have hcell : (bk_wl Y w σ)[q]? = some (bk_r w q, bk_cell Y w σ q) := bk_wl_get Y w σ ho.2
  rw [bk_cell, ho.1] at hcell
  exact fun z H locs ls hP hS hl => va_aldq (D := w.1) hx hb hK hP q 2 hcell rfl z.1 d (k z.1 z.2 H locs ls hP hS hl)
theorem bk_alen (hX : bk_Ok Y w X cc own n fr lo) {q t N : Nat} {v : Int32} (ho : bk_is Y q (.inl (t, N))) (ht : t < 2) (hv : Int32.ofNat N = v) (d : decode cc pc = .ok (.arraylength, 1)) (k : Z → bk_At Y w X (pc + 1) lv (.int v :: st) σ) : Z → bk_At Y w X pc lv (.ref (bk_r w q) :: st) σ := by
  obtain ⟨⟨p, l, e, R, s, m, args, below, meth, c⟩, nL, cells, slots, Q, A⟩ := X
  obtain ⟨hx, hb, hml, hown, hts, hK, hN, hD, hA, rfl, hfr, hlo, hce, hsl⟩ := hX
  have hcell : (bk_wl Y w σ)[q]? = some (bk_r w q, bk_cell Y w σ q) := bk_wl_get Y w σ ho.2
  rw [bk_cell, ho.1] at hcell
  intro z H locs ls hP hS hl
  match t, ht with
  | 0, _ => exact va_alen (D := w.1) hx hb hK hP q 0 hcell rfl hv d (k z H locs ls hP hS hl)
  | 1, _ => exact va_alen (D := w.1) hx hb hK hP q 1 hcell rfl hv d (k z H locs ls hP hS hl)
theorem bk_copy (hX : bk_Ok Y w X cc own n fr lo) {Z : bk_S → Prop} {q0 q1 N0 N1 i : Nat} {sp dp m0 : Int32} (h0 : bk_is Y q0 (.inl (0, N0))) (h1 : bk_is Y q1 (.inl (0, N1))) (hl1 : Cond.methodLink own i arraycopyName ∈ lw_good) (hl2 : Cond.native arraycopyName ∈ lw_good) (hl3 : Cond.static arraycopyName ∈ lw_good) (hl4 : Cond.initialized "java/lang/System" ∈ lw_good) (hr1 : 1 ≤ fr) (hr2 : (st.map fun v => v.category).sum + (nativeFrameWords "java/lang/System" "arraycopy" 5 + 11) ≤ lo) (d : decode cc pc = .ok (.invokestatic i, 3)) (k : ∀ σ', Z σ' → bk_At Y w X (pc + 3) lv st σ') : (¬ sp < 0 ∧ ¬ dp < 0 ∧ ¬ m0 < 0 ∧ sp.toNatClampNeg + m0.toNatClampNeg ≤ N0 ∧ dp.toNatClampNeg + m0.toNatClampNeg ≤ N1) ∧ bk_lt (bk_w σ q1 (va_cpy (σ q0) (σ q1) sp.toNatClampNeg dp.toNatClampNeg m0.toNatClampNeg)) Z → bk_At Y w X pc lv (.int m0 :: .int dp :: .ref (bk_r w q1) :: .int sp :: .ref (bk_r w q0) :: st) σ := by
  obtain ⟨⟨p, l, e, R, s, m, args, below, meth, c⟩, nL, cells, slots, Q, A⟩ := X
  obtain ⟨hx, hb, hml, hown, hts, hK, hN, hD, hA, rfl, hfr, hlo, hce, hsl⟩ := hX
  have hc0 : (bk_wl Y w σ)[q0]? = some (bk_r w q0, bk_cell Y w σ q0) := bk_wl_get Y w σ h0.2
  rw [bk_cell, h0.1] at hc0
  have hc1 : (bk_wl Y w σ)[q1]? = some (bk_r w q1, bk_cell Y w σ q1) := bk_wl_get Y w σ h1.2
  rw [bk_cell, h1.1] at hc1
  have hset : (bk_wl Y w σ).set q1 (bk_r w q1, .inl (w.2.2 0, N1, .inl (va_cpy (σ q0) (σ q1) sp.toNatClampNeg dp.toNatClampNeg m0.toNatClampNeg))) = bk_wl Y w (bk_w σ q1 (va_cpy (σ q0) (σ q1) sp.toNatClampNeg dp.toNatClampNeg m0.toNatClampNeg)) := by
    refine bk_wl_set Y w σ _ h1.2 _ ?_
    rw [bk_cell, h1.1]
    simp only [bk_w_s]
  intro z H locs ls hP hS hl
  obtain ⟨⟨a1, a2, a3, a4, a5⟩, z⟩ := z
  refine va_copyi (D := w.1) hx hb (by rw [hml]; exact hl.1.symm) hown (hts _ hl1) (hts _ hl2) (hts _ hl3) (hts _ hl4) hK hP (hD.va σ) hS q0 q1 0 0 hc0 hc1 rfl rfl rfl a1 a2 a3 a4 a5 (fun _ _ => rfl) (by omega) (by omega) d (fun H1 locs1 hP1 _ hS1 => ?_)
  rw [hset] at hP1
  exact k _ z H1 locs1 ls hP1 hS1 hl
theorem bk_min (hX : bk_Ok Y w X cc own n fr lo) {i : Nat} {x y : Int32} (hl1 : Cond.methodLink own i Lib.Math.min.name ∈ lw_good) (hl2 : Cond.static Lib.Math.min.name ∈ lw_good) (hl3 : Cond.initialized "java/lang/Math" ∈ lw_good) (hl4 : Cond.code Lib.Math.min.name Lib.Math.min.code 2 (some .int) ∈ lw_good) (hr1 : 1 ≤ fr) (hr2 : (st.map fun v => v.category).sum + 13 ≤ lo) (d : decode cc pc = .ok (.invokestatic i, 3)) (k : Z → bk_At Y w X (pc + 3) lv (.int (if y < x then y else x) :: st) σ) : Z → bk_At Y w X pc lv (.int y :: .int x :: st) σ := by
  obtain ⟨⟨p, l, e, R, s, m, args, below, meth, c⟩, nL, cells, slots, Q, A⟩ := X
  obtain ⟨hx, hb, hml, hown, hts, hK, hN, hD, hA, rfl, hfr, hlo, hce, hsl⟩ := hX
  exact fun z H locs ls hP hS hl => va_mmin hx hb (by rw [hml]; exact hl.1.symm) hown (hts _ hl1) (hts _ hl2) (hts _ hl3) (hts _ hl4) (by omega) (by omega) hce hsl d (k z H locs ls hP hS hl)
theorem bk_max (hX : bk_Ok Y w X cc own n fr lo) {i : Nat} {x y : Int32} (hl1 : Cond.methodLink own i Lib.Math.max.name ∈ lw_good) (hl2 : Cond.static Lib.Math.max.name ∈ lw_good) (hl3 : Cond.initialized "java/lang/Math" ∈ lw_good) (hl4 : Cond.code Lib.Math.max.name Lib.Math.max.code 2 (some .int) ∈ lw_good) (hr1 : 1 ≤ fr) (hr2 : (st.map fun v => v.category).sum + 13 ≤ lo) (d : decode cc pc = .ok (.invokestatic i, 3)) (k : Z → bk_At Y w X (pc + 3) lv (.int (if x < y then y else x) :: st) σ) : Z → bk_At Y w X pc lv (.int y :: .int x :: st) σ := by
  obtain ⟨⟨p, l, e, R, s, m, args, below, meth, c⟩, nL, cells, slots, Q, A⟩ := X
  obtain ⟨hx, hb, hml, hown, hts, hK, hN, hD, hA, rfl, hfr, hlo, hce, hsl⟩ := hX
  exact fun z H locs ls hP hS hl => va_mmax hx hb (by rw [hml]; exact hl.1.symm) hown (hts _ hl1) (hts _ hl2) (hts _ hl3) (hts _ hl4) (by omega) (by omega) hce hsl d (k z H locs ls hP hS hl)
/-- fewer locals, in another order -/
theorem bk_pick (ps : List Nat) {lv' : List (Nat × Value)} (h : lv_pick lv ps = lv') (k : Z → bk_At Y w X pc lv' st σ) : Z → bk_At Y w X pc lv st σ := by
  obtain ⟨⟨p, l, e, R, s, m, args, below, meth, c⟩, nL, cells, slots, Q, A⟩ := X
  exact fun z H locs ls hP hS hl => k z H locs ls hP hS (lv_sub hl ps h)
end Rows
theorem bk_r_jn {α : Type} {rest : α → Prop} {F : (α → Prop) → Prop} {G : Prop} (J : α → Prop) (hr : ∀ a, rest a → J a) (hF : ∀ K : α → Prop, (∀ a, K a → J a) → F K → G) : bk_jn rest F → G := fun h => hF rest hr h
theorem bk_r_loop {α : Type} {F : (α → Prop) → α → Prop} (J : α → Prop) (a : α) (hF : ∀ K : α → Prop, (∀ a, K a → J a) → ∀ a, F K a → J a) : bk_loop F a → J a := by
  rintro ⟨n, h⟩
  induction n generalizing a with
  | zero => exact h.elim
  | succ n ih => exact hF _ (fun a h => ih a h) a h
end
section
/-! Contracts of methods over the world, rows of calls, a method's entry. -/
def bk_ws (y : MethodName) (cc : ByteArray) (mL : Nat) (ret : Option FieldType) : List Cond := .code y cc mL ret :: lw_good
def bk_Pc (Y : bk_Y) (w : bk_W) (av : List Value) (σ : bk_S) (sz : Nat) : Array Value → State → Prop := va_Pc av (fun U => U.heap.size = sz ∧ va_P w.1 vwCl (bk_wl Y w σ) U.heap ∧ va_K w.1 vwCl (bk_tys w) U ∧ bk_N U ∧ bk_D Y w (fun _ => True))
def bk_B (Y : bk_Y) (w : bk_W) (σ : bk_S) (t : State) : Prop := va_P w.1 vwCl (bk_wl Y w σ) t.heap ∧ va_K w.1 vwCl (bk_tys w) t
def bk_Mi (Y : bk_Y) (w : bk_W) (y : MethodName) (cc : ByteArray) (mL : Nat) (ty : FieldType) (fr lo : Nat) (av : List Value) (σ : bk_S) (post : Int32 → bk_S → Prop) : Prop := ∀ (l : Launch) (sz : Nat), Met l y (bk_ws y cc mL (some ty)) { frames := fr, cells := 0, slots := 0, locals := lo } (bk_Pc Y w av σ sz) (va_Qi post (bk_B Y w) (va_A (bk_wl Y w σ) sz)) 0 0 (va_A (bk_wl Y w σ) sz)
def bk_Ml (Y : bk_Y) (w : bk_W) (y : MethodName) (cc : ByteArray) (mL : Nat) (fr lo : Nat) (av : List Value) (σ : bk_S) (post : Int64 → bk_S → Prop) : Prop := ∀ (l : Launch) (sz : Nat), Met l y (bk_ws y cc mL (some .long)) { frames := fr, cells := 0, slots := 0, locals := lo } (bk_Pc Y w av σ sz) (va_Ql post (bk_B Y w) (va_A (bk_wl Y w σ) sz)) 0 0 (va_A (bk_wl Y w σ) sz)
def bk_Mv (Y : bk_Y) (w : bk_W) (y : MethodName) (cc : ByteArray) (mL : Nat) (fr lo : Nat) (av : List Value) (σ : bk_S) (post : bk_S → Prop) : Prop := ∀ (l : Launch) (sz : Nat), Met l y (bk_ws y cc mL none) { frames := fr, cells := 0, slots := 0, locals := lo } (bk_Pc Y w av σ sz) (va_Qv post (bk_B Y w) (va_A (bk_wl Y w σ) sz)) 0 0 (va_A (bk_wl Y w σ) sz)
/-- a reference is answered: the cell's number comes with the state -/
def bk_Mr (Y : bk_Y) (w : bk_W) (y : MethodName) (cc : ByteArray) (mL : Nat) (rt : FieldType) (fr lo : Nat) (av : List Value) (σ : bk_S) (post : Nat × bk_S → Prop) : Prop := ∀ (l : Launch) (sz : Nat), Met l y (bk_ws y cc mL (some rt)) { frames := fr, cells := 0, slots := 0, locals := lo } (bk_Pc Y w av σ sz) (va_Qr post (fun u a t => a = bk_r w u.1 ∧ bk_B Y w u.2 t) (va_A (bk_wl Y w σ) sz)) 0 0 (va_A (bk_wl Y w σ) sz)
def bk_yk (y : MethodName) (cc : ByteArray) (mL : Nat) (ret : Option FieldType) (np : Nat) : Prop := Cond.code y cc mL ret ∈ lw_good ∧ Cond.initialized y.cls ∈ lw_good ∧ y.cls ≠ "java/lang/invoke/MethodHandle" ∧ y.cls ≠ "java/lang/invoke/VarHandle" ∧ (parseMethodDescriptor y.desc).map (fun d => d.parameters.length) = some np
def bk_yv (y : MethodName) : Prop := Cond.instanceMethod y ∈ lw_good ∧ Cond.selects y.cls y y ∈ lw_good
theorem bk_goodIn {y : MethodName} {cc : ByteArray} {mL : Nat} {ret : Option FieldType} {np : Nat} (h : bk_yk y cc mL ret np) : GoodIn lw_good (bk_ws y cc mL ret) := by
  intro q hq
  have hm : q ∈ lw_good := (List.mem_cons.mp hq).elim (fun e => e ▸ h.1) id
  exact ⟨hm, good_of_word (List.mem_filter.mp hm).2⟩
theorem bk_blind (Y : bk_Y) (w : bk_W) (av : List Value) (σ : bk_S) (sz : Nat) : FrameBlind (bk_Pc Y w av σ sz) := by
  intro a U g mk q
  obtain ⟨q0, q1, qP, qK, qN, qD⟩ := q
  exact ⟨q0, q1, qP, va_K.moved (u := U) (U := U.calling g mk a) (Vm.Alike.refl U.vm) qK, bk_N.same qN rfl, qD⟩
theorem bk_freeA {Y : bk_Y} {w : bk_W} {A : Nat → Prop} {H0 H : Heap} {locs : List Loc} {σ : bk_S} (hD : bk_D Y w A) (hA : ∀ q, H0.size ≤ q → A q) (hS : va_S A H0 H locs) : ∀ q, va_A (bk_wl Y w σ) H.size q → A q := by
  rintro q (⟨k, e, hk⟩ | h)
  · obtain ⟨h1, h2⟩ := bk_wl_some hk
    cases h2
    exact hD.2 k h1
  · exact hA q (Nat.le_trans hS.1 h)
section Calls2
variable {Y : bk_Y} {w : bk_W} {X : bk_X} {cc : ByteArray} {own : String} {n fr lo pc : Nat} {lv : List (Nat × Value)} {st : List Value} {σ : bk_S} {Z : Prop}
theorem bk_callV_i (hX : bk_Ok Y w X cc own n fr lo) {post : Int32 → bk_S → Prop} {ty : FieldType} {q i ci np mL fr2 lo2 : Nat} {y : MethodName} {cc2 : ByteArray} {fs : List (Option Nat)} {r0 : vw_C} (As rest : List Value) (hy : bk_yk y cc2 mL (some ty) np) (hv : bk_yv y) (hlk : Cond.methodLink own i y ∈ lw_good) (hci : vwCl[ci]? = some r0) (hcn : r0.1 = y.cls) (ho : bk_is Y q (.inr (.inl (ci, fs)))) (hst : st = As.reverse ++ .ref (bk_r w q) :: rest) (hlen : As.length = np) (hcat : (rest.map fun v => v.category).sum ≤ 8) (hR : fr2 + 1 ≤ fr ∧ 8 + (mL + 11) + lo2 ≤ lo) (d : decode cc pc = .ok (.invokevirtual i, 3)) (hM : Z → bk_Mi Y w y cc2 mL ty fr2 lo2 (.ref (bk_r w q) :: As) σ post) (k : ∀ r σ1, post r σ1 → bk_At Y w X (pc + 3) lv (.int r :: rest) σ1) : Z → bk_At Y w X pc lv st σ := by
  obtain ⟨⟨p, l, e, R, s, m, args, below, meth, c⟩, nL, cells, slots, Q, A⟩ := X
  obtain ⟨hx, hb, hml, hown, hts, hK, hN, hD, hA, rfl, hfr, hlo, hce, hsl⟩ := hX
  subst hst
  have hcell : (bk_wl Y w σ)[q]? = some (bk_r w q, bk_cell Y w σ q) := bk_wl_get Y w σ ho.2
  rw [bk_cell, ho.1] at hcell
  intro z H locs ls hP hS hl
  have hM := hM z l H.size
  have hfree := bk_freeA (σ := σ) hD hA hS
  have hrecv := va_recv hK hP hci hcell
  rw [hcn] at hrecv
  exact va_calli (va_runV (As := As) (rest := rest) ⟨hx, hb, hml, hown, hts⟩ hM ⟨callB_of np hts (bk_goodIn hy) rfl rfl rfl (hts _ hy.2.1) (hts _ hlk) ⟨hy.2.2.1, hy.2.2.2.1, hy.2.2.2.2⟩ ⟨Nat.le_trans hR.1 hfr, Nat.le_trans hR.2 hlo⟩, hts _ hv.1, hts _ hv.2⟩ ⟨bk_blind Y w _ σ H.size, hrecv, fun U hU hW => ⟨rfl, by rw [hU], by rw [hU]; exact hP, va_K.moved hW.alike hK, hN.warm hW, hD.1, fun _ _ => trivial⟩⟩ rfl hlen hl.1 rfl (lv_room hcat) d ⟨hce, hsl⟩) hS (fun q _ h => hfree q h) hfree (fun r u t H1 locs1 ht hvm hw hB hz1 hk1 hS1 => k r u hw H1 locs1 ls (by rw [← ht]; exact hB.1) hS1 hl)
theorem bk_callS_i (hX : bk_Ok Y w X cc own n fr lo) {post : Int32 → bk_S → Prop} {ty : FieldType} {i np mL fr2 lo2 : Nat} {y : MethodName} {cc2 : ByteArray} (As rest : List Value) (hy : bk_yk y cc2 mL (some ty) np) (hv : Cond.static y ∈ lw_good) (hlk : Cond.methodLink own i y ∈ lw_good) (hst : st = As.reverse ++ rest) (hlen : As.length = np) (hcat : (rest.map fun v => v.category).sum ≤ 8) (hR : fr2 + 1 ≤ fr ∧ 8 + (mL + 11) + lo2 ≤ lo) (d : decode cc pc = .ok (.invokestatic i, 3)) (hM : Z → bk_Mi Y w y cc2 mL ty fr2 lo2 As σ post) (k : ∀ r σ1, post r σ1 → bk_At Y w X (pc + 3) lv (.int r :: rest) σ1) : Z → bk_At Y w X pc lv st σ := by
  obtain ⟨⟨p, l, e, R, s, m, args, below, meth, c⟩, nL, cells, slots, Q, A⟩ := X
  obtain ⟨hx, hb, hml, hown, hts, hK, hN, hD, hA, rfl, hfr, hlo, hce, hsl⟩ := hX
  subst hst
  intro z H locs ls hP hS hl
  have hM := hM z l H.size
  have hfree := bk_freeA (σ := σ) hD hA hS
  exact va_calli (va_runS (As := As) (rest := rest) ⟨hx, hb, hml, hown, hts⟩ hM ⟨callB_of np hts (bk_goodIn hy) rfl rfl rfl (hts _ hy.2.1) (hts _ hlk) ⟨hy.2.2.1, hy.2.2.2.1, hy.2.2.2.2⟩ ⟨Nat.le_trans hR.1 hfr, Nat.le_trans hR.2 hlo⟩, hts _ hv⟩ ⟨bk_blind Y w _ σ H.size, fun U hU hW => ⟨rfl, by rw [hU], by rw [hU]; exact hP, va_K.moved hW.alike hK, hN.warm hW, hD.1, fun _ _ => trivial⟩⟩ rfl hlen hl.1 rfl (lv_room hcat) d ⟨hce, hsl⟩) hS (fun q _ h => hfree q h) hfree (fun r u t H1 locs1 ht hvm hw hB hz1 hk1 hS1 => k r u hw H1 locs1 ls (by rw [← ht]; exact hB.1) hS1 hl)
theorem bk_callN_i (hX : bk_Ok Y w X cc own n fr lo) {post : Int32 → bk_S → Prop} {ty : FieldType} {i np mL fr2 lo2 : Nat} {y : MethodName} {cc2 : ByteArray} {host : String} (As rest : List Value) (hy : bk_yk y cc2 mL (some ty) np) (hv : Cond.static y ∈ lw_good) (hlk : (own, i, y, host) ∈ bk_nest) (hst : st = As.reverse ++ rest) (hlen : As.length = np) (hcat : (rest.map fun v => v.category).sum ≤ 8) (hR : fr2 + 1 ≤ fr ∧ 8 + (mL + 11) + lo2 ≤ lo) (d : decode cc pc = .ok (.invokestatic i, 3)) (hM : Z → bk_Mi Y w y cc2 mL ty fr2 lo2 As σ post) (k : ∀ r σ1, post r σ1 → bk_At Y w X (pc + 3) lv (.int r :: rest) σ1) : Z → bk_At Y w X pc lv st σ := by
  obtain ⟨⟨p, l, e, R, s, m, args, below, meth, c⟩, nL, cells, slots, Q, A⟩ := X
  obtain ⟨hx, hb, hml, hown, hts, hK, hN, hD, hA, rfl, hfr, hlo, hce, hsl⟩ := hX
  subst hst
  intro z H locs ls hP hS hl
  have hM := hM z l H.size
  have hfree := bk_freeA (σ := σ) hD hA hS
  exact va_calli (va_runSN (As := As) (rest := rest) ⟨hx, hb, hml, hown, hts⟩ hM ⟨va_cnB np hts (bk_goodIn hy) rfl rfl rfl (hN _ hlk) (hts _ hy.2.1) ⟨hy.2.2.1, hy.2.2.2.1, hy.2.2.2.2⟩ ⟨Nat.le_trans hR.1 hfr, Nat.le_trans hR.2 hlo⟩, hts _ hv, trivial⟩ ⟨bk_blind Y w _ σ H.size, fun U hU hW => ⟨rfl, by rw [hU], by rw [hU]; exact hP, va_K.moved hW.alike hK, hN.warm hW, hD.1, fun _ _ => trivial⟩⟩ rfl hlen hl.1 rfl (lv_room hcat) d ⟨hce, hsl⟩) hS (fun q _ h => hfree q h) hfree (fun r u t H1 locs1 ht hvm hw hB hz1 hk1 hS1 => k r u hw H1 locs1 ls (by rw [← ht]; exact hB.1) hS1 hl)
theorem bk_callV_l (hX : bk_Ok Y w X cc own n fr lo) {post : Int64 → bk_S → Prop} {q i ci np mL fr2 lo2 : Nat} {y : MethodName} {cc2 : ByteArray} {fs : List (Option Nat)} {r0 : vw_C} (As rest : List Value) (hy : bk_yk y cc2 mL (some .long) np) (hv : bk_yv y) (hlk : Cond.methodLink own i y ∈ lw_good) (hci : vwCl[ci]? = some r0) (hcn : r0.1 = y.cls) (ho : bk_is Y q (.inr (.inl (ci, fs)))) (hst : st = As.reverse ++ .ref (bk_r w q) :: rest) (hlen : As.length = np) (hcat : (rest.map fun v => v.category).sum ≤ 8) (hR : fr2 + 1 ≤ fr ∧ 8 + (mL + 11) + lo2 ≤ lo) (d : decode cc pc = .ok (.invokevirtual i, 3)) (hM : Z → bk_Ml Y w y cc2 mL fr2 lo2 (.ref (bk_r w q) :: As) σ post) (k : ∀ r σ1, post r σ1 → bk_At Y w X (pc + 3) lv (.long r :: rest) σ1) : Z → bk_At Y w X pc lv st σ := by
  obtain ⟨⟨p, l, e, R, s, m, args, below, meth, c⟩, nL, cells, slots, Q, A⟩ := X
  obtain ⟨hx, hb, hml, hown, hts, hK, hN, hD, hA, rfl, hfr, hlo, hce, hsl⟩ := hX
  subst hst
  have hcell : (bk_wl Y w σ)[q]? = some (bk_r w q, bk_cell Y w σ q) := bk_wl_get Y w σ ho.2
  rw [bk_cell, ho.1] at hcell
  intro z H locs ls hP hS hl
  have hM := hM z l H.size
  have hfree := bk_freeA (σ := σ) hD hA hS
  have hrecv := va_recv hK hP hci hcell
  rw [hcn] at hrecv
  exact va_calll (va_runV (As := As) (rest := rest) ⟨hx, hb, hml, hown, hts⟩ hM ⟨callB_of np hts (bk_goodIn hy) rfl rfl rfl (hts _ hy.2.1) (hts _ hlk) ⟨hy.2.2.1, hy.2.2.2.1, hy.2.2.2.2⟩ ⟨Nat.le_trans hR.1 hfr, Nat.le_trans hR.2 hlo⟩, hts _ hv.1, hts _ hv.2⟩ ⟨bk_blind Y w _ σ H.size, hrecv, fun U hU hW => ⟨rfl, by rw [hU], by rw [hU]; exact hP, va_K.moved hW.alike hK, hN.warm hW, hD.1, fun _ _ => trivial⟩⟩ rfl hlen hl.1 rfl (lv_room hcat) d ⟨hce, hsl⟩) hS (fun q _ h => hfree q h) hfree (fun r u t H1 locs1 ht hvm hw hB hz1 hk1 hS1 => k r u hw H1 locs1 ls (by rw [← ht]; exact hB.1) hS1 hl)
theorem bk_callS_l (hX : bk_Ok Y w X cc own n fr lo) {post : Int64 → bk_S → Prop} {i np mL fr2 lo2 : Nat} {y : MethodName} {cc2 : ByteArray} (As rest : List Value) (hy : bk_yk y cc2 mL (some .long) np) (hv : Cond.static y ∈ lw_good) (hlk : Cond.methodLink own i y ∈ lw_good) (hst : st = As.reverse ++ rest) (hlen : As.length = np) (hcat : (rest.map fun v => v.category).sum ≤ 8) (hR : fr2 + 1 ≤ fr ∧ 8 + (mL + 11) + lo2 ≤ lo) (d : decode cc pc = .ok (.invokestatic i, 3)) (hM : Z → bk_Ml Y w y cc2 mL fr2 lo2 As σ post) (k : ∀ r σ1, post r σ1 → bk_At Y w X (pc + 3) lv (.long r :: rest) σ1) : Z → bk_At Y w X pc lv st σ := by
  obtain ⟨⟨p, l, e, R, s, m, args, below, meth, c⟩, nL, cells, slots, Q, A⟩ := X
  obtain ⟨hx, hb, hml, hown, hts, hK, hN, hD, hA, rfl, hfr, hlo, hce, hsl⟩ := hX
  subst hst
  intro z H locs ls hP hS hl
  have hM := hM z l H.size
  have hfree := bk_freeA (σ := σ) hD hA hS
  exact va_calll (va_runS (As := As) (rest := rest) ⟨hx, hb, hml, hown, hts⟩ hM ⟨callB_of np hts (bk_goodIn hy) rfl rfl rfl (hts _ hy.2.1) (hts _ hlk) ⟨hy.2.2.1, hy.2.2.2.1, hy.2.2.2.2⟩ ⟨Nat.le_trans hR.1 hfr, Nat.le_trans hR.2 hlo⟩, hts _ hv⟩ ⟨bk_blind Y w _ σ H.size, fun U hU hW => ⟨rfl, by rw [hU], by rw [hU]; exact hP, va_K.moved hW.alike hK, hN.warm hW, hD.1, fun _ _ => trivial⟩⟩ rfl hlen hl.1 rfl (lv_room hcat) d ⟨hce, hsl⟩) hS (fun q _ h => hfree q h) hfree (fun r u t H1 locs1 ht hvm hw hB hz1 hk1 hS1 => k r u hw H1 locs1 ls (by rw [← ht]; exact hB.1) hS1 hl)
theorem bk_callV_v (hX : bk_Ok Y w X cc own n fr lo) {post : bk_S → Prop} {q i ci np mL fr2 lo2 : Nat} {y : MethodName} {cc2 : ByteArray} {fs : List (Option Nat)} {r0 : vw_C} (As rest : List Value) (hy : bk_yk y cc2 mL none np) (hv : bk_yv y) (hlk : Cond.methodLink own i y ∈ lw_good) (hci : vwCl[ci]? = some r0) (hcn : r0.1 = y.cls) (ho : bk_is Y q (.inr (.inl (ci, fs)))) (hst : st = As.reverse ++ .ref (bk_r w q) :: rest) (hlen : As.length = np) (hcat : (rest.map fun v => v.category).sum ≤ 8) (hR : fr2 + 1 ≤ fr ∧ 8 + (mL + 11) + lo2 ≤ lo) (d : decode cc pc = .ok (.invokevirtual i, 3)) (hM : Z → bk_Mv Y w y cc2 mL fr2 lo2 (.ref (bk_r w q) :: As) σ post) (k : ∀ σ1, post σ1 → bk_At Y w X (pc + 3) lv rest σ1) : Z → bk_At Y w X pc lv st σ := by
  obtain ⟨⟨p, l, e, R, s, m, args, below, meth, c⟩, nL, cells, slots, Q, A⟩ := X
  obtain ⟨hx, hb, hml, hown, hts, hK, hN, hD, hA, rfl, hfr, hlo, hce, hsl⟩ := hX
  subst hst
  have hcell : (bk_wl Y w σ)[q]? = some (bk_r w q, bk_cell Y w σ q) := bk_wl_get Y w σ ho.2
  rw [bk_cell, ho.1] at hcell
  intro z H locs ls hP hS hl
  have hM := hM z l H.size
  have hfree := bk_freeA (σ := σ) hD hA hS
  have hrecv := va_recv hK hP hci hcell
  rw [hcn] at hrecv
  exact va_callv (va_runV (As := As) (rest := rest) ⟨hx, hb, hml, hown, hts⟩ hM ⟨callB_of np hts (bk_goodIn hy) rfl rfl rfl (hts _ hy.2.1) (hts _ hlk) ⟨hy.2.2.1, hy.2.2.2.1, hy.2.2.2.2⟩ ⟨Nat.le_trans hR.1 hfr, Nat.le_trans hR.2 hlo⟩, hts _ hv.1, hts _ hv.2⟩ ⟨bk_blind Y w _ σ H.size, hrecv, fun U hU hW => ⟨rfl, by rw [hU], by rw [hU]; exact hP, va_K.moved hW.alike hK, hN.warm hW, hD.1, fun _ _ => trivial⟩⟩ rfl hlen hl.1 rfl (lv_room hcat) d ⟨hce, hsl⟩) hS (fun q _ h => hfree q h) hfree (fun u t H1 locs1 ht hvm hw hB hz1 hk1 hS1 => k u hw H1 locs1 ls (by rw [← ht]; exact hB.1) hS1 hl)
theorem bk_callS_v (hX : bk_Ok Y w X cc own n fr lo) {post : bk_S → Prop} {i np mL fr2 lo2 : Nat} {y : MethodName} {cc2 : ByteArray} (As rest : List Value) (hy : bk_yk y cc2 mL none np) (hv : Cond.static y ∈ lw_good) (hlk : Cond.methodLink own i y ∈ lw_good) (hst : st = As.reverse ++ rest) (hlen : As.length = np) (hcat : (rest.map fun v => v.category).sum ≤ 8) (hR : fr2 + 1 ≤ fr ∧ 8 + (mL + 11) + lo2 ≤ lo) (d : decode cc pc = .ok (.invokestatic i, 3)) (hM : Z → bk_Mv Y w y cc2 mL fr2 lo2 As σ post) (k : ∀ σ1, post σ1 → bk_At Y w X (pc + 3) lv rest σ1) : Z → bk_At Y w X pc lv st σ := by
  obtain ⟨⟨p, l, e, R, s, m, args, below, meth, c⟩, nL, cells, slots, Q, A⟩ := X
  obtain ⟨hx, hb, hml, hown, hts, hK, hN, hD, hA, rfl, hfr, hlo, hce, hsl⟩ := hX
  subst hst
  intro z H locs ls hP hS hl
  have hM := hM z l H.size
  have hfree := bk_freeA (σ := σ) hD hA hS
  exact va_callv (va_runS (As := As) (rest := rest) ⟨hx, hb, hml, hown, hts⟩ hM ⟨callB_of np hts (bk_goodIn hy) rfl rfl rfl (hts _ hy.2.1) (hts _ hlk) ⟨hy.2.2.1, hy.2.2.2.1, hy.2.2.2.2⟩ ⟨Nat.le_trans hR.1 hfr, Nat.le_trans hR.2 hlo⟩, hts _ hv⟩ ⟨bk_blind Y w _ σ H.size, fun U hU hW => ⟨rfl, by rw [hU], by rw [hU]; exact hP, va_K.moved hW.alike hK, hN.warm hW, hD.1, fun _ _ => trivial⟩⟩ rfl hlen hl.1 rfl (lv_room hcat) d ⟨hce, hsl⟩) hS (fun q _ h => hfree q h) hfree (fun u t H1 locs1 ht hvm hw hB hz1 hk1 hS1 => k u hw H1 locs1 ls (by rw [← ht]; exact hB.1) hS1 hl)
theorem bk_callV_r (hX : bk_Ok Y w X cc own n fr lo) {post : Nat × bk_S → Prop} {rt : FieldType} {q i ci np mL fr2 lo2 : Nat} {y : MethodName} {cc2 : ByteArray} {fs : List (Option Nat)} {r0 : vw_C} (As rest : List Value) (hy : bk_yk y cc2 mL (some rt) np) (hv : bk_yv y) (hlk : Cond.methodLink own i y ∈ lw_good) (hci : vwCl[ci]? = some r0) (hcn : r0.1 = y.cls) (ho : bk_is Y q (.inr (.inl (ci, fs)))) (hst : st = As.reverse ++ .ref (bk_r w q) :: rest) (hlen : As.length = np) (hcat : (rest.map fun v => v.category).sum ≤ 8) (hR : fr2 + 1 ≤ fr ∧ 8 + (mL + 11) + lo2 ≤ lo) (d : decode cc pc = .ok (.invokevirtual i, 3)) (hM : Z → bk_Mr Y w y cc2 mL rt fr2 lo2 (.ref (bk_r w q) :: As) σ post) (k : ∀ r σ1, post (r, σ1) → bk_At Y w X (pc + 3) lv (.ref (bk_r w r) :: rest) σ1) : Z → bk_At Y w X pc lv st σ := by
  obtain ⟨⟨p, l, e, R, s, m, args, below, meth, c⟩, nL, cells, slots, Q, A⟩ := X
  obtain ⟨hx, hb, hml, hown, hts, hK, hN, hD, hA, rfl, hfr, hlo, hce, hsl⟩ := hX
  subst hst
  have hcell : (bk_wl Y w σ)[q]? = some (bk_r w q, bk_cell Y w σ q) := bk_wl_get Y w σ ho.2
  rw [bk_cell, ho.1] at hcell
  intro z H locs ls hP hS hl
  have hM := hM z l H.size
  have hfree := bk_freeA (σ := σ) hD hA hS
  have hrecv := va_recv hK hP hci hcell
  rw [hcn] at hrecv
  exact va_callr (va_runV (As := As) (rest := rest) ⟨hx, hb, hml, hown, hts⟩ hM ⟨callB_of np hts (bk_goodIn hy) rfl rfl rfl (hts _ hy.2.1) (hts _ hlk) ⟨hy.2.2.1, hy.2.2.2.1, hy.2.2.2.2⟩ ⟨Nat.le_trans hR.1 hfr, Nat.le_trans hR.2 hlo⟩, hts _ hv.1, hts _ hv.2⟩ ⟨bk_blind Y w _ σ H.size, hrecv, fun U hU hW => ⟨rfl, by rw [hU], by rw [hU]; exact hP, va_K.moved hW.alike hK, hN.warm hW, hD.1, fun _ _ => trivial⟩⟩ rfl hlen hl.1 rfl (lv_room hcat) d ⟨hce, hsl⟩) hS (fun q _ h => hfree q h) hfree (fun u ra t H1 locs1 ht hvm hw hB hz1 hk1 hS1 => by obtain ⟨rfl, hB⟩ := hB; exact k u.1 u.2 hw H1 locs1 ls (by rw [← ht]; exact hB.1) hS1 hl)
end Calls2
theorem bk_mi {Y : bk_Y} {w : bk_W} {y : MethodName} {cc : ByteArray} {mL fr lo : Nat} {av : List Value} {σ : bk_S} {post : Int32 → bk_S → Prop} {ty : FieldType} (hy : plainName y.cls = true) (hlen : (lg_sl av).length ≤ mL) (body : ∀ X : bk_X, bk_Ok Y w X cc y.cls mL fr lo → (∀ pc lv v σ1, decode cc pc = .ok (.ireturn, 1) → narrow ty (.int v) = .int v → post v σ1 → bk_At Y w X pc lv [.int v] σ1) → bk_At Y w X 0 (lv_args 0 av) [] σ) : bk_Mi Y w y cc mL ty fr lo av σ post := by
  intro l sz
  refine Met.ofW (cc := cc) (maxL := mL) (ret := (some ty)) hy rfl ?_
  intro p e s m args below meth c s₁ B hml hv
  obtain ⟨rfl, hsz, hP, hK, hN, hD0⟩ := hv
  have hx := B.exec
  have hb := B.bytes
  have hr := B.returns
  have hts0 := atoms_spec (ws := bk_ws y cc mL (some ty)) B.pre
  have hts : ∀ w ∈ lw_good, w.before av.toArray s = true := fun w h => hts0 w (List.mem_cons_of_mem _ h)
  have hown : s.vm.findClass y.cls = some m.cls := findClass_of_methodNamed B.named
  have hlocks := B.notSynchronized
  subst hsz
  have hD : bk_D Y w (va_A (bk_wl Y w σ) s.heap.size) := bk_D.of (σ := σ) ((hD0.va σ).self)
  have hA : ∀ q : Nat, s.heap.size ≤ q → va_A (bk_wl Y w σ) s.heap.size q := fun q h => Or.inr h
  have hS : va_S (va_A (bk_wl Y w σ) s.heap.size) s.heap s.heap [] := va_S.rf
  have hl := lv_entry av (n := mL) hlen
  rw [lg_entry_eq]
  exact body ((p, l, e, { frames := fr, cells := 0, slots := 0, locals := lo }, s, m, av.toArray, below, meth, c), (mL, 0, 0, _, va_A (bk_wl Y w σ) s.heap.size)) ⟨hx, hb, hml, hown, hts, hK, hN, hD, hA, rfl, Nat.le_refl _, Nat.le_refl _, Nat.le_refl _, Nat.le_refl _⟩ (fun pc lv v σ1 d hn hp H locs ls hP hS hl => W.zret hx hb hr hn (fun t ht hW => ⟨⟨v, σ1, rfl, hp, by rw [ht]; exact hP, va_K.moved hW.alike hK⟩, hS.F ht⟩) hS.2.2 d) s.heap [] _ hP hS hl
theorem bk_ml {Y : bk_Y} {w : bk_W} {y : MethodName} {cc : ByteArray} {mL fr lo : Nat} {av : List Value} {σ : bk_S} {post : Int64 → bk_S → Prop} (hy : plainName y.cls = true) (hlen : (lg_sl av).length ≤ mL) (body : ∀ X : bk_X, bk_Ok Y w X cc y.cls mL fr lo → (∀ pc lv v σ1, decode cc pc = .ok (.lreturn, 1) → post v σ1 → bk_At Y w X pc lv [.long v] σ1) → bk_At Y w X 0 (lv_args 0 av) [] σ) : bk_Ml Y w y cc mL fr lo av σ post := by
  intro l sz
  refine Met.ofW (cc := cc) (maxL := mL) (ret := (some .long)) hy rfl ?_
  intro p e s m args below meth c s₁ B hml hv
  obtain ⟨rfl, hsz, hP, hK, hN, hD0⟩ := hv
  have hx := B.exec
  have hb := B.bytes
  have hr := B.returns
  have hts0 := atoms_spec (ws := bk_ws y cc mL (some .long)) B.pre
  have hts : ∀ w ∈ lw_good, w.before av.toArray s = true := fun w h => hts0 w (List.mem_cons_of_mem _ h)
  have hown : s.vm.findClass y.cls = some m.cls := findClass_of_methodNamed B.named
  have hlocks := B.notSynchronized
  subst hsz
  have hD : bk_D Y w (va_A (bk_wl Y w σ) s.heap.size) := bk_D.of (σ := σ) ((hD0.va σ).self)
  have hA : ∀ q : Nat, s.heap.size ≤ q → va_A (bk_wl Y w σ) s.heap.size q := fun q h => Or.inr h
  have hS : va_S (va_A (bk_wl Y w σ) s.heap.size) s.heap s.heap [] := va_S.rf
  have hl := lv_entry av (n := mL) hlen
  rw [lg_entry_eq]
  exact body ((p, l, e, { frames := fr, cells := 0, slots := 0, locals := lo }, s, m, av.toArray, below, meth, c), (mL, 0, 0, _, va_A (bk_wl Y w σ) s.heap.size)) ⟨hx, hb, hml, hown, hts, hK, hN, hD, hA, rfl, Nat.le_refl _, Nat.le_refl _, Nat.le_refl _, Nat.le_refl _⟩ (fun pc lv v σ1 d hp H locs ls hP hS hl => W.lret hx hb hr (fun t ht hW => ⟨⟨v, σ1, rfl, hp, by rw [ht]; exact hP, va_K.moved hW.alike hK⟩, hS.F ht⟩) hS.2.2 d) s.heap [] _ hP hS hl
theorem bk_mv {Y : bk_Y} {w : bk_W} {y : MethodName} {cc : ByteArray} {mL fr lo : Nat} {av : List Value} {σ : bk_S} {post : bk_S → Prop} (hy : plainName y.cls = true) (hlen : (lg_sl av).length ≤ mL) (body : ∀ X : bk_X, bk_Ok Y w X cc y.cls mL fr lo → (∀ pc lv σ1, decode cc pc = .ok (.return_, 1) → post σ1 → bk_At Y w X pc lv [] σ1) → bk_At Y w X 0 (lv_args 0 av) [] σ) : bk_Mv Y w y cc mL fr lo av σ post := by
  intro l sz
  refine Met.ofW (cc := cc) (maxL := mL) (ret := none) hy rfl ?_
  intro p e s m args below meth c s₁ B hml hv
  obtain ⟨rfl, hsz, hP, hK, hN, hD0⟩ := hv
  have hx := B.exec
  have hb := B.bytes
  have hr := B.returns
  have hts0 := atoms_spec (ws := bk_ws y cc mL none) B.pre
  have hts : ∀ w ∈ lw_good, w.before av.toArray s = true := fun w h => hts0 w (List.mem_cons_of_mem _ h)
  have hown : s.vm.findClass y.cls = some m.cls := findClass_of_methodNamed B.named
  have hlocks := B.notSynchronized
  subst hsz
  have hD : bk_D Y w (va_A (bk_wl Y w σ) s.heap.size) := bk_D.of (σ := σ) ((hD0.va σ).self)
  have hA : ∀ q : Nat, s.heap.size ≤ q → va_A (bk_wl Y w σ) s.heap.size q := fun q h => Or.inr h
  have hS : va_S (va_A (bk_wl Y w σ) s.heap.size) s.heap s.heap [] := va_S.rf
  have hl := lv_entry av (n := mL) hlen
  rw [lg_entry_eq]
  exact body ((p, l, e, { frames := fr, cells := 0, slots := 0, locals := lo }, s, m, av.toArray, below, meth, c), (mL, 0, 0, _, va_A (bk_wl Y w σ) s.heap.size)) ⟨hx, hb, hml, hown, hts, hK, hN, hD, hA, rfl, Nat.le_refl _, Nat.le_refl _, Nat.le_refl _, Nat.le_refl _⟩ (fun pc lv σ1 d hp H locs ls hP hS hl => W.vret hx hb hr (fun t ht hW => ⟨⟨σ1, rfl, hp, by rw [ht]; exact hP, va_K.moved hW.alike hK⟩, hS.F ht⟩) hS.2.2 d) s.heap [] _ hP hS hl
theorem bk_mr {Y : bk_Y} {w : bk_W} {y : MethodName} {cc : ByteArray} {mL fr lo : Nat} {av : List Value} {σ : bk_S} {post : Nat × bk_S → Prop} {rt : FieldType} (hy : plainName y.cls = true) (hlen : (lg_sl av).length ≤ mL) (body : ∀ X : bk_X, bk_Ok Y w X cc y.cls mL fr lo → (∀ pc lv v σ1, decode cc pc = .ok (.areturn, 1) → (∃ nm, rt = .object nm) → post (v, σ1) → bk_At Y w X pc lv [.ref (bk_r w v)] σ1) → bk_At Y w X 0 (lv_args 0 av) [] σ) : bk_Mr Y w y cc mL rt fr lo av σ post := by
  intro l sz
  refine Met.ofW (cc := cc) (maxL := mL) (ret := (some rt)) hy rfl ?_
  intro p e s m args below meth c s₁ B hml hv
  obtain ⟨rfl, hsz, hP, hK, hN, hD0⟩ := hv
  have hx := B.exec
  have hb := B.bytes
  have hr := B.returns
  have hts0 := atoms_spec (ws := bk_ws y cc mL (some rt)) B.pre
  have hts : ∀ w ∈ lw_good, w.before av.toArray s = true := fun w h => hts0 w (List.mem_cons_of_mem _ h)
  have hown : s.vm.findClass y.cls = some m.cls := findClass_of_methodNamed B.named
  have hlocks := B.notSynchronized
  subst hsz
  have hD : bk_D Y w (va_A (bk_wl Y w σ) s.heap.size) := bk_D.of (σ := σ) ((hD0.va σ).self)
  have hA : ∀ q : Nat, s.heap.size ≤ q → va_A (bk_wl Y w σ) s.heap.size q := fun q h => Or.inr h
  have hS : va_S (va_A (bk_wl Y w σ) s.heap.size) s.heap s.heap [] := va_S.rf
  have hl := lv_entry av (n := mL) hlen
  rw [lg_entry_eq]
  exact body ((p, l, e, { frames := fr, cells := 0, slots := 0, locals := lo }, s, m, av.toArray, below, meth, c), (mL, 0, 0, _, va_A (bk_wl Y w σ) s.heap.size)) ⟨hx, hb, hml, hown, hts, hK, hN, hD, hA, rfl, Nat.le_refl _, Nat.le_refl _, Nat.le_refl _, Nat.le_refl _⟩ (fun pc lv v σ1 d hrt hp H locs ls hP hS hl => W.aret hx hb hr (Or.inl hrt) (Or.inr ⟨_, rfl⟩) (fun t ht hW => ⟨⟨(v, σ1), bk_r w v, rfl, hp, rfl, by rw [ht]; exact hP, va_K.moved hW.alike hK⟩, hS.F ht⟩) hS.2.2 d) s.heap [] _ hP hS hl
end
section
def lyC_t : List ((Nat × Nat) ⊕ ((Nat × List (Option Nat)) ⊕ (Nat × (Nat → Nat)))) := [.inr (.inl (8, [some 1, some 3, some 5, some 9, some 13, some 22, some 29, some 36, some 48, some 60, some 61, some 63, some 64, none, none, none])),
  .inr (.inl (6, [some (1 + 1), none, none])),
  .inl (0, 31),
  .inr (.inl (6, [some (3 + 1), none, none])),
  .inl (0, 31),
  .inr (.inl (7, [some (5 + 1), some (5 + 2), some (5 + 3), none])),
  .inl (0, 8),
  .inl (0, 8),
  .inl (0, 8),
  .inr (.inl (7, [some (9 + 1), some (9 + 2), some (9 + 3), none])),
  .inl (0, 8),
  .inl (0, 8),
  .inl (0, 8),
  .inr (.inr (4, fun j => 14 + 2 * j)),
  .inr (.inl (5, [none, none, some (14 + 1)])),
  .inl (0, 60),
  .inr (.inl (5, [none, none, some (16 + 1)])),
  .inl (0, 60),
  .inr (.inl (5, [none, none, some (18 + 1)])),
  .inl (0, 60),
  .inr (.inl (5, [none, none, some (20 + 1)])),
  .inl (0, 60),
  .inr (.inl (4, [none, none, some (22 + 1), some (22 + 2), some (22 + 3), some (22 + 4), some (22 + 5), some (22 + 6)])),
  .inl (0, 12),
  .inl (0, 8),
  .inl (0, 8),
  .inl (0, 8),
  .inl (0, 12),
  .inl (0, 12),
  .inr (.inl (4, [none, none, some (29 + 1), some (29 + 2), some (29 + 3), some (29 + 4), some (29 + 5), some (29 + 6)])),
  .inl (0, 12),
  .inl (0, 8),
  .inl (0, 8),
  .inl (0, 8),
  .inl (0, 12),
  .inl (0, 12),
  .inr (.inl (1, [some (36 + 1), some (36 + 2), some (36 + 3), some (36 + 4), some (36 + 5), some (36 + 6), some (36 + 7), some (36 + 8), some (36 + 9), some (36 + 10), some (36 + 11), none])),
  .inl (0, 8),
  .inl (0, 8),
  .inl (0, 8),
  .inl (0, 8),
  .inl (0, 96),
  .inl (0, 96),
  .inl (0, 144),
  .inl (0, 12),
  .inl (0, 12),
  .inl (0, 12),
  .inl (0, 12),
  .inr (.inl (1, [some (48 + 1), some (48 + 2), some (48 + 3), some (48 + 4), some (48 + 5), some (48 + 6), some (48 + 7), some (48 + 8), some (48 + 9), some (48 + 10), some (48 + 11), none])),
  .inl (0, 8),
  .inl (0, 8),
  .inl (0, 8),
  .inl (0, 8),
  .inl (0, 96),
  .inl (0, 96),
  .inl (0, 144),
  .inl (0, 12),
  .inl (0, 12),
  .inl (0, 12),
  .inl (0, 12),
  .inr (.inl (0, [none, none, none, none, none])),
  .inr (.inl (2, [none, some (61 + 1)])),
  .inl (0, 120),
  .inr (.inl (3, [none])),
  .inl (0, 256)]
def lyC : bk_Y := (fun k => lyC_t.getD k (.inl (0, 0)), 65)
def lyM_t : List ((Nat × Nat) ⊕ ((Nat × List (Option Nat)) ⊕ (Nat × (Nat → Nat)))) := [.inr (.inl (9, [some 1, some 2, none, some 4, none, some 6, some 7, some 8, none, some 10, some 11, some 12, none, some 14, some 15, some 16, none, none, none, none, none, none, none, none, none, none, none, none, none, none, none, none, some 33, some 34, some 35, some 36, some 37, some 38, some 39, some 40, some 41, some 42, none, none, none, some 46, none, some 48, some 49, some 50, some 51, some 52, some 53, some 54, some 55, some 56, none])),
  .inl (0, 2),
  .inl (0, 62),
  .inl (0, 0),
  .inl (0, 12),
  .inl (0, 0),
  .inl (0, 9),
  .inl (0, 9),
  .inl (0, 9),
  .inl (0, 0),
  .inl (0, 8),
  .inl (0, 8),
  .inl (0, 8),
  .inl (0, 0),
  .inl (0, 8),
  .inl (0, 8),
  .inl (0, 8),
  .inl (0, 0),
  .inl (0, 0),
  .inl (0, 0),
  .inl (0, 0),
  .inl (0, 0),
  .inl (0, 0),
  .inl (0, 0),
  .inl (0, 0),
  .inl (0, 0),
  .inl (0, 0),
  .inl (0, 0),
  .inl (0, 0),
  .inl (0, 0),
  .inl (0, 0),
  .inl (0, 0),
  .inl (0, 0),
  .inl (0, 8),
  .inl (0, 8),
  .inl (0, 8),
  .inl (0, 8),
  .inl (0, 8),
  .inl (0, 96),
  .inl (0, 96),
  .inl (0, 144),
  .inl (0, 48),
  .inl (0, 12),
  .inl (0, 0),
  .inl (0, 0),
  .inl (0, 0),
  .inl (0, 2),
  .inl (0, 0),
  .inl (0, 8),
  .inl (0, 8),
  .inl (0, 8),
  .inl (0, 120),
  .inl (1, 4),
  .inl (0, 4),
  .inl (0, 4),
  .inl (0, 240),
  .inl (0, 60),
  .inl (0, 0)]
def lyM : bk_Y := (fun k => lyM_t.getD k (.inl (0, 0)), 58)
theorem kc_0 : bk_is lyC 0 (.inr (.inl (8, [some 1, some 3, some 5, some 9, some 13, some 22, some 29, some 36, some 48, some 60, some 61, some 63, some 64, none, none, none]))) := ⟨rfl, Nat.le_of_ble_eq_true rfl⟩
theorem kc_13 : bk_is lyC 13 (.inr (.inr (4, fun j => 14 + 2 * j))) := ⟨rfl, Nat.le_of_ble_eq_true rfl⟩
theorem kc_64 : bk_is lyC 64 (.inl (0, 256)) := ⟨rfl, Nat.le_of_ble_eq_true rfl⟩
def bk_txt (b : Nat) : Prop := bk_is lyC b (.inr (.inl (6, [some (b + 1), none, none]))) ∧ bk_is lyC (b + 1) (.inl (0, 31))
theorem k_txt_1 : bk_txt 1 := ⟨⟨rfl, Nat.le_of_ble_eq_true rfl⟩, ⟨rfl, Nat.le_of_ble_eq_true rfl⟩⟩
theorem k_txt_3 : bk_txt 3 := ⟨⟨rfl, Nat.le_of_ble_eq_true rfl⟩, ⟨rfl, Nat.le_of_ble_eq_true rfl⟩⟩
def bk_tri (b : Nat) : Prop := bk_is lyC b (.inr (.inl (7, [some (b + 1), some (b + 2), some (b + 3), none]))) ∧ bk_is lyC (b + 1) (.inl (0, 8)) ∧ bk_is lyC (b + 2) (.inl (0, 8)) ∧ bk_is lyC (b + 3) (.inl (0, 8))
theorem k_tri_5 : bk_tri 5 := ⟨⟨rfl, Nat.le_of_ble_eq_true rfl⟩, ⟨rfl, Nat.le_of_ble_eq_true rfl⟩, ⟨rfl, Nat.le_of_ble_eq_true rfl⟩, ⟨rfl, Nat.le_of_ble_eq_true rfl⟩⟩
theorem k_tri_9 : bk_tri 9 := ⟨⟨rfl, Nat.le_of_ble_eq_true rfl⟩, ⟨rfl, Nat.le_of_ble_eq_true rfl⟩, ⟨rfl, Nat.le_of_ble_eq_true rfl⟩, ⟨rfl, Nat.le_of_ble_eq_true rfl⟩⟩
def bk_sht (b : Nat) : Prop := bk_is lyC b (.inr (.inl (5, [none, none, some (b + 1)]))) ∧ bk_is lyC (b + 1) (.inl (0, 60))
theorem k_sht_14 : bk_sht 14 := ⟨⟨rfl, Nat.le_of_ble_eq_true rfl⟩, ⟨rfl, Nat.le_of_ble_eq_true rfl⟩⟩
theorem k_sht_16 : bk_sht 16 := ⟨⟨rfl, Nat.le_of_ble_eq_true rfl⟩, ⟨rfl, Nat.le_of_ble_eq_true rfl⟩⟩
theorem k_sht_18 : bk_sht 18 := ⟨⟨rfl, Nat.le_of_ble_eq_true rfl⟩, ⟨rfl, Nat.le_of_ble_eq_true rfl⟩⟩
theorem k_sht_20 : bk_sht 20 := ⟨⟨rfl, Nat.le_of_ble_eq_true rfl⟩, ⟨rfl, Nat.le_of_ble_eq_true rfl⟩⟩
def bk_set (b : Nat) : Prop := bk_is lyC b (.inr (.inl (4, [none, none, some (b + 1), some (b + 2), some (b + 3), some (b + 4), some (b + 5), some (b + 6)]))) ∧ bk_is lyC (b + 1) (.inl (0, 12)) ∧ bk_is lyC (b + 2) (.inl (0, 8)) ∧ bk_is lyC (b + 3) (.inl (0, 8)) ∧ bk_is lyC (b + 4) (.inl (0, 8)) ∧ bk_is lyC (b + 5) (.inl (0, 12)) ∧ bk_is lyC (b + 6) (.inl (0, 12))
theorem k_set_22 : bk_set 22 := ⟨⟨rfl, Nat.le_of_ble_eq_true rfl⟩, ⟨rfl, Nat.le_of_ble_eq_true rfl⟩, ⟨rfl, Nat.le_of_ble_eq_true rfl⟩, ⟨rfl, Nat.le_of_ble_eq_true rfl⟩, ⟨rfl, Nat.le_of_ble_eq_true rfl⟩, ⟨rfl, Nat.le_of_ble_eq_true rfl⟩, ⟨rfl, Nat.le_of_ble_eq_true rfl⟩⟩
theorem k_set_29 : bk_set 29 := ⟨⟨rfl, Nat.le_of_ble_eq_true rfl⟩, ⟨rfl, Nat.le_of_ble_eq_true rfl⟩, ⟨rfl, Nat.le_of_ble_eq_true rfl⟩, ⟨rfl, Nat.le_of_ble_eq_true rfl⟩, ⟨rfl, Nat.le_of_ble_eq_true rfl⟩, ⟨rfl, Nat.le_of_ble_eq_true rfl⟩, ⟨rfl, Nat.le_of_ble_eq_true rfl⟩⟩
def bk_crs (b : Nat) : Prop := bk_is lyC b (.inr (.inl (1, [some (b + 1), some (b + 2), some (b + 3), some (b + 4), some (b + 5), some (b + 6), some (b + 7), some (b + 8), some (b + 9), some (b + 10), some (b + 11), none]))) ∧ bk_is lyC (b + 1) (.inl (0, 8)) ∧ bk_is lyC (b + 2) (.inl (0, 8)) ∧ bk_is lyC (b + 3) (.inl (0, 8)) ∧ bk_is lyC (b + 4) (.inl (0, 8)) ∧ bk_is lyC (b + 5) (.inl (0, 96)) ∧ bk_is lyC (b + 6) (.inl (0, 96)) ∧ bk_is lyC (b + 7) (.inl (0, 144)) ∧ bk_is lyC (b + 8) (.inl (0, 12)) ∧ bk_is lyC (b + 9) (.inl (0, 12)) ∧ bk_is lyC (b + 10) (.inl (0, 12)) ∧ bk_is lyC (b + 11) (.inl (0, 12))
theorem k_crs_36 : bk_crs 36 := ⟨⟨rfl, Nat.le_of_ble_eq_true rfl⟩, ⟨rfl, Nat.le_of_ble_eq_true rfl⟩, ⟨rfl, Nat.le_of_ble_eq_true rfl⟩, ⟨rfl, Nat.le_of_ble_eq_true rfl⟩, ⟨rfl, Nat.le_of_ble_eq_true rfl⟩, ⟨rfl, Nat.le_of_ble_eq_true rfl⟩, ⟨rfl, Nat.le_of_ble_eq_true rfl⟩, ⟨rfl, Nat.le_of_ble_eq_true rfl⟩, ⟨rfl, Nat.le_of_ble_eq_true rfl⟩, ⟨rfl, Nat.le_of_ble_eq_true rfl⟩, ⟨rfl, Nat.le_of_ble_eq_true rfl⟩, ⟨rfl, Nat.le_of_ble_eq_true rfl⟩⟩
theorem k_crs_48 : bk_crs 48 := ⟨⟨rfl, Nat.le_of_ble_eq_true rfl⟩, ⟨rfl, Nat.le_of_ble_eq_true rfl⟩, ⟨rfl, Nat.le_of_ble_eq_true rfl⟩, ⟨rfl, Nat.le_of_ble_eq_true rfl⟩, ⟨rfl, Nat.le_of_ble_eq_true rfl⟩, ⟨rfl, Nat.le_of_ble_eq_true rfl⟩, ⟨rfl, Nat.le_of_ble_eq_true rfl⟩, ⟨rfl, Nat.le_of_ble_eq_true rfl⟩, ⟨rfl, Nat.le_of_ble_eq_true rfl⟩, ⟨rfl, Nat.le_of_ble_eq_true rfl⟩, ⟨rfl, Nat.le_of_ble_eq_true rfl⟩, ⟨rfl, Nat.le_of_ble_eq_true rfl⟩⟩
def bk_cho (b : Nat) : Prop := bk_is lyC b (.inr (.inl (0, [none, none, none, none, none])))
theorem k_cho_60 : bk_cho 60 := ⟨rfl, Nat.le_of_ble_eq_true rfl⟩
def bk_hea (b : Nat) : Prop := bk_is lyC b (.inr (.inl (2, [none, some (b + 1)]))) ∧ bk_is lyC (b + 1) (.inl (0, 120))
theorem k_hea_61 : bk_hea 61 := ⟨⟨rfl, Nat.le_of_ble_eq_true rfl⟩, ⟨rfl, Nat.le_of_ble_eq_true rfl⟩⟩
def bk_lot (b : Nat) : Prop := bk_is lyC b (.inr (.inl (3, [none])))
theorem k_lot_63 : bk_lot 63 := ⟨rfl, Nat.le_of_ble_eq_true rfl⟩
theorem k_sht_of {x : Int32} (h : vp_in x 4) : bk_sht (14 + 2 * x.toNatClampNeg) := by
  obtain ⟨j, hj, rfl⟩ := vp_in_of h (by decide)
  rw [nI_clamp (by omega)]
  match j, hj with
  | 0, _ => exact k_sht_14
  | 1, _ => exact k_sht_16
  | 2, _ => exact k_sht_18
  | 3, _ => exact k_sht_20
theorem km_o : bk_is lyM 0 (.inr (.inl (9, [some 1, some 2, none, some 4, none, some 6, some 7, some 8, none, some 10, some 11, some 12, none, some 14, some 15, some 16, none, none, none, none, none, none, none, none, none, none, none, none, none, none, none, none, some 33, some 34, some 35, some 36, some 37, some 38, some 39, some 40, some 41, some 42, none, none, none, some 46, none, some 48, some 49, some 50, some 51, some 52, some 53, some 54, some 55, some 56, none]))) := ⟨rfl, Nat.le_of_ble_eq_true rfl⟩
theorem km_1 : bk_is lyM 1 (.inl (0, 2)) := ⟨rfl, Nat.le_of_ble_eq_true rfl⟩
theorem km_2 : bk_is lyM 2 (.inl (0, 62)) := ⟨rfl, Nat.le_of_ble_eq_true rfl⟩
theorem km_4 : bk_is lyM 4 (.inl (0, 12)) := ⟨rfl, Nat.le_of_ble_eq_true rfl⟩
theorem km_6 : bk_is lyM 6 (.inl (0, 9)) := ⟨rfl, Nat.le_of_ble_eq_true rfl⟩
theorem km_7 : bk_is lyM 7 (.inl (0, 9)) := ⟨rfl, Nat.le_of_ble_eq_true rfl⟩
theorem km_8 : bk_is lyM 8 (.inl (0, 9)) := ⟨rfl, Nat.le_of_ble_eq_true rfl⟩
theorem km_10 : bk_is lyM 10 (.inl (0, 8)) := ⟨rfl, Nat.le_of_ble_eq_true rfl⟩
theorem km_11 : bk_is lyM 11 (.inl (0, 8)) := ⟨rfl, Nat.le_of_ble_eq_true rfl⟩
theorem km_12 : bk_is lyM 12 (.inl (0, 8)) := ⟨rfl, Nat.le_of_ble_eq_true rfl⟩
theorem km_14 : bk_is lyM 14 (.inl (0, 8)) := ⟨rfl, Nat.le_of_ble_eq_true rfl⟩
theorem km_15 : bk_is lyM 15 (.inl (0, 8)) := ⟨rfl, Nat.le_of_ble_eq_true rfl⟩
theorem km_16 : bk_is lyM 16 (.inl (0, 8)) := ⟨rfl, Nat.le_of_ble_eq_true rfl⟩
theorem km_33 : bk_is lyM 33 (.inl (0, 8)) := ⟨rfl, Nat.le_of_ble_eq_true rfl⟩
theorem km_34 : bk_is lyM 34 (.inl (0, 8)) := ⟨rfl, Nat.le_of_ble_eq_true rfl⟩
theorem km_35 : bk_is lyM 35 (.inl (0, 8)) := ⟨rfl, Nat.le_of_ble_eq_true rfl⟩
theorem km_36 : bk_is lyM 36 (.inl (0, 8)) := ⟨rfl, Nat.le_of_ble_eq_true rfl⟩
theorem km_37 : bk_is lyM 37 (.inl (0, 8)) := ⟨rfl, Nat.le_of_ble_eq_true rfl⟩
theorem km_38 : bk_is lyM 38 (.inl (0, 96)) := ⟨rfl, Nat.le_of_ble_eq_true rfl⟩
theorem km_39 : bk_is lyM 39 (.inl (0, 96)) := ⟨rfl, Nat.le_of_ble_eq_true rfl⟩
theorem km_40 : bk_is lyM 40 (.inl (0, 144)) := ⟨rfl, Nat.le_of_ble_eq_true rfl⟩
theorem km_41 : bk_is lyM 41 (.inl (0, 48)) := ⟨rfl, Nat.le_of_ble_eq_true rfl⟩
theorem km_42 : bk_is lyM 42 (.inl (0, 12)) := ⟨rfl, Nat.le_of_ble_eq_true rfl⟩
theorem km_46 : bk_is lyM 46 (.inl (0, 2)) := ⟨rfl, Nat.le_of_ble_eq_true rfl⟩
theorem km_48 : bk_is lyM 48 (.inl (0, 8)) := ⟨rfl, Nat.le_of_ble_eq_true rfl⟩
theorem km_49 : bk_is lyM 49 (.inl (0, 8)) := ⟨rfl, Nat.le_of_ble_eq_true rfl⟩
theorem km_50 : bk_is lyM 50 (.inl (0, 8)) := ⟨rfl, Nat.le_of_ble_eq_true rfl⟩
theorem km_51 : bk_is lyM 51 (.inl (0, 120)) := ⟨rfl, Nat.le_of_ble_eq_true rfl⟩
theorem km_52 : bk_is lyM 52 (.inl (1, 4)) := ⟨rfl, Nat.le_of_ble_eq_true rfl⟩
theorem km_53 : bk_is lyM 53 (.inl (0, 4)) := ⟨rfl, Nat.le_of_ble_eq_true rfl⟩
theorem km_54 : bk_is lyM 54 (.inl (0, 4)) := ⟨rfl, Nat.le_of_ble_eq_true rfl⟩
theorem km_55 : bk_is lyM 55 (.inl (0, 240)) := ⟨rfl, Nat.le_of_ble_eq_true rfl⟩
theorem km_56 : bk_is lyM 56 (.inl (0, 60)) := ⟨rfl, Nat.le_of_ble_eq_true rfl⟩
end
section
theorem inX0 : ∀ w ∈ u_ws RX0 TX0 5, w ∈ lw_good := by decide +kernel
theorem inX1 : ∀ w ∈ u_ws RX1 TX1 12, w ∈ lw_good := by decide +kernel
theorem inX2 : ∀ w ∈ u_ws RX2 TX2 2, w ∈ lw_good := by decide +kernel
theorem inX3 : ∀ w ∈ u_ws RX3 TX3 1, w ∈ lw_good := by decide +kernel
theorem inX4 : ∀ w ∈ u_ws RX4 TX4 8, w ∈ lw_good := by decide +kernel
theorem inX5 : ∀ w ∈ u_ws RX5 TX5 3, w ∈ lw_good := by decide +kernel
theorem inX6 : ∀ w ∈ u_ws RX6 TX6 3, w ∈ lw_good := by decide +kernel
theorem inX7 : ∀ w ∈ u_ws RX7 TX7 4, w ∈ lw_good := by decide +kernel
theorem inX8 : ∀ w ∈ u_ws RX8 TX8 16, w ∈ lw_good := by decide +kernel
theorem inX9 : ∀ w ∈ u_ws RX9 TX9 57, w ∈ lw_good := by decide +kernel
theorem fl_X6_9 : bk_Fl RX6 9 6 0 := ⟨RX6, TX6, 3, rfl, inX6, by decide, bk_in 121 (by decide +kernel) rfl⟩
theorem fl_X4_46 : bk_Fl RX4 46 6 0 := ⟨RX6, TX6, 3, rfl, inX6, by decide, bk_in 122 (by decide +kernel) rfl⟩
theorem fl_X8_108 : bk_Fl RX8 108 6 0 := ⟨RX6, TX6, 3, rfl, inX6, by decide, bk_in 123 (by decide +kernel) rfl⟩
theorem fl_X6_25 : bk_Fl RX6 25 6 1 := ⟨RX6, TX6, 3, rfl, inX6, by decide, bk_in 124 (by decide +kernel) rfl⟩
theorem fl_X8_105 : bk_Fl RX8 105 6 1 := ⟨RX6, TX6, 3, rfl, inX6, by decide, bk_in 125 (by decide +kernel) rfl⟩
theorem fl_X6_15 : bk_Fl RX6 15 6 2 := ⟨RX6, TX6, 3, rfl, inX6, by decide, bk_in 126 (by decide +kernel) rfl⟩
theorem fp_X6_15 : bk_Fp RX6 15 6 2 .int := ⟨RX6, TX6, 3, tyX6, rfl, inX6, by decide, bk_in 126 (by decide +kernel) rfl, tyX6_ok, nmX6, rfl, by decide +kernel⟩
theorem fl_X4_43 : bk_Fl RX4 43 6 2 := ⟨RX6, TX6, 3, rfl, inX6, by decide, bk_in 127 (by decide +kernel) rfl⟩
theorem fl_X8_102 : bk_Fl RX8 102 6 2 := ⟨RX6, TX6, 3, rfl, inX6, by decide, bk_in 128 (by decide +kernel) rfl⟩
theorem fp_X8_102 : bk_Fp RX8 102 6 2 .int := ⟨RX6, TX6, 3, tyX6, rfl, inX6, by decide, bk_in 128 (by decide +kernel) rfl, tyX6_ok, nmX6, rfl, by decide +kernel⟩
theorem fl_X7_9 : bk_Fl RX7 9 7 0 := ⟨RX7, TX7, 4, rfl, inX7, by decide, bk_in 143 (by decide +kernel) rfl⟩
theorem fl_X4_70 : bk_Fl RX4 70 7 0 := ⟨RX7, TX7, 4, rfl, inX7, by decide, bk_in 144 (by decide +kernel) rfl⟩
theorem fl_X8_378 : bk_Fl RX8 378 7 0 := ⟨RX7, TX7, 4, rfl, inX7, by decide, bk_in 145 (by decide +kernel) rfl⟩
theorem fl_X7_15 : bk_Fl RX7 15 7 1 := ⟨RX7, TX7, 4, rfl, inX7, by decide, bk_in 146 (by decide +kernel) rfl⟩
theorem fl_X4_73 : bk_Fl RX4 73 7 1 := ⟨RX7, TX7, 4, rfl, inX7, by decide, bk_in 147 (by decide +kernel) rfl⟩
theorem fl_X8_381 : bk_Fl RX8 381 7 1 := ⟨RX7, TX7, 4, rfl, inX7, by decide, bk_in 148 (by decide +kernel) rfl⟩
theorem fl_X7_18 : bk_Fl RX7 18 7 2 := ⟨RX7, TX7, 4, rfl, inX7, by decide, bk_in 149 (by decide +kernel) rfl⟩
theorem fl_X4_76 : bk_Fl RX4 76 7 2 := ⟨RX7, TX7, 4, rfl, inX7, by decide, bk_in 150 (by decide +kernel) rfl⟩
theorem fl_X8_384 : bk_Fl RX8 384 7 2 := ⟨RX7, TX7, 4, rfl, inX7, by decide, bk_in 151 (by decide +kernel) rfl⟩
theorem fl_X7_21 : bk_Fl RX7 21 7 3 := ⟨RX7, TX7, 4, rfl, inX7, by decide, bk_in 152 (by decide +kernel) rfl⟩
theorem fp_X7_21 : bk_Fp RX7 21 7 3 .int := ⟨RX7, TX7, 4, tyX7, rfl, inX7, by decide, bk_in 152 (by decide +kernel) rfl, tyX7_ok, nmX7, rfl, by decide +kernel⟩
theorem fl_X4_65 : bk_Fl RX4 65 7 3 := ⟨RX7, TX7, 4, rfl, inX7, by decide, bk_in 153 (by decide +kernel) rfl⟩
theorem fl_X8_158 : bk_Fl RX8 158 7 3 := ⟨RX7, TX7, 4, rfl, inX7, by decide, bk_in 154 (by decide +kernel) rfl⟩
theorem fp_X8_158 : bk_Fp RX8 158 7 3 .int := ⟨RX7, TX7, 4, tyX7, rfl, inX7, by decide, bk_in 154 (by decide +kernel) rfl, tyX7_ok, nmX7, rfl, by decide +kernel⟩
theorem fl_X4_9 : bk_Fl RX4 9 4 0 := ⟨RX4, TX4, 8, rfl, inX4, by decide, bk_in 172 (by decide +kernel) rfl⟩
theorem fp_X4_9 : bk_Fp RX4 9 4 0 .int := ⟨RX4, TX4, 8, tyX4, rfl, inX4, by decide, bk_in 172 (by decide +kernel) rfl, tyX4_ok, nmX4, rfl, by decide +kernel⟩
theorem fl_X1_87 : bk_Fl RX1 87 4 0 := ⟨RX4, TX4, 8, rfl, inX4, by decide, bk_in 173 (by decide +kernel) rfl⟩
theorem fl_X8_297 : bk_Fl RX8 297 4 0 := ⟨RX4, TX4, 8, rfl, inX4, by decide, bk_in 174 (by decide +kernel) rfl⟩
theorem fp_X8_297 : bk_Fp RX8 297 4 0 .int := ⟨RX4, TX4, 8, tyX4, rfl, inX4, by decide, bk_in 174 (by decide +kernel) rfl, tyX4_ok, nmX4, rfl, by decide +kernel⟩
theorem fl_X4_15 : bk_Fl RX4 15 4 1 := ⟨RX4, TX4, 8, rfl, inX4, by decide, bk_in 175 (by decide +kernel) rfl⟩
theorem fp_X4_15 : bk_Fp RX4 15 4 1 .int := ⟨RX4, TX4, 8, tyX4, rfl, inX4, by decide, bk_in 175 (by decide +kernel) rfl, tyX4_ok, nmX4, rfl, by decide +kernel⟩
theorem fl_X1_53 : bk_Fl RX1 53 4 1 := ⟨RX4, TX4, 8, rfl, inX4, by decide, bk_in 176 (by decide +kernel) rfl⟩
theorem fl_X8_305 : bk_Fl RX8 305 4 1 := ⟨RX4, TX4, 8, rfl, inX4, by decide, bk_in 177 (by decide +kernel) rfl⟩
theorem fp_X8_305 : bk_Fp RX8 305 4 1 .int := ⟨RX4, TX4, 8, tyX4, rfl, inX4, by decide, bk_in 177 (by decide +kernel) rfl, tyX4_ok, nmX4, rfl, by decide +kernel⟩
theorem fl_X4_18 : bk_Fl RX4 18 4 2 := ⟨RX4, TX4, 8, rfl, inX4, by decide, bk_in 178 (by decide +kernel) rfl⟩
theorem fl_X1_94 : bk_Fl RX1 94 4 2 := ⟨RX4, TX4, 8, rfl, inX4, by decide, bk_in 179 (by decide +kernel) rfl⟩
theorem fl_X8_127 : bk_Fl RX8 127 4 2 := ⟨RX4, TX4, 8, rfl, inX4, by decide, bk_in 180 (by decide +kernel) rfl⟩
theorem fl_X4_22 : bk_Fl RX4 22 4 3 := ⟨RX4, TX4, 8, rfl, inX4, by decide, bk_in 181 (by decide +kernel) rfl⟩
theorem fl_X8_137 : bk_Fl RX8 137 4 3 := ⟨RX4, TX4, 8, rfl, inX4, by decide, bk_in 182 (by decide +kernel) rfl⟩
theorem fl_X1_104 : bk_Fl RX1 104 4 3 := ⟨RX4, TX4, 8, rfl, inX4, by decide, bk_in 183 (by decide +kernel) rfl⟩
theorem fl_X4_25 : bk_Fl RX4 25 4 4 := ⟨RX4, TX4, 8, rfl, inX4, by decide, bk_in 184 (by decide +kernel) rfl⟩
theorem fl_X1_75 : bk_Fl RX1 75 4 4 := ⟨RX4, TX4, 8, rfl, inX4, by decide, bk_in 185 (by decide +kernel) rfl⟩
theorem fl_X8_140 : bk_Fl RX8 140 4 4 := ⟨RX4, TX4, 8, rfl, inX4, by decide, bk_in 186 (by decide +kernel) rfl⟩
theorem fl_X4_28 : bk_Fl RX4 28 4 5 := ⟨RX4, TX4, 8, rfl, inX4, by decide, bk_in 187 (by decide +kernel) rfl⟩
theorem fl_X8_143 : bk_Fl RX8 143 4 5 := ⟨RX4, TX4, 8, rfl, inX4, by decide, bk_in 188 (by decide +kernel) rfl⟩
theorem fl_X1_111 : bk_Fl RX1 111 4 5 := ⟨RX4, TX4, 8, rfl, inX4, by decide, bk_in 189 (by decide +kernel) rfl⟩
theorem fl_X4_31 : bk_Fl RX4 31 4 6 := ⟨RX4, TX4, 8, rfl, inX4, by decide, bk_in 190 (by decide +kernel) rfl⟩
theorem fl_X1_84 : bk_Fl RX1 84 4 6 := ⟨RX4, TX4, 8, rfl, inX4, by decide, bk_in 191 (by decide +kernel) rfl⟩
theorem fl_X8_372 : bk_Fl RX8 372 4 6 := ⟨RX4, TX4, 8, rfl, inX4, by decide, bk_in 192 (by decide +kernel) rfl⟩
theorem fl_X4_34 : bk_Fl RX4 34 4 7 := ⟨RX4, TX4, 8, rfl, inX4, by decide, bk_in 193 (by decide +kernel) rfl⟩
theorem fl_X1_62 : bk_Fl RX1 62 4 7 := ⟨RX4, TX4, 8, rfl, inX4, by decide, bk_in 194 (by decide +kernel) rfl⟩
theorem fl_X1_9 : bk_Fl RX1 9 1 0 := ⟨RX1, TX1, 12, rfl, inX1, by decide, bk_in 218 (by decide +kernel) rfl⟩
theorem fl_X1_15 : bk_Fl RX1 15 1 1 := ⟨RX1, TX1, 12, rfl, inX1, by decide, bk_in 219 (by decide +kernel) rfl⟩
theorem fl_X8_195 : bk_Fl RX8 195 1 1 := ⟨RX1, TX1, 12, rfl, inX1, by decide, bk_in 220 (by decide +kernel) rfl⟩
theorem fl_X1_18 : bk_Fl RX1 18 1 2 := ⟨RX1, TX1, 12, rfl, inX1, by decide, bk_in 221 (by decide +kernel) rfl⟩
theorem fl_X8_210 : bk_Fl RX8 210 1 2 := ⟨RX1, TX1, 12, rfl, inX1, by decide, bk_in 222 (by decide +kernel) rfl⟩
theorem fl_X1_21 : bk_Fl RX1 21 1 3 := ⟨RX1, TX1, 12, rfl, inX1, by decide, bk_in 223 (by decide +kernel) rfl⟩
theorem fl_X1_24 : bk_Fl RX1 24 1 4 := ⟨RX1, TX1, 12, rfl, inX1, by decide, bk_in 224 (by decide +kernel) rfl⟩
theorem fl_X8_182 : bk_Fl RX8 182 1 4 := ⟨RX1, TX1, 12, rfl, inX1, by decide, bk_in 225 (by decide +kernel) rfl⟩
theorem fl_X1_27 : bk_Fl RX1 27 1 5 := ⟨RX1, TX1, 12, rfl, inX1, by decide, bk_in 226 (by decide +kernel) rfl⟩
theorem fl_X8_185 : bk_Fl RX8 185 1 5 := ⟨RX1, TX1, 12, rfl, inX1, by decide, bk_in 227 (by decide +kernel) rfl⟩
theorem fl_X1_30 : bk_Fl RX1 30 1 6 := ⟨RX1, TX1, 12, rfl, inX1, by decide, bk_in 228 (by decide +kernel) rfl⟩
theorem fl_X8_188 : bk_Fl RX8 188 1 6 := ⟨RX1, TX1, 12, rfl, inX1, by decide, bk_in 229 (by decide +kernel) rfl⟩
theorem fl_X1_33 : bk_Fl RX1 33 1 7 := ⟨RX1, TX1, 12, rfl, inX1, by decide, bk_in 230 (by decide +kernel) rfl⟩
theorem fl_X1_36 : bk_Fl RX1 36 1 8 := ⟨RX1, TX1, 12, rfl, inX1, by decide, bk_in 231 (by decide +kernel) rfl⟩
theorem fl_X8_268 : bk_Fl RX8 268 1 8 := ⟨RX1, TX1, 12, rfl, inX1, by decide, bk_in 232 (by decide +kernel) rfl⟩
theorem fl_X1_39 : bk_Fl RX1 39 1 9 := ⟨RX1, TX1, 12, rfl, inX1, by decide, bk_in 233 (by decide +kernel) rfl⟩
theorem fl_X1_42 : bk_Fl RX1 42 1 10 := ⟨RX1, TX1, 12, rfl, inX1, by decide, bk_in 234 (by decide +kernel) rfl⟩
theorem fl_X1_45 : bk_Fl RX1 45 1 11 := ⟨RX1, TX1, 12, rfl, inX1, by decide, bk_in 235 (by decide +kernel) rfl⟩
theorem fp_X1_45 : bk_Fp RX1 45 1 11 .int := ⟨RX1, TX1, 12, tyX1, rfl, inX1, by decide, bk_in 235 (by decide +kernel) rfl, tyX1_ok, nmX1, rfl, by decide +kernel⟩
theorem fl_X8_265 : bk_Fl RX8 265 1 11 := ⟨RX1, TX1, 12, rfl, inX1, by decide, bk_in 236 (by decide +kernel) rfl⟩
theorem fl_X0_9 : bk_Fl RX0 9 0 0 := ⟨RX0, TX0, 5, rfl, inX0, by decide, bk_in 268 (by decide +kernel) rfl⟩
theorem fp_X0_9 : bk_Fp RX0 9 0 0 .boolean := ⟨RX0, TX0, 5, tyX0, rfl, inX0, by decide, bk_in 268 (by decide +kernel) rfl, tyX0_ok, nmX0, rfl, by decide +kernel⟩
theorem fl_X0_15 : bk_Fl RX0 15 0 1 := ⟨RX0, TX0, 5, rfl, inX0, by decide, bk_in 269 (by decide +kernel) rfl⟩
theorem fp_X0_15 : bk_Fp RX0 15 0 1 .int := ⟨RX0, TX0, 5, tyX0, rfl, inX0, by decide, bk_in 269 (by decide +kernel) rfl, tyX0_ok, nmX0, rfl, by decide +kernel⟩
theorem fl_X0_19 : bk_Fl RX0 19 0 2 := ⟨RX0, TX0, 5, rfl, inX0, by decide, bk_in 270 (by decide +kernel) rfl⟩
theorem fp_X0_19 : bk_Fp RX0 19 0 2 .int := ⟨RX0, TX0, 5, tyX0, rfl, inX0, by decide, bk_in 270 (by decide +kernel) rfl, tyX0_ok, nmX0, rfl, by decide +kernel⟩
theorem fl_X0_22 : bk_Fl RX0 22 0 3 := ⟨RX0, TX0, 5, rfl, inX0, by decide, bk_in 271 (by decide +kernel) rfl⟩
theorem fp_X0_22 : bk_Fp RX0 22 0 3 .int := ⟨RX0, TX0, 5, tyX0, rfl, inX0, by decide, bk_in 271 (by decide +kernel) rfl, tyX0_ok, nmX0, rfl, by decide +kernel⟩
theorem fl_X0_25 : bk_Fl RX0 25 0 4 := ⟨RX0, TX0, 5, rfl, inX0, by decide, bk_in 272 (by decide +kernel) rfl⟩
theorem fp_X0_25 : bk_Fp RX0 25 0 4 .int := ⟨RX0, TX0, 5, tyX0, rfl, inX0, by decide, bk_in 272 (by decide +kernel) rfl, tyX0_ok, nmX0, rfl, by decide +kernel⟩
theorem fl_X2_9 : bk_Fl RX2 9 2 0 := ⟨RX2, TX2, 2, rfl, inX2, by decide, bk_in 290 (by decide +kernel) rfl⟩
theorem fp_X2_9 : bk_Fp RX2 9 2 0 .int := ⟨RX2, TX2, 2, tyX2, rfl, inX2, by decide, bk_in 290 (by decide +kernel) rfl, tyX2_ok, nmX2, rfl, by decide +kernel⟩
theorem fl_X8_249 : bk_Fl RX8 249 2 0 := ⟨RX2, TX2, 2, rfl, inX2, by decide, bk_in 291 (by decide +kernel) rfl⟩
theorem fp_X8_249 : bk_Fp RX8 249 2 0 .int := ⟨RX2, TX2, 2, tyX2, rfl, inX2, by decide, bk_in 291 (by decide +kernel) rfl, tyX2_ok, nmX2, rfl, by decide +kernel⟩
theorem fl_X2_15 : bk_Fl RX2 15 2 1 := ⟨RX2, TX2, 2, rfl, inX2, by decide, bk_in 292 (by decide +kernel) rfl⟩
theorem fl_X8_387 : bk_Fl RX8 387 2 1 := ⟨RX2, TX2, 2, rfl, inX2, by decide, bk_in 293 (by decide +kernel) rfl⟩
theorem fl_X3_7 : bk_Fl RX3 7 3 0 := ⟨RX3, TX3, 1, rfl, inX3, by decide, bk_in 305 (by decide +kernel) rfl⟩
theorem fp_X3_7 : bk_Fp RX3 7 3 0 .int := ⟨RX3, TX3, 1, tyX3, rfl, inX3, by decide, bk_in 305 (by decide +kernel) rfl, tyX3_ok, nmX3, rfl, by decide +kernel⟩
theorem fl_X8_394 : bk_Fl RX8 394 3 0 := ⟨RX3, TX3, 1, rfl, inX3, by decide, bk_in 306 (by decide +kernel) rfl⟩
theorem fp_X8_394 : bk_Fp RX8 394 3 0 .int := ⟨RX3, TX3, 1, tyX3, rfl, inX3, by decide, bk_in 306 (by decide +kernel) rfl, tyX3_ok, nmX3, rfl, by decide +kernel⟩
theorem fl_X5_9 : bk_Fl RX5 9 5 0 := ⟨RX5, TX5, 3, rfl, inX5, by decide, bk_in 315 (by decide +kernel) rfl⟩
theorem fp_X5_9 : bk_Fp RX5 9 5 0 .int := ⟨RX5, TX5, 3, tyX5, rfl, inX5, by decide, bk_in 315 (by decide +kernel) rfl, tyX5_ok, nmX5, rfl, by decide +kernel⟩
theorem fl_X8_285 : bk_Fl RX8 285 5 0 := ⟨RX5, TX5, 3, rfl, inX5, by decide, bk_in 316 (by decide +kernel) rfl⟩
theorem fl_X5_15 : bk_Fl RX5 15 5 1 := ⟨RX5, TX5, 3, rfl, inX5, by decide, bk_in 317 (by decide +kernel) rfl⟩
theorem fp_X5_15 : bk_Fp RX5 15 5 1 .int := ⟨RX5, TX5, 3, tyX5, rfl, inX5, by decide, bk_in 317 (by decide +kernel) rfl, tyX5_ok, nmX5, rfl, by decide +kernel⟩
theorem fl_X8_171 : bk_Fl RX8 171 5 1 := ⟨RX5, TX5, 3, rfl, inX5, by decide, bk_in 318 (by decide +kernel) rfl⟩
theorem fp_X8_171 : bk_Fp RX8 171 5 1 .int := ⟨RX5, TX5, 3, tyX5, rfl, inX5, by decide, bk_in 318 (by decide +kernel) rfl, tyX5_ok, nmX5, rfl, by decide +kernel⟩
theorem fl_X5_18 : bk_Fl RX5 18 5 2 := ⟨RX5, TX5, 3, rfl, inX5, by decide, bk_in 319 (by decide +kernel) rfl⟩
theorem fl_X8_172 : bk_Fl RX8 172 5 2 := ⟨RX5, TX5, 3, rfl, inX5, by decide, bk_in 320 (by decide +kernel) rfl⟩
theorem fl_X8_14 : bk_Fl RX8 14 8 0 := ⟨RX8, TX8, 16, rfl, inX8, by decide, bk_in 328 (by decide +kernel) rfl⟩
theorem fl_X8_18 : bk_Fl RX8 18 8 1 := ⟨RX8, TX8, 16, rfl, inX8, by decide, bk_in 329 (by decide +kernel) rfl⟩
theorem fl_X8_24 : bk_Fl RX8 24 8 2 := ⟨RX8, TX8, 16, rfl, inX8, by decide, bk_in 330 (by decide +kernel) rfl⟩
theorem fl_X8_28 : bk_Fl RX8 28 8 3 := ⟨RX8, TX8, 16, rfl, inX8, by decide, bk_in 331 (by decide +kernel) rfl⟩
theorem fl_X8_33 : bk_Fl RX8 33 8 4 := ⟨RX8, TX8, 16, rfl, inX8, by decide, bk_in 332 (by decide +kernel) rfl⟩
theorem fl_X8_40 : bk_Fl RX8 40 8 5 := ⟨RX8, TX8, 16, rfl, inX8, by decide, bk_in 333 (by decide +kernel) rfl⟩
theorem fl_X8_44 : bk_Fl RX8 44 8 6 := ⟨RX8, TX8, 16, rfl, inX8, by decide, bk_in 334 (by decide +kernel) rfl⟩
theorem fl_X8_50 : bk_Fl RX8 50 8 7 := ⟨RX8, TX8, 16, rfl, inX8, by decide, bk_in 335 (by decide +kernel) rfl⟩
theorem fl_X8_54 : bk_Fl RX8 54 8 8 := ⟨RX8, TX8, 16, rfl, inX8, by decide, bk_in 336 (by decide +kernel) rfl⟩
theorem fl_X8_60 : bk_Fl RX8 60 8 9 := ⟨RX8, TX8, 16, rfl, inX8, by decide, bk_in 337 (by decide +kernel) rfl⟩
theorem fl_X8_67 : bk_Fl RX8 67 8 10 := ⟨RX8, TX8, 16, rfl, inX8, by decide, bk_in 338 (by decide +kernel) rfl⟩
theorem fl_X8_74 : bk_Fl RX8 74 8 11 := ⟨RX8, TX8, 16, rfl, inX8, by decide, bk_in 339 (by decide +kernel) rfl⟩
theorem fl_X8_78 : bk_Fl RX8 78 8 12 := ⟨RX8, TX8, 16, rfl, inX8, by decide, bk_in 340 (by decide +kernel) rfl⟩
theorem fl_X8_82 : bk_Fl RX8 82 8 13 := ⟨RX8, TX8, 16, rfl, inX8, by decide, bk_in 341 (by decide +kernel) rfl⟩
theorem fp_X8_82 : bk_Fp RX8 82 8 13 .boolean := ⟨RX8, TX8, 16, tyX8, rfl, inX8, by decide, bk_in 341 (by decide +kernel) rfl, tyX8_ok, nmX8, rfl, by decide +kernel⟩
theorem fl_X8_86 : bk_Fl RX8 86 8 14 := ⟨RX8, TX8, 16, rfl, inX8, by decide, bk_in 342 (by decide +kernel) rfl⟩
theorem fp_X8_86 : bk_Fp RX8 86 8 14 .boolean := ⟨RX8, TX8, 16, tyX8, rfl, inX8, by decide, bk_in 342 (by decide +kernel) rfl, tyX8_ok, nmX8, rfl, by decide +kernel⟩
theorem fl_X8_89 : bk_Fl RX8 89 8 15 := ⟨RX8, TX8, 16, rfl, inX8, by decide, bk_in 343 (by decide +kernel) rfl⟩
theorem fp_X8_89 : bk_Fp RX8 89 8 15 .int := ⟨RX8, TX8, 16, tyX8, rfl, inX8, by decide, bk_in 343 (by decide +kernel) rfl, tyX8_ok, nmX8, rfl, by decide +kernel⟩
theorem fl_X9_7 : bk_Fl RX9 7 9 0 := ⟨RX9, TX9, 57, rfl, inX9, by decide, bk_in 848 (by decide +kernel) rfl⟩
theorem fl_X9_13 : bk_Fl RX9 13 9 1 := ⟨RX9, TX9, 57, rfl, inX9, by decide, bk_in 849 (by decide +kernel) rfl⟩
theorem fl_X9_117 : bk_Fl RX9 117 9 2 := ⟨RX9, TX9, 57, rfl, inX9, by decide, bk_in 850 (by decide +kernel) rfl⟩
theorem fp_X9_117 : bk_Fp RX9 117 9 2 .int := ⟨RX9, TX9, 57, tyX9, rfl, inX9, by decide, bk_in 850 (by decide +kernel) rfl, tyX9_ok, nmX9, rfl, by decide +kernel⟩
theorem fl_X9_16 : bk_Fl RX9 16 9 3 := ⟨RX9, TX9, 57, rfl, inX9, by decide, bk_in 851 (by decide +kernel) rfl⟩
theorem fl_X9_125 : bk_Fl RX9 125 9 4 := ⟨RX9, TX9, 57, rfl, inX9, by decide, bk_in 852 (by decide +kernel) rfl⟩
theorem fp_X9_125 : bk_Fp RX9 125 9 4 .int := ⟨RX9, TX9, 57, tyX9, rfl, inX9, by decide, bk_in 852 (by decide +kernel) rfl, tyX9_ok, nmX9, rfl, by decide +kernel⟩
theorem fl_X9_19 : bk_Fl RX9 19 9 5 := ⟨RX9, TX9, 57, rfl, inX9, by decide, bk_in 853 (by decide +kernel) rfl⟩
theorem fl_X9_22 : bk_Fl RX9 22 9 6 := ⟨RX9, TX9, 57, rfl, inX9, by decide, bk_in 854 (by decide +kernel) rfl⟩
theorem fl_X9_25 : bk_Fl RX9 25 9 7 := ⟨RX9, TX9, 57, rfl, inX9, by decide, bk_in 855 (by decide +kernel) rfl⟩
theorem fl_X9_160 : bk_Fl RX9 160 9 8 := ⟨RX9, TX9, 57, rfl, inX9, by decide, bk_in 856 (by decide +kernel) rfl⟩
theorem fp_X9_160 : bk_Fp RX9 160 9 8 .int := ⟨RX9, TX9, 57, tyX9, rfl, inX9, by decide, bk_in 856 (by decide +kernel) rfl, tyX9_ok, nmX9, rfl, by decide +kernel⟩
theorem fl_X9_28 : bk_Fl RX9 28 9 9 := ⟨RX9, TX9, 57, rfl, inX9, by decide, bk_in 857 (by decide +kernel) rfl⟩
theorem fl_X9_31 : bk_Fl RX9 31 9 10 := ⟨RX9, TX9, 57, rfl, inX9, by decide, bk_in 858 (by decide +kernel) rfl⟩
theorem fl_X9_34 : bk_Fl RX9 34 9 11 := ⟨RX9, TX9, 57, rfl, inX9, by decide, bk_in 859 (by decide +kernel) rfl⟩
theorem fl_X9_173 : bk_Fl RX9 173 9 12 := ⟨RX9, TX9, 57, rfl, inX9, by decide, bk_in 860 (by decide +kernel) rfl⟩
theorem fp_X9_173 : bk_Fp RX9 173 9 12 .int := ⟨RX9, TX9, 57, tyX9, rfl, inX9, by decide, bk_in 860 (by decide +kernel) rfl, tyX9_ok, nmX9, rfl, by decide +kernel⟩
theorem fl_X9_37 : bk_Fl RX9 37 9 13 := ⟨RX9, TX9, 57, rfl, inX9, by decide, bk_in 861 (by decide +kernel) rfl⟩
theorem fl_X9_40 : bk_Fl RX9 40 9 14 := ⟨RX9, TX9, 57, rfl, inX9, by decide, bk_in 862 (by decide +kernel) rfl⟩
theorem fl_X9_43 : bk_Fl RX9 43 9 15 := ⟨RX9, TX9, 57, rfl, inX9, by decide, bk_in 863 (by decide +kernel) rfl⟩
theorem fl_X9_176 : bk_Fl RX9 176 9 16 := ⟨RX9, TX9, 57, rfl, inX9, by decide, bk_in 864 (by decide +kernel) rfl⟩
theorem fp_X9_176 : bk_Fp RX9 176 9 16 .int := ⟨RX9, TX9, 57, tyX9, rfl, inX9, by decide, bk_in 864 (by decide +kernel) rfl, tyX9_ok, nmX9, rfl, by decide +kernel⟩
theorem fl_X9_179 : bk_Fl RX9 179 9 17 := ⟨RX9, TX9, 57, rfl, inX9, by decide, bk_in 865 (by decide +kernel) rfl⟩
theorem fp_X9_179 : bk_Fp RX9 179 9 17 .int := ⟨RX9, TX9, 57, tyX9, rfl, inX9, by decide, bk_in 865 (by decide +kernel) rfl, tyX9_ok, nmX9, rfl, by decide +kernel⟩
theorem fl_X9_182 : bk_Fl RX9 182 9 18 := ⟨RX9, TX9, 57, rfl, inX9, by decide, bk_in 866 (by decide +kernel) rfl⟩
theorem fp_X9_182 : bk_Fp RX9 182 9 18 .int := ⟨RX9, TX9, 57, tyX9, rfl, inX9, by decide, bk_in 866 (by decide +kernel) rfl, tyX9_ok, nmX9, rfl, by decide +kernel⟩
theorem fl_X9_185 : bk_Fl RX9 185 9 19 := ⟨RX9, TX9, 57, rfl, inX9, by decide, bk_in 867 (by decide +kernel) rfl⟩
theorem fp_X9_185 : bk_Fp RX9 185 9 19 .int := ⟨RX9, TX9, 57, tyX9, rfl, inX9, by decide, bk_in 867 (by decide +kernel) rfl, tyX9_ok, nmX9, rfl, by decide +kernel⟩
theorem fl_X9_188 : bk_Fl RX9 188 9 20 := ⟨RX9, TX9, 57, rfl, inX9, by decide, bk_in 868 (by decide +kernel) rfl⟩
theorem fp_X9_188 : bk_Fp RX9 188 9 20 .int := ⟨RX9, TX9, 57, tyX9, rfl, inX9, by decide, bk_in 868 (by decide +kernel) rfl, tyX9_ok, nmX9, rfl, by decide +kernel⟩
theorem fl_X9_191 : bk_Fl RX9 191 9 21 := ⟨RX9, TX9, 57, rfl, inX9, by decide, bk_in 869 (by decide +kernel) rfl⟩
theorem fp_X9_191 : bk_Fp RX9 191 9 21 .int := ⟨RX9, TX9, 57, tyX9, rfl, inX9, by decide, bk_in 869 (by decide +kernel) rfl, tyX9_ok, nmX9, rfl, by decide +kernel⟩
theorem fl_X9_194 : bk_Fl RX9 194 9 22 := ⟨RX9, TX9, 57, rfl, inX9, by decide, bk_in 870 (by decide +kernel) rfl⟩
theorem fp_X9_194 : bk_Fp RX9 194 9 22 .int := ⟨RX9, TX9, 57, tyX9, rfl, inX9, by decide, bk_in 870 (by decide +kernel) rfl, tyX9_ok, nmX9, rfl, by decide +kernel⟩
theorem fl_X9_219 : bk_Fl RX9 219 9 23 := ⟨RX9, TX9, 57, rfl, inX9, by decide, bk_in 871 (by decide +kernel) rfl⟩
theorem fp_X9_219 : bk_Fp RX9 219 9 23 .int := ⟨RX9, TX9, 57, tyX9, rfl, inX9, by decide, bk_in 871 (by decide +kernel) rfl, tyX9_ok, nmX9, rfl, by decide +kernel⟩
theorem fl_X9_216 : bk_Fl RX9 216 9 24 := ⟨RX9, TX9, 57, rfl, inX9, by decide, bk_in 872 (by decide +kernel) rfl⟩
theorem fp_X9_216 : bk_Fp RX9 216 9 24 .int := ⟨RX9, TX9, 57, tyX9, rfl, inX9, by decide, bk_in 872 (by decide +kernel) rfl, tyX9_ok, nmX9, rfl, by decide +kernel⟩
theorem fl_X9_207 : bk_Fl RX9 207 9 25 := ⟨RX9, TX9, 57, rfl, inX9, by decide, bk_in 873 (by decide +kernel) rfl⟩
theorem fp_X9_207 : bk_Fp RX9 207 9 25 .int := ⟨RX9, TX9, 57, tyX9, rfl, inX9, by decide, bk_in 873 (by decide +kernel) rfl, tyX9_ok, nmX9, rfl, by decide +kernel⟩
theorem fl_X9_210 : bk_Fl RX9 210 9 26 := ⟨RX9, TX9, 57, rfl, inX9, by decide, bk_in 874 (by decide +kernel) rfl⟩
theorem fp_X9_210 : bk_Fp RX9 210 9 26 .int := ⟨RX9, TX9, 57, tyX9, rfl, inX9, by decide, bk_in 874 (by decide +kernel) rfl, tyX9_ok, nmX9, rfl, by decide +kernel⟩
theorem fl_X9_213 : bk_Fl RX9 213 9 27 := ⟨RX9, TX9, 57, rfl, inX9, by decide, bk_in 875 (by decide +kernel) rfl⟩
theorem fp_X9_213 : bk_Fp RX9 213 9 27 .int := ⟨RX9, TX9, 57, tyX9, rfl, inX9, by decide, bk_in 875 (by decide +kernel) rfl, tyX9_ok, nmX9, rfl, by decide +kernel⟩
theorem fl_X9_243 : bk_Fl RX9 243 9 28 := ⟨RX9, TX9, 57, rfl, inX9, by decide, bk_in 876 (by decide +kernel) rfl⟩
theorem fp_X9_243 : bk_Fp RX9 243 9 28 .int := ⟨RX9, TX9, 57, tyX9, rfl, inX9, by decide, bk_in 876 (by decide +kernel) rfl, tyX9_ok, nmX9, rfl, by decide +kernel⟩
theorem fl_X9_246 : bk_Fl RX9 246 9 29 := ⟨RX9, TX9, 57, rfl, inX9, by decide, bk_in 877 (by decide +kernel) rfl⟩
theorem fp_X9_246 : bk_Fp RX9 246 9 29 .int := ⟨RX9, TX9, 57, tyX9, rfl, inX9, by decide, bk_in 877 (by decide +kernel) rfl, tyX9_ok, nmX9, rfl, by decide +kernel⟩
theorem fl_X9_249 : bk_Fl RX9 249 9 30 := ⟨RX9, TX9, 57, rfl, inX9, by decide, bk_in 878 (by decide +kernel) rfl⟩
theorem fp_X9_249 : bk_Fp RX9 249 9 30 .int := ⟨RX9, TX9, 57, tyX9, rfl, inX9, by decide, bk_in 878 (by decide +kernel) rfl, tyX9_ok, nmX9, rfl, by decide +kernel⟩
theorem fl_X9_252 : bk_Fl RX9 252 9 31 := ⟨RX9, TX9, 57, rfl, inX9, by decide, bk_in 879 (by decide +kernel) rfl⟩
theorem fp_X9_252 : bk_Fp RX9 252 9 31 .int := ⟨RX9, TX9, 57, tyX9, rfl, inX9, by decide, bk_in 879 (by decide +kernel) rfl, tyX9_ok, nmX9, rfl, by decide +kernel⟩
theorem fl_X9_46 : bk_Fl RX9 46 9 32 := ⟨RX9, TX9, 57, rfl, inX9, by decide, bk_in 880 (by decide +kernel) rfl⟩
theorem fl_X9_49 : bk_Fl RX9 49 9 33 := ⟨RX9, TX9, 57, rfl, inX9, by decide, bk_in 881 (by decide +kernel) rfl⟩
theorem fl_X9_52 : bk_Fl RX9 52 9 34 := ⟨RX9, TX9, 57, rfl, inX9, by decide, bk_in 882 (by decide +kernel) rfl⟩
theorem fl_X9_55 : bk_Fl RX9 55 9 35 := ⟨RX9, TX9, 57, rfl, inX9, by decide, bk_in 883 (by decide +kernel) rfl⟩
theorem fl_X9_58 : bk_Fl RX9 58 9 36 := ⟨RX9, TX9, 57, rfl, inX9, by decide, bk_in 884 (by decide +kernel) rfl⟩
theorem fl_X9_61 : bk_Fl RX9 61 9 37 := ⟨RX9, TX9, 57, rfl, inX9, by decide, bk_in 885 (by decide +kernel) rfl⟩
theorem fl_X9_64 : bk_Fl RX9 64 9 38 := ⟨RX9, TX9, 57, rfl, inX9, by decide, bk_in 886 (by decide +kernel) rfl⟩
theorem fl_X9_67 : bk_Fl RX9 67 9 39 := ⟨RX9, TX9, 57, rfl, inX9, by decide, bk_in 887 (by decide +kernel) rfl⟩
theorem fl_X9_70 : bk_Fl RX9 70 9 40 := ⟨RX9, TX9, 57, rfl, inX9, by decide, bk_in 888 (by decide +kernel) rfl⟩
theorem fl_X9_73 : bk_Fl RX9 73 9 41 := ⟨RX9, TX9, 57, rfl, inX9, by decide, bk_in 889 (by decide +kernel) rfl⟩
theorem fl_X9_300 : bk_Fl RX9 300 9 42 := ⟨RX9, TX9, 57, rfl, inX9, by decide, bk_in 890 (by decide +kernel) rfl⟩
theorem fp_X9_300 : bk_Fp RX9 300 9 42 .int := ⟨RX9, TX9, 57, tyX9, rfl, inX9, by decide, bk_in 890 (by decide +kernel) rfl, tyX9_ok, nmX9, rfl, by decide +kernel⟩
theorem fl_X9_303 : bk_Fl RX9 303 9 43 := ⟨RX9, TX9, 57, rfl, inX9, by decide, bk_in 891 (by decide +kernel) rfl⟩
theorem fp_X9_303 : bk_Fp RX9 303 9 43 .int := ⟨RX9, TX9, 57, tyX9, rfl, inX9, by decide, bk_in 891 (by decide +kernel) rfl, tyX9_ok, nmX9, rfl, by decide +kernel⟩
theorem fl_X9_306 : bk_Fl RX9 306 9 44 := ⟨RX9, TX9, 57, rfl, inX9, by decide, bk_in 892 (by decide +kernel) rfl⟩
theorem fp_X9_306 : bk_Fp RX9 306 9 44 .int := ⟨RX9, TX9, 57, tyX9, rfl, inX9, by decide, bk_in 892 (by decide +kernel) rfl, tyX9_ok, nmX9, rfl, by decide +kernel⟩
theorem fl_X9_76 : bk_Fl RX9 76 9 45 := ⟨RX9, TX9, 57, rfl, inX9, by decide, bk_in 893 (by decide +kernel) rfl⟩
theorem fl_X9_339 : bk_Fl RX9 339 9 46 := ⟨RX9, TX9, 57, rfl, inX9, by decide, bk_in 894 (by decide +kernel) rfl⟩
theorem fp_X9_339 : bk_Fp RX9 339 9 46 .int := ⟨RX9, TX9, 57, tyX9, rfl, inX9, by decide, bk_in 894 (by decide +kernel) rfl, tyX9_ok, nmX9, rfl, by decide +kernel⟩
theorem fl_X9_79 : bk_Fl RX9 79 9 47 := ⟨RX9, TX9, 57, rfl, inX9, by decide, bk_in 895 (by decide +kernel) rfl⟩
theorem fl_X9_82 : bk_Fl RX9 82 9 48 := ⟨RX9, TX9, 57, rfl, inX9, by decide, bk_in 896 (by decide +kernel) rfl⟩
theorem fl_X9_85 : bk_Fl RX9 85 9 49 := ⟨RX9, TX9, 57, rfl, inX9, by decide, bk_in 897 (by decide +kernel) rfl⟩
theorem fl_X9_88 : bk_Fl RX9 88 9 50 := ⟨RX9, TX9, 57, rfl, inX9, by decide, bk_in 898 (by decide +kernel) rfl⟩
theorem fl_X9_91 : bk_Fl RX9 91 9 51 := ⟨RX9, TX9, 57, rfl, inX9, by decide, bk_in 899 (by decide +kernel) rfl⟩
theorem fl_X9_95 : bk_Fl RX9 95 9 52 := ⟨RX9, TX9, 57, rfl, inX9, by decide, bk_in 900 (by decide +kernel) rfl⟩
theorem fl_X9_98 : bk_Fl RX9 98 9 53 := ⟨RX9, TX9, 57, rfl, inX9, by decide, bk_in 901 (by decide +kernel) rfl⟩
theorem fl_X9_101 : bk_Fl RX9 101 9 54 := ⟨RX9, TX9, 57, rfl, inX9, by decide, bk_in 902 (by decide +kernel) rfl⟩
theorem fl_X9_104 : bk_Fl RX9 104 9 55 := ⟨RX9, TX9, 57, rfl, inX9, by decide, bk_in 903 (by decide +kernel) rfl⟩
theorem fl_X9_374 : bk_Fl RX9 374 9 56 := ⟨RX9, TX9, 57, rfl, inX9, by decide, bk_in 904 (by decide +kernel) rfl⟩
theorem fp_X9_374 : bk_Fp RX9 374 9 56 .int := ⟨RX9, TX9, 57, tyX9, rfl, inX9, by decide, bk_in 904 (by decide +kernel) rfl, tyX9_ok, nmX9, rfl, by decide +kernel⟩
def yJ_fill : MethodName := ⟨"java/util/Arrays", "fill", "([II)V"⟩
abbrev cJ_fill : ByteArray := prog_14_method_103_code
theorem yk_X8_init : bk_yk yX8_init cX8_init 2 none 0 := ⟨bk_in 108 (by decide +kernel) rfl, bk_in 91 (by decide +kernel) rfl, by decide, by decide, by decide +kernel⟩
theorem yk_X6_init : bk_yk yX6_init cX6_init 2 none 1 := ⟨bk_in 116 (by decide +kernel) rfl, bk_in 92 (by decide +kernel) rfl, by decide, by decide, by decide +kernel⟩
theorem yk_X7_init : bk_yk yX7_init cX7_init 1 none 0 := ⟨bk_in 141 (by decide +kernel) rfl, bk_in 94 (by decide +kernel) rfl, by decide, by decide, by decide +kernel⟩
theorem yk_X4_init : bk_yk yX4_init cX4_init 1 none 0 := ⟨bk_in 170 (by decide +kernel) rfl, bk_in 95 (by decide +kernel) rfl, by decide, by decide, by decide +kernel⟩
theorem yk_X1_init : bk_yk yX1_init cX1_init 1 none 0 := ⟨bk_in 216 (by decide +kernel) rfl, bk_in 96 (by decide +kernel) rfl, by decide, by decide, by decide +kernel⟩
theorem yk_X0_init : bk_yk yX0_init cX0_init 1 none 0 := ⟨bk_in 266 (by decide +kernel) rfl, bk_in 97 (by decide +kernel) rfl, by decide, by decide, by decide +kernel⟩
theorem yk_X2_init : bk_yk yX2_init cX2_init 1 none 0 := ⟨bk_in 288 (by decide +kernel) rfl, bk_in 98 (by decide +kernel) rfl, by decide, by decide, by decide +kernel⟩
theorem yk_X3_init : bk_yk yX3_init cX3_init 1 none 0 := ⟨bk_in 303 (by decide +kernel) rfl, bk_in 99 (by decide +kernel) rfl, by decide, by decide, by decide +kernel⟩
theorem yk_X5_init : bk_yk yX5_init cX5_init 1 none 0 := ⟨bk_in 313 (by decide +kernel) rfl, bk_in 100 (by decide +kernel) rfl, by decide, by decide, by decide +kernel⟩
theorem yk_X8_type : bk_yk yX8_type cX8_type 4 (some .int) 2 := ⟨bk_in 380 (by decide +kernel) rfl, bk_in 91 (by decide +kernel) rfl, by decide, by decide, by decide +kernel⟩
theorem yv_X8_type : bk_yv yX8_type := ⟨bk_in 378 (by decide +kernel) rfl, bk_in 379 (by decide +kernel) rfl⟩
theorem yk_X8_isText : bk_yk yX8_isText cX8_isText 1 (some .boolean) 1 := ⟨bk_in 383 (by decide +kernel) rfl, bk_in 91 (by decide +kernel) rfl, by decide, by decide, by decide +kernel⟩
theorem ys_X8_isText : Cond.static yX8_isText ∈ lw_good := bk_in 382 (by decide +kernel) rfl
theorem yk_X8_isBelow : bk_yk yX8_isBelow cX8_isBelow 2 (some .boolean) 2 := ⟨bk_in 386 (by decide +kernel) rfl, bk_in 91 (by decide +kernel) rfl, by decide, by decide, by decide +kernel⟩
theorem ys_X8_isBelow : Cond.static yX8_isBelow ∈ lw_good := bk_in 385 (by decide +kernel) rfl
theorem yk_X8_textOf : bk_yk yX8_textOf cX8_textOf 2 (some (.object "BackHooks$Text")) 1 := ⟨bk_in 390 (by decide +kernel) rfl, bk_in 91 (by decide +kernel) rfl, by decide, by decide, by decide +kernel⟩
theorem yv_X8_textOf : bk_yv yX8_textOf := ⟨bk_in 389 (by decide +kernel) rfl, bk_in 0 (by decide +kernel) rfl⟩
theorem yk_X8_noteChange : bk_yk yX8_noteChange cX8_noteChange 1 none 0 := ⟨bk_in 394 (by decide +kernel) rfl, bk_in 91 (by decide +kernel) rfl, by decide, by decide, by decide +kernel⟩
theorem yv_X8_noteChange : bk_yv yX8_noteChange := ⟨bk_in 393 (by decide +kernel) rfl, bk_in 1 (by decide +kernel) rfl⟩
theorem yk_X8_wipe : bk_yk yX8_wipe cX8_wipe 4 (some .int) 1 := ⟨bk_in 398 (by decide +kernel) rfl, bk_in 91 (by decide +kernel) rfl, by decide, by decide, by decide +kernel⟩
theorem yv_X8_wipe : bk_yv yX8_wipe := ⟨bk_in 396 (by decide +kernel) rfl, bk_in 397 (by decide +kernel) rfl⟩
theorem yk_X8_undo : bk_yk yX8_undo cX8_undo 3 (some .int) 1 := ⟨bk_in 402 (by decide +kernel) rfl, bk_in 91 (by decide +kernel) rfl, by decide, by decide, by decide +kernel⟩
theorem yv_X8_undo : bk_yv yX8_undo := ⟨bk_in 400 (by decide +kernel) rfl, bk_in 401 (by decide +kernel) rfl⟩
theorem yk_X8_fault : bk_yk yX8_fault cX8_fault 2 (some .int) 1 := ⟨bk_in 406 (by decide +kernel) rfl, bk_in 91 (by decide +kernel) rfl, by decide, by decide, by decide +kernel⟩
theorem yv_X8_fault : bk_yv yX8_fault := ⟨bk_in 404 (by decide +kernel) rfl, bk_in 405 (by decide +kernel) rfl⟩
theorem yk_X6_faultOfHooks : bk_yk yX6_faultOfHooks cX6_faultOfHooks 2 (some .int) 0 := ⟨bk_in 410 (by decide +kernel) rfl, bk_in 92 (by decide +kernel) rfl, by decide, by decide, by decide +kernel⟩
theorem yv_X6_faultOfHooks : bk_yv yX6_faultOfHooks := ⟨bk_in 408 (by decide +kernel) rfl, bk_in 409 (by decide +kernel) rfl⟩
theorem yk_X6_minutesOf : bk_yk yX6_minutesOf cX6_minutesOf 1 (some .int) 1 := ⟨bk_in 413 (by decide +kernel) rfl, bk_in 92 (by decide +kernel) rfl, by decide, by decide, by decide +kernel⟩
theorem ys_X6_minutesOf : Cond.static yX6_minutesOf ∈ lw_good := bk_in 412 (by decide +kernel) rfl
theorem yk_X6_faultOfThings : bk_yk yX6_faultOfThings cX6_faultOfThings 2 (some .int) 0 := ⟨bk_in 417 (by decide +kernel) rfl, bk_in 92 (by decide +kernel) rfl, by decide, by decide, by decide +kernel⟩
theorem yv_X6_faultOfThings : bk_yv yX6_faultOfThings := ⟨bk_in 415 (by decide +kernel) rfl, bk_in 416 (by decide +kernel) rfl⟩
theorem yk_X6_mayStand : bk_yk yX6_mayStand cX6_mayStand 2 (some .boolean) 2 := ⟨bk_in 420 (by decide +kernel) rfl, bk_in 92 (by decide +kernel) rfl, by decide, by decide, by decide +kernel⟩
theorem ys_X6_mayStand : Cond.static yX6_mayStand ∈ lw_good := bk_in 419 (by decide +kernel) rfl
theorem yk_X6_sortOf : bk_yk yX6_sortOf cX6_sortOf 1 (some .int) 1 := ⟨bk_in 423 (by decide +kernel) rfl, bk_in 92 (by decide +kernel) rfl, by decide, by decide, by decide +kernel⟩
theorem ys_X6_sortOf : Cond.static yX6_sortOf ∈ lw_good := bk_in 422 (by decide +kernel) rfl
theorem yk_X8_hook : bk_yk yX8_hook cX8_hook 2 (some .int) 1 := ⟨bk_in 427 (by decide +kernel) rfl, bk_in 91 (by decide +kernel) rfl, by decide, by decide, by decide +kernel⟩
theorem yv_X8_hook : bk_yv yX8_hook := ⟨bk_in 425 (by decide +kernel) rfl, bk_in 426 (by decide +kernel) rfl⟩
theorem yk_X8_refresh : bk_yk yX8_refresh cX8_refresh 1 none 0 := ⟨bk_in 431 (by decide +kernel) rfl, bk_in 91 (by decide +kernel) rfl, by decide, by decide, by decide +kernel⟩
theorem yv_X8_refresh : bk_yv yX8_refresh := ⟨bk_in 430 (by decide +kernel) rfl, bk_in 2 (by decide +kernel) rfl⟩
theorem yk_X4_takeHooks : bk_yk yX4_takeHooks cX4_takeHooks 3 none 1 := ⟨bk_in 435 (by decide +kernel) rfl, bk_in 95 (by decide +kernel) rfl, by decide, by decide, by decide +kernel⟩
theorem yv_X4_takeHooks : bk_yv yX4_takeHooks := ⟨bk_in 433 (by decide +kernel) rfl, bk_in 434 (by decide +kernel) rfl⟩
theorem yk_X4_takeThings : bk_yk yX4_takeThings cX4_takeThings 3 none 1 := ⟨bk_in 441 (by decide +kernel) rfl, bk_in 95 (by decide +kernel) rfl, by decide, by decide, by decide +kernel⟩
theorem yv_X4_takeThings : bk_yv yX4_takeThings := ⟨bk_in 439 (by decide +kernel) rfl, bk_in 440 (by decide +kernel) rfl⟩
theorem yk_X8_allEvents : bk_yk yX8_allEvents cX8_allEvents 1 (some .int) 0 := ⟨bk_in 447 (by decide +kernel) rfl, bk_in 91 (by decide +kernel) rfl, by decide, by decide, by decide +kernel⟩
theorem yv_X8_allEvents : bk_yv yX8_allEvents := ⟨bk_in 446 (by decide +kernel) rfl, bk_in 3 (by decide +kernel) rfl⟩
theorem yk_X4_takeEvents : bk_yk yX4_takeEvents cX4_takeEvents 4 none 2 := ⟨bk_in 451 (by decide +kernel) rfl, bk_in 95 (by decide +kernel) rfl, by decide, by decide, by decide +kernel⟩
theorem yv_X4_takeEvents : bk_yv yX4_takeEvents := ⟨bk_in 449 (by decide +kernel) rfl, bk_in 450 (by decide +kernel) rfl⟩
theorem yk_J_fill : bk_yk yJ_fill cJ_fill 4 none 2 := ⟨bk_in 454 (by decide +kernel) rfl, bk_in 102 (by decide +kernel) rfl, by decide, by decide, by decide +kernel⟩
theorem ys_J_fill : Cond.static yJ_fill ∈ lw_good := bk_in 453 (by decide +kernel) rfl
theorem yk_X4_takeEvent : bk_yk yX4_takeEvent cX4_takeEvent 4 none 3 := ⟨bk_in 458 (by decide +kernel) rfl, bk_in 95 (by decide +kernel) rfl, by decide, by decide, by decide +kernel⟩
theorem yv_X4_takeEvent : bk_yv yX4_takeEvent := ⟨bk_in 457 (by decide +kernel) rfl, bk_in 4 (by decide +kernel) rfl⟩
theorem yk_X1_run : bk_yk yX1_run cX1_run 3 none 1 := ⟨bk_in 462 (by decide +kernel) rfl, bk_in 96 (by decide +kernel) rfl, by decide, by decide, by decide +kernel⟩
theorem yv_X1_run : bk_yv yX1_run := ⟨bk_in 460 (by decide +kernel) rfl, bk_in 461 (by decide +kernel) rfl⟩
theorem yk_X1_begin : bk_yk yX1_begin cX1_begin 2 none 1 := ⟨bk_in 466 (by decide +kernel) rfl, bk_in 96 (by decide +kernel) rfl, by decide, by decide, by decide +kernel⟩
theorem yv_X1_begin : bk_yv yX1_begin := ⟨bk_in 465 (by decide +kernel) rfl, bk_in 5 (by decide +kernel) rfl⟩
theorem yk_X1_heatUp : bk_yk yX1_heatUp cX1_heatUp 3 none 1 := ⟨bk_in 474 (by decide +kernel) rfl, bk_in 96 (by decide +kernel) rfl, by decide, by decide, by decide +kernel⟩
theorem yv_X1_heatUp : bk_yv yX1_heatUp := ⟨bk_in 473 (by decide +kernel) rfl, bk_in 6 (by decide +kernel) rfl⟩
theorem yk_X1_doHooks : bk_yk yX1_doHooks cX1_doHooks 6 none 2 := ⟨bk_in 478 (by decide +kernel) rfl, bk_in 96 (by decide +kernel) rfl, by decide, by decide, by decide +kernel⟩
theorem yv_X1_doHooks : bk_yv yX1_doHooks := ⟨bk_in 477 (by decide +kernel) rfl, bk_in 7 (by decide +kernel) rfl⟩
theorem yk_X1_lastHookDone : bk_yk yX1_lastHookDone cX1_lastHookDone 5 (some .int) 2 := ⟨bk_in 481 (by decide +kernel) rfl, bk_in 96 (by decide +kernel) rfl, by decide, by decide, by decide +kernel⟩
theorem ys_X1_lastHookDone : Cond.static yX1_lastHookDone ∈ lw_good := bk_in 480 (by decide +kernel) rfl
theorem yk_X1_doHook : bk_yk yX1_doHook cX1_doHook 8 none 5 := ⟨bk_in 485 (by decide +kernel) rfl, bk_in 96 (by decide +kernel) rfl, by decide, by decide, by decide +kernel⟩
theorem yv_X1_doHook : bk_yv yX1_doHook := ⟨bk_in 484 (by decide +kernel) rfl, bk_in 8 (by decide +kernel) rfl⟩
theorem yk_X1_whatIsSaid : bk_yk yX1_whatIsSaid cX1_whatIsSaid 5 (some .int) 2 := ⟨bk_in 489 (by decide +kernel) rfl, bk_in 96 (by decide +kernel) rfl, by decide, by decide, by decide +kernel⟩
theorem yv_X1_whatIsSaid : bk_yv yX1_whatIsSaid := ⟨bk_in 488 (by decide +kernel) rfl, bk_in 9 (by decide +kernel) rfl⟩
theorem yk_X1_soften : bk_yk yX1_soften cX1_soften 6 none 4 := ⟨bk_in 493 (by decide +kernel) rfl, bk_in 96 (by decide +kernel) rfl, by decide, by decide, by decide +kernel⟩
theorem yv_X1_soften : bk_yv yX1_soften := ⟨bk_in 492 (by decide +kernel) rfl, bk_in 10 (by decide +kernel) rfl⟩
theorem yk_X8_isHook : bk_yk yX8_isHook cX8_isHook 2 (some .boolean) 1 := ⟨bk_in 497 (by decide +kernel) rfl, bk_in 91 (by decide +kernel) rfl, by decide, by decide, by decide +kernel⟩
theorem yv_X8_isHook : bk_yv yX8_isHook := ⟨bk_in 496 (by decide +kernel) rfl, bk_in 11 (by decide +kernel) rfl⟩
theorem yk_X8_thing : bk_yk yX8_thing cX8_thing 3 (some .int) 2 := ⟨bk_in 501 (by decide +kernel) rfl, bk_in 91 (by decide +kernel) rfl, by decide, by decide, by decide +kernel⟩
theorem yv_X8_thing : bk_yv yX8_thing := ⟨bk_in 499 (by decide +kernel) rfl, bk_in 500 (by decide +kernel) rfl⟩
theorem yk_X8_isThing : bk_yk yX8_isThing cX8_isThing 2 (some .boolean) 1 := ⟨bk_in 505 (by decide +kernel) rfl, bk_in 91 (by decide +kernel) rfl, by decide, by decide, by decide +kernel⟩
theorem yv_X8_isThing : bk_yv yX8_isThing := ⟨bk_in 504 (by decide +kernel) rfl, bk_in 12 (by decide +kernel) rfl⟩
theorem yk_X8_event : bk_yk yX8_event cX8_event 4 (some .int) 3 := ⟨bk_in 509 (by decide +kernel) rfl, bk_in 91 (by decide +kernel) rfl, by decide, by decide, by decide +kernel⟩
theorem yv_X8_event : bk_yv yX8_event := ⟨bk_in 507 (by decide +kernel) rfl, bk_in 508 (by decide +kernel) rfl⟩
theorem yk_X8_isEvent : bk_yk yX8_isEvent cX8_isEvent 3 (some .boolean) 3 := ⟨bk_in 512 (by decide +kernel) rfl, bk_in 91 (by decide +kernel) rfl, by decide, by decide, by decide +kernel⟩
theorem ys_X8_isEvent : Cond.static yX8_isEvent ∈ lw_good := bk_in 511 (by decide +kernel) rfl
theorem yk_X8_isEvening : bk_yk yX8_isEvening cX8_isEvening 1 (some .boolean) 1 := ⟨bk_in 515 (by decide +kernel) rfl, bk_in 91 (by decide +kernel) rfl, by decide, by decide, by decide +kernel⟩
theorem ys_X8_isEvening : Cond.static yX8_isEvening ∈ lw_good := bk_in 514 (by decide +kernel) rfl
theorem yk_X7_isFull : bk_yk yX7_isFull cX7_isFull 1 (some .boolean) 0 := ⟨bk_in 519 (by decide +kernel) rfl, bk_in 94 (by decide +kernel) rfl, by decide, by decide, by decide +kernel⟩
theorem yv_X7_isFull : bk_yv yX7_isFull := ⟨bk_in 517 (by decide +kernel) rfl, bk_in 518 (by decide +kernel) rfl⟩
theorem yk_X7_append : bk_yk yX7_append cX7_append 4 none 3 := ⟨bk_in 523 (by decide +kernel) rfl, bk_in 94 (by decide +kernel) rfl, by decide, by decide, by decide +kernel⟩
theorem yv_X7_append : bk_yv yX7_append := ⟨bk_in 521 (by decide +kernel) rfl, bk_in 522 (by decide +kernel) rfl⟩
theorem yk_X8_back : bk_yk yX8_back cX8_back 1 (some .int) 0 := ⟨bk_in 528 (by decide +kernel) rfl, bk_in 91 (by decide +kernel) rfl, by decide, by decide, by decide +kernel⟩
theorem yv_X8_back : bk_yv yX8_back := ⟨bk_in 526 (by decide +kernel) rfl, bk_in 527 (by decide +kernel) rfl⟩
theorem yk_X8_read : bk_yk yX8_read cX8_read 5 (some .int) 1 := ⟨bk_in 532 (by decide +kernel) rfl, bk_in 91 (by decide +kernel) rfl, by decide, by decide, by decide +kernel⟩
theorem yv_X8_read : bk_yv yX8_read := ⟨bk_in 530 (by decide +kernel) rfl, bk_in 531 (by decide +kernel) rfl⟩
theorem yk_X8_isSheet : bk_yk yX8_isSheet cX8_isSheet 1 (some .boolean) 1 := ⟨bk_in 535 (by decide +kernel) rfl, bk_in 91 (by decide +kernel) rfl, by decide, by decide, by decide +kernel⟩
theorem ys_X8_isSheet : Cond.static yX8_isSheet ∈ lw_good := bk_in 534 (by decide +kernel) rfl
theorem yk_X5_isLost : bk_yk yX5_isLost cX5_isLost 1 (some .boolean) 0 := ⟨bk_in 539 (by decide +kernel) rfl, bk_in 100 (by decide +kernel) rfl, by decide, by decide, by decide +kernel⟩
theorem yv_X5_isLost : bk_yv yX5_isLost := ⟨bk_in 537 (by decide +kernel) rfl, bk_in 538 (by decide +kernel) rfl⟩
theorem yk_X8_findingOf : bk_yk yX8_findingOf cX8_findingOf 2 (some .int) 1 := ⟨bk_in 543 (by decide +kernel) rfl, bk_in 91 (by decide +kernel) rfl, by decide, by decide, by decide +kernel⟩
theorem yv_X8_findingOf : bk_yv yX8_findingOf := ⟨bk_in 542 (by decide +kernel) rfl, bk_in 13 (by decide +kernel) rfl⟩
theorem yk_X8_heat : bk_yk yX8_heat cX8_heat 5 (some .int) 3 := ⟨bk_in 548 (by decide +kernel) rfl, bk_in 91 (by decide +kernel) rfl, by decide, by decide, by decide +kernel⟩
theorem yv_X8_heat : bk_yv yX8_heat := ⟨bk_in 546 (by decide +kernel) rfl, bk_in 547 (by decide +kernel) rfl⟩
theorem yk_X8_said : bk_yk yX8_said cX8_said 3 (some .int) 2 := ⟨bk_in 552 (by decide +kernel) rfl, bk_in 91 (by decide +kernel) rfl, by decide, by decide, by decide +kernel⟩
theorem yv_X8_said : bk_yv yX8_said := ⟨bk_in 550 (by decide +kernel) rfl, bk_in 551 (by decide +kernel) rfl⟩
theorem yk_X8_at : bk_yk yX8_at cX8_at 3 (some .int) 2 := ⟨bk_in 556 (by decide +kernel) rfl, bk_in 91 (by decide +kernel) rfl, by decide, by decide, by decide +kernel⟩
theorem yv_X8_at : bk_yv yX8_at := ⟨bk_in 554 (by decide +kernel) rfl, bk_in 555 (by decide +kernel) rfl⟩
theorem yk_X1_eveningAnswer : bk_yk yX1_eveningAnswer cX1_eveningAnswer 3 (some .int) 2 := ⟨bk_in 560 (by decide +kernel) rfl, bk_in 96 (by decide +kernel) rfl, by decide, by decide, by decide +kernel⟩
theorem yv_X1_eveningAnswer : bk_yv yX1_eveningAnswer := ⟨bk_in 558 (by decide +kernel) rfl, bk_in 559 (by decide +kernel) rfl⟩
theorem yk_X8_settled : bk_yk yX8_settled cX8_settled 2 (some .int) 1 := ⟨bk_in 564 (by decide +kernel) rfl, bk_in 91 (by decide +kernel) rfl, by decide, by decide, by decide +kernel⟩
theorem yv_X8_settled : bk_yv yX8_settled := ⟨bk_in 562 (by decide +kernel) rfl, bk_in 563 (by decide +kernel) rfl⟩
theorem yk_X8_sum : bk_yk yX8_sum cX8_sum 2 (some .int) 1 := ⟨bk_in 568 (by decide +kernel) rfl, bk_in 91 (by decide +kernel) rfl, by decide, by decide, by decide +kernel⟩
theorem yv_X8_sum : bk_yv yX8_sum := ⟨bk_in 566 (by decide +kernel) rfl, bk_in 567 (by decide +kernel) rfl⟩
theorem yk_X1_sumAnswer : bk_yk yX1_sumAnswer cX1_sumAnswer 2 (some .int) 1 := ⟨bk_in 572 (by decide +kernel) rfl, bk_in 96 (by decide +kernel) rfl, by decide, by decide, by decide +kernel⟩
theorem yv_X1_sumAnswer : bk_yv yX1_sumAnswer := ⟨bk_in 570 (by decide +kernel) rfl, bk_in 571 (by decide +kernel) rfl⟩
theorem yk_X8_sumOf : bk_yk yX8_sumOf cX8_sumOf 6 (some .int) 1 := ⟨bk_in 575 (by decide +kernel) rfl, bk_in 91 (by decide +kernel) rfl, by decide, by decide, by decide +kernel⟩
theorem ys_X8_sumOf : Cond.static yX8_sumOf ∈ lw_good := bk_in 574 (by decide +kernel) rfl
theorem yk_X8_peace : bk_yk yX8_peace cX8_peace 1 (some .int) 0 := ⟨bk_in 579 (by decide +kernel) rfl, bk_in 91 (by decide +kernel) rfl, by decide, by decide, by decide +kernel⟩
theorem yv_X8_peace : bk_yv yX8_peace := ⟨bk_in 577 (by decide +kernel) rfl, bk_in 578 (by decide +kernel) rfl⟩
theorem yk_X4_allThings : bk_yk yX4_allThings cX4_allThings 1 (some .int) 0 := ⟨bk_in 583 (by decide +kernel) rfl, bk_in 95 (by decide +kernel) rfl, by decide, by decide, by decide +kernel⟩
theorem yv_X4_allThings : bk_yv yX4_allThings := ⟨bk_in 581 (by decide +kernel) rfl, bk_in 582 (by decide +kernel) rfl⟩
theorem yk_X1_firstPeace : bk_yk yX1_firstPeace cX1_firstPeace 3 (some .int) 1 := ⟨bk_in 587 (by decide +kernel) rfl, bk_in 96 (by decide +kernel) rfl, by decide, by decide, by decide +kernel⟩
theorem yv_X1_firstPeace : bk_yv yX1_firstPeace := ⟨bk_in 585 (by decide +kernel) rfl, bk_in 586 (by decide +kernel) rfl⟩
theorem yk_X1_settledBehind : bk_yk yX1_settledBehind cX1_settledBehind 4 (some .int) 1 := ⟨bk_in 591 (by decide +kernel) rfl, bk_in 96 (by decide +kernel) rfl, by decide, by decide, by decide +kernel⟩
theorem yv_X1_settledBehind : bk_yv yX1_settledBehind := ⟨bk_in 589 (by decide +kernel) rfl, bk_in 590 (by decide +kernel) rfl⟩
theorem yk_X8_longest : bk_yk yX8_longest cX8_longest 1 (some .int) 0 := ⟨bk_in 595 (by decide +kernel) rfl, bk_in 91 (by decide +kernel) rfl, by decide, by decide, by decide +kernel⟩
theorem yv_X8_longest : bk_yv yX8_longest := ⟨bk_in 593 (by decide +kernel) rfl, bk_in 594 (by decide +kernel) rfl⟩
theorem yk_X1_thingSaidMost : bk_yk yX1_thingSaidMost cX1_thingSaidMost 4 (some .int) 0 := ⟨bk_in 599 (by decide +kernel) rfl, bk_in 96 (by decide +kernel) rfl, by decide, by decide, by decide +kernel⟩
theorem yv_X1_thingSaidMost : bk_yv yX1_thingSaidMost := ⟨bk_in 597 (by decide +kernel) rfl, bk_in 598 (by decide +kernel) rfl⟩
theorem yk_X8_highest : bk_yk yX8_highest cX8_highest 2 (some .int) 1 := ⟨bk_in 603 (by decide +kernel) rfl, bk_in 91 (by decide +kernel) rfl, by decide, by decide, by decide +kernel⟩
theorem yv_X8_highest : bk_yv yX8_highest := ⟨bk_in 601 (by decide +kernel) rfl, bk_in 602 (by decide +kernel) rfl⟩
theorem yk_X8_sore : bk_yk yX8_sore cX8_sore 1 (some .int) 0 := ⟨bk_in 607 (by decide +kernel) rfl, bk_in 91 (by decide +kernel) rfl, by decide, by decide, by decide +kernel⟩
theorem yv_X8_sore : bk_yv yX8_sore := ⟨bk_in 605 (by decide +kernel) rfl, bk_in 606 (by decide +kernel) rfl⟩
theorem yk_X8_unsettledThings : bk_yk yX8_unsettledThings cX8_unsettledThings 1 (some .int) 0 := ⟨bk_in 611 (by decide +kernel) rfl, bk_in 91 (by decide +kernel) rfl, by decide, by decide, by decide +kernel⟩
theorem yv_X8_unsettledThings : bk_yv yX8_unsettledThings := ⟨bk_in 610 (by decide +kernel) rfl, bk_in 14 (by decide +kernel) rfl⟩
theorem yk_X8_swap : bk_yk yX8_swap cX8_swap 2 (some .int) 1 := ⟨bk_in 616 (by decide +kernel) rfl, bk_in 91 (by decide +kernel) rfl, by decide, by decide, by decide +kernel⟩
theorem yv_X8_swap : bk_yv yX8_swap := ⟨bk_in 614 (by decide +kernel) rfl, bk_in 615 (by decide +kernel) rfl⟩
theorem yk_X8_chooseSwap : bk_yk yX8_chooseSwap cX8_chooseSwap 3 none 0 := ⟨bk_in 620 (by decide +kernel) rfl, bk_in 91 (by decide +kernel) rfl, by decide, by decide, by decide +kernel⟩
theorem yv_X8_chooseSwap : bk_yv yX8_chooseSwap := ⟨bk_in 619 (by decide +kernel) rfl, bk_in 15 (by decide +kernel) rfl⟩
theorem yk_X4_copyFrom : bk_yk yX4_copyFrom cX4_copyFrom 2 none 1 := ⟨bk_in 624 (by decide +kernel) rfl, bk_in 95 (by decide +kernel) rfl, by decide, by decide, by decide +kernel⟩
theorem yv_X4_copyFrom : bk_yv yX4_copyFrom := ⟨bk_in 622 (by decide +kernel) rfl, bk_in 623 (by decide +kernel) rfl⟩
theorem yk_X0_clear : bk_yk yX0_clear cX0_clear 1 none 0 := ⟨bk_in 629 (by decide +kernel) rfl, bk_in 97 (by decide +kernel) rfl, by decide, by decide, by decide +kernel⟩
theorem yv_X0_clear : bk_yv yX0_clear := ⟨bk_in 627 (by decide +kernel) rfl, bk_in 628 (by decide +kernel) rfl⟩
theorem yk_X4_exchange : bk_yk yX4_exchange cX4_exchange 3 none 2 := ⟨bk_in 633 (by decide +kernel) rfl, bk_in 95 (by decide +kernel) rfl, by decide, by decide, by decide +kernel⟩
theorem yv_X4_exchange : bk_yv yX4_exchange := ⟨bk_in 631 (by decide +kernel) rfl, bk_in 632 (by decide +kernel) rfl⟩
theorem yk_X4_exchangeIn : bk_yk yX4_exchangeIn cX4_exchangeIn 4 none 3 := ⟨bk_in 636 (by decide +kernel) rfl, bk_in 95 (by decide +kernel) rfl, by decide, by decide, by decide +kernel⟩
theorem ys_X4_exchangeIn : Cond.static yX4_exchangeIn ∈ lw_good := bk_in 635 (by decide +kernel) rfl
theorem yk_X0_offer : bk_yk yX0_offer cX0_offer 6 none 4 := ⟨bk_in 641 (by decide +kernel) rfl, bk_in 97 (by decide +kernel) rfl, by decide, by decide, by decide +kernel⟩
theorem yv_X0_offer : bk_yv yX0_offer := ⟨bk_in 639 (by decide +kernel) rfl, bk_in 640 (by decide +kernel) rfl⟩
theorem yk_X0_swapAnswer : bk_yk yX0_swapAnswer cX0_swapAnswer 2 (some .int) 1 := ⟨bk_in 645 (by decide +kernel) rfl, bk_in 97 (by decide +kernel) rfl, by decide, by decide, by decide +kernel⟩
theorem yv_X0_swapAnswer : bk_yv yX0_swapAnswer := ⟨bk_in 643 (by decide +kernel) rfl, bk_in 644 (by decide +kernel) rfl⟩
theorem yk_X0_leaveAnswer : bk_yk yX0_leaveAnswer cX0_leaveAnswer 2 (some .int) 1 := ⟨bk_in 649 (by decide +kernel) rfl, bk_in 97 (by decide +kernel) rfl, by decide, by decide, by decide +kernel⟩
theorem yv_X0_leaveAnswer : bk_yv yX0_leaveAnswer := ⟨bk_in 647 (by decide +kernel) rfl, bk_in 648 (by decide +kernel) rfl⟩
theorem yk_X8_fit : bk_yk yX8_fit cX8_fit 1 (some .int) 0 := ⟨bk_in 653 (by decide +kernel) rfl, bk_in 91 (by decide +kernel) rfl, by decide, by decide, by decide +kernel⟩
theorem yv_X8_fit : bk_yv yX8_fit := ⟨bk_in 651 (by decide +kernel) rfl, bk_in 652 (by decide +kernel) rfl⟩
theorem yk_X8_fewestHooks : bk_yk yX8_fewestHooks cX8_fewestHooks 2 (some .int) 0 := ⟨bk_in 657 (by decide +kernel) rfl, bk_in 91 (by decide +kernel) rfl, by decide, by decide, by decide +kernel⟩
theorem yv_X8_fewestHooks : bk_yv yX8_fewestHooks := ⟨bk_in 656 (by decide +kernel) rfl, bk_in 16 (by decide +kernel) rfl⟩
theorem yk_X8_leave : bk_yk yX8_leave cX8_leave 3 (some .int) 2 := ⟨bk_in 661 (by decide +kernel) rfl, bk_in 91 (by decide +kernel) rfl, by decide, by decide, by decide +kernel⟩
theorem yv_X8_leave : bk_yv yX8_leave := ⟨bk_in 659 (by decide +kernel) rfl, bk_in 660 (by decide +kernel) rfl⟩
theorem yk_X8_chooseLeft : bk_yk yX8_chooseLeft cX8_chooseLeft 3 none 1 := ⟨bk_in 665 (by decide +kernel) rfl, bk_in 91 (by decide +kernel) rfl, by decide, by decide, by decide +kernel⟩
theorem yv_X8_chooseLeft : bk_yv yX8_chooseLeft := ⟨bk_in 664 (by decide +kernel) rfl, bk_in 17 (by decide +kernel) rfl⟩
theorem yk_X8_spare : bk_yk yX8_spare cX8_spare 2 (some .int) 1 := ⟨bk_in 670 (by decide +kernel) rfl, bk_in 91 (by decide +kernel) rfl, by decide, by decide, by decide +kernel⟩
theorem yv_X8_spare : bk_yv yX8_spare := ⟨bk_in 668 (by decide +kernel) rfl, bk_in 669 (by decide +kernel) rfl⟩
theorem yk_X8_refreshEnds : bk_yk yX8_refreshEnds cX8_refreshEnds 3 none 0 := ⟨bk_in 674 (by decide +kernel) rfl, bk_in 91 (by decide +kernel) rfl, by decide, by decide, by decide +kernel⟩
theorem yv_X8_refreshEnds : bk_yv yX8_refreshEnds := ⟨bk_in 673 (by decide +kernel) rfl, bk_in 18 (by decide +kernel) rfl⟩
theorem yk_X8_chooseSpared : bk_yk yX8_chooseSpared cX8_chooseSpared 5 none 0 := ⟨bk_in 678 (by decide +kernel) rfl, bk_in 91 (by decide +kernel) rfl, by decide, by decide, by decide +kernel⟩
theorem yv_X8_chooseSpared : bk_yv yX8_chooseSpared := ⟨bk_in 677 (by decide +kernel) rfl, bk_in 19 (by decide +kernel) rfl⟩
theorem yk_X0_spareAnswer : bk_yk yX0_spareAnswer cX0_spareAnswer 2 (some .int) 1 := ⟨bk_in 682 (by decide +kernel) rfl, bk_in 97 (by decide +kernel) rfl, by decide, by decide, by decide +kernel⟩
theorem yv_X0_spareAnswer : bk_yv yX0_spareAnswer := ⟨bk_in 680 (by decide +kernel) rfl, bk_in 681 (by decide +kernel) rfl⟩
theorem yk_X8_seen : bk_yk yX8_seen cX8_seen 4 (some .int) 3 := ⟨bk_in 686 (by decide +kernel) rfl, bk_in 91 (by decide +kernel) rfl, by decide, by decide, by decide +kernel⟩
theorem yv_X8_seen : bk_yv yX8_seen := ⟨bk_in 684 (by decide +kernel) rfl, bk_in 685 (by decide +kernel) rfl⟩
theorem yk_X8_forget : bk_yk yX8_forget cX8_forget 2 (some .int) 0 := ⟨bk_in 690 (by decide +kernel) rfl, bk_in 91 (by decide +kernel) rfl, by decide, by decide, by decide +kernel⟩
theorem yv_X8_forget : bk_yv yX8_forget := ⟨bk_in 688 (by decide +kernel) rfl, bk_in 689 (by decide +kernel) rfl⟩
theorem yk_X8_never : bk_yk yX8_never cX8_never 1 (some .int) 0 := ⟨bk_in 694 (by decide +kernel) rfl, bk_in 91 (by decide +kernel) rfl, by decide, by decide, by decide +kernel⟩
theorem yv_X8_never : bk_yv yX8_never := ⟨bk_in 692 (by decide +kernel) rfl, bk_in 693 (by decide +kernel) rfl⟩
theorem yk_X8_eventsThatNeverWere : bk_yk yX8_eventsThatNeverWere cX8_eventsThatNeverWere 3 (some .int) 0 := ⟨bk_in 698 (by decide +kernel) rfl, bk_in 91 (by decide +kernel) rfl, by decide, by decide, by decide +kernel⟩
theorem yv_X8_eventsThatNeverWere : bk_yv yX8_eventsThatNeverWere := ⟨bk_in 697 (by decide +kernel) rfl, bk_in 20 (by decide +kernel) rfl⟩
theorem yk_X8_allComesOut : bk_yk yX8_allComesOut cX8_allComesOut 5 (some .boolean) 0 := ⟨bk_in 702 (by decide +kernel) rfl, bk_in 91 (by decide +kernel) rfl, by decide, by decide, by decide +kernel⟩
theorem yv_X8_allComesOut : bk_yv yX8_allComesOut := ⟨bk_in 701 (by decide +kernel) rfl, bk_in 21 (by decide +kernel) rfl⟩
theorem yk_X8_was : bk_yk yX8_was cX8_was 3 (some .int) 2 := ⟨bk_in 706 (by decide +kernel) rfl, bk_in 91 (by decide +kernel) rfl, by decide, by decide, by decide +kernel⟩
theorem yv_X8_was : bk_yv yX8_was := ⟨bk_in 704 (by decide +kernel) rfl, bk_in 705 (by decide +kernel) rfl⟩
theorem yk_X8_sortsThatFit : bk_yk yX8_sortsThatFit cX8_sortsThatFit 4 (some .int) 1 := ⟨bk_in 710 (by decide +kernel) rfl, bk_in 91 (by decide +kernel) rfl, by decide, by decide, by decide +kernel⟩
theorem yv_X8_sortsThatFit : bk_yv yX8_sortsThatFit := ⟨bk_in 709 (by decide +kernel) rfl, bk_in 22 (by decide +kernel) rfl⟩
theorem yk_X8_tryHeats : bk_yk yX8_tryHeats cX8_tryHeats 4 none 1 := ⟨bk_in 714 (by decide +kernel) rfl, bk_in 91 (by decide +kernel) rfl, by decide, by decide, by decide +kernel⟩
theorem yv_X8_tryHeats : bk_yv yX8_tryHeats := ⟨bk_in 713 (by decide +kernel) rfl, bk_in 23 (by decide +kernel) rfl⟩
theorem yk_X8_ask : bk_yk yX8_ask cX8_ask 2 (some .int) 1 := ⟨bk_in 718 (by decide +kernel) rfl, bk_in 91 (by decide +kernel) rfl, by decide, by decide, by decide +kernel⟩
theorem yv_X8_ask : bk_yv yX8_ask := ⟨bk_in 716 (by decide +kernel) rfl, bk_in 717 (by decide +kernel) rfl⟩
theorem yk_X2_eveningToAsk : bk_yk yX2_eveningToAsk cX2_eveningToAsk 5 (some .int) 0 := ⟨bk_in 722 (by decide +kernel) rfl, bk_in 98 (by decide +kernel) rfl, by decide, by decide, by decide +kernel⟩
theorem yv_X2_eveningToAsk : bk_yv yX2_eveningToAsk := ⟨bk_in 720 (by decide +kernel) rfl, bk_in 721 (by decide +kernel) rfl⟩
theorem yk_X2_greatestLikeness : bk_yk yX2_greatestLikeness cX2_greatestLikeness 4 (some .int) 1 := ⟨bk_in 726 (by decide +kernel) rfl, bk_in 98 (by decide +kernel) rfl, by decide, by decide, by decide +kernel⟩
theorem yv_X2_greatestLikeness : bk_yv yX2_greatestLikeness := ⟨bk_in 725 (by decide +kernel) rfl, bk_in 24 (by decide +kernel) rfl⟩
theorem yk_X2_likenessOf : bk_yk yX2_likenessOf cX2_likenessOf 6 (some .int) 2 := ⟨bk_in 730 (by decide +kernel) rfl, bk_in 98 (by decide +kernel) rfl, by decide, by decide, by decide +kernel⟩
theorem yv_X2_likenessOf : bk_yv yX2_likenessOf := ⟨bk_in 729 (by decide +kernel) rfl, bk_in 25 (by decide +kernel) rfl⟩
theorem yk_X8_chance : bk_yk yX8_chance cX8_chance 4 (some .long) 3 := ⟨bk_in 737 (by decide +kernel) rfl, bk_in 91 (by decide +kernel) rfl, by decide, by decide, by decide +kernel⟩
theorem yv_X8_chance : bk_yv yX8_chance := ⟨bk_in 735 (by decide +kernel) rfl, bk_in 736 (by decide +kernel) rfl⟩
theorem yk_X8_chanceOf : bk_yk yX8_chanceOf cX8_chanceOf 10 (some .long) 3 := ⟨bk_in 742 (by decide +kernel) rfl, bk_in 91 (by decide +kernel) rfl, by decide, by decide, by decide +kernel⟩
theorem yv_X8_chanceOf : bk_yv yX8_chanceOf := ⟨bk_in 741 (by decide +kernel) rfl, bk_in 26 (by decide +kernel) rfl⟩
theorem yk_X8_weightOf : bk_yk yX8_weightOf cX8_weightOf 6 (some .long) 2 := ⟨bk_in 746 (by decide +kernel) rfl, bk_in 91 (by decide +kernel) rfl, by decide, by decide, by decide +kernel⟩
theorem yv_X8_weightOf : bk_yv yX8_weightOf := ⟨bk_in 745 (by decide +kernel) rfl, bk_in 27 (by decide +kernel) rfl⟩
theorem yk_X8_seasons : bk_yk yX8_seasons cX8_seasons 4 (some .int) 3 := ⟨bk_in 750 (by decide +kernel) rfl, bk_in 91 (by decide +kernel) rfl, by decide, by decide, by decide +kernel⟩
theorem yv_X8_seasons : bk_yv yX8_seasons := ⟨bk_in 748 (by decide +kernel) rfl, bk_in 749 (by decide +kernel) rfl⟩
theorem yk_X8_runSeason : bk_yk yX8_runSeason cX8_runSeason 4 none 2 := ⟨bk_in 754 (by decide +kernel) rfl, bk_in 91 (by decide +kernel) rfl, by decide, by decide, by decide +kernel⟩
theorem yv_X8_runSeason : bk_yv yX8_runSeason := ⟨bk_in 753 (by decide +kernel) rfl, bk_in 28 (by decide +kernel) rfl⟩
theorem yk_X3_draw : bk_yk yX3_draw cX3_draw 2 (some .int) 1 := ⟨bk_in 758 (by decide +kernel) rfl, bk_in 99 (by decide +kernel) rfl, by decide, by decide, by decide +kernel⟩
theorem yv_X3_draw : bk_yv yX3_draw := ⟨bk_in 756 (by decide +kernel) rfl, bk_in 757 (by decide +kernel) rfl⟩
theorem yk_X8_sheet : bk_yk yX8_sheet cX8_sheet 4 (some .int) 3 := ⟨bk_in 763 (by decide +kernel) rfl, bk_in 91 (by decide +kernel) rfl, by decide, by decide, by decide +kernel⟩
theorem yv_X8_sheet : bk_yv yX8_sheet := ⟨bk_in 761 (by decide +kernel) rfl, bk_in 762 (by decide +kernel) rfl⟩
theorem yk_X5_lay : bk_yk yX5_lay cX5_lay 3 none 2 := ⟨bk_in 767 (by decide +kernel) rfl, bk_in 100 (by decide +kernel) rfl, by decide, by decide, by decide +kernel⟩
theorem yv_X5_lay : bk_yv yX5_lay := ⟨bk_in 765 (by decide +kernel) rfl, bk_in 766 (by decide +kernel) rfl⟩
theorem yk_X8_lose : bk_yk yX8_lose cX8_lose 3 (some .int) 1 := ⟨bk_in 772 (by decide +kernel) rfl, bk_in 91 (by decide +kernel) rfl, by decide, by decide, by decide +kernel⟩
theorem yv_X8_lose : bk_yv yX8_lose := ⟨bk_in 770 (by decide +kernel) rfl, bk_in 771 (by decide +kernel) rfl⟩
theorem yk_X8_put : bk_yk yX8_put cX8_put 6 (some .int) 4 := ⟨bk_in 776 (by decide +kernel) rfl, bk_in 91 (by decide +kernel) rfl, by decide, by decide, by decide +kernel⟩
theorem yv_X8_put : bk_yv yX8_put := ⟨bk_in 774 (by decide +kernel) rfl, bk_in 775 (by decide +kernel) rfl⟩
theorem yk_X5_findingAt : bk_yk yX5_findingAt cX5_findingAt 3 (some .int) 2 := ⟨bk_in 780 (by decide +kernel) rfl, bk_in 100 (by decide +kernel) rfl, by decide, by decide, by decide +kernel⟩
theorem yv_X5_findingAt : bk_yv yX5_findingAt := ⟨bk_in 778 (by decide +kernel) rfl, bk_in 779 (by decide +kernel) rfl⟩
theorem yk_X5_lowestBits : bk_yk yX5_lowestBits cX5_lowestBits 2 (some .int) 1 := ⟨bk_in 786 (by decide +kernel) rfl, bk_in 100 (by decide +kernel) rfl, by decide, by decide, by decide +kernel⟩
theorem yv_X5_lowestBits : bk_yv yX5_lowestBits := ⟨bk_in 784 (by decide +kernel) rfl, bk_in 785 (by decide +kernel) rfl⟩
theorem yk_X8_get : bk_yk yX8_get cX8_get 5 (some .int) 3 := ⟨bk_in 790 (by decide +kernel) rfl, bk_in 91 (by decide +kernel) rfl, by decide, by decide, by decide +kernel⟩
theorem yv_X8_get : bk_yv yX8_get := ⟨bk_in 788 (by decide +kernel) rfl, bk_in 789 (by decide +kernel) rfl⟩
theorem yk_X8_copy : bk_yk yX8_copy cX8_copy 8 (some .int) 5 := ⟨bk_in 795 (by decide +kernel) rfl, bk_in 91 (by decide +kernel) rfl, by decide, by decide, by decide +kernel⟩
theorem yv_X8_copy : bk_yv yX8_copy := ⟨bk_in 793 (by decide +kernel) rfl, bk_in 794 (by decide +kernel) rfl⟩
theorem yk_X5_hasStretch : bk_yk yX5_hasStretch cX5_hasStretch 3 (some .boolean) 2 := ⟨bk_in 799 (by decide +kernel) rfl, bk_in 100 (by decide +kernel) rfl, by decide, by decide, by decide +kernel⟩
theorem yv_X5_hasStretch : bk_yv yX5_hasStretch := ⟨bk_in 797 (by decide +kernel) rfl, bk_in 798 (by decide +kernel) rfl⟩
theorem yk_X8_write : bk_yk yX8_write cX8_write 6 (some .int) 2 := ⟨bk_in 804 (by decide +kernel) rfl, bk_in 91 (by decide +kernel) rfl, by decide, by decide, by decide +kernel⟩
theorem yv_X8_write : bk_yv yX8_write := ⟨bk_in 802 (by decide +kernel) rfl, bk_in 803 (by decide +kernel) rfl⟩
theorem yk_X8_count : bk_yk yX8_count cX8_count 2 (some .int) 1 := ⟨bk_in 809 (by decide +kernel) rfl, bk_in 91 (by decide +kernel) rfl, by decide, by decide, by decide +kernel⟩
theorem yv_X8_count : bk_yv yX8_count := ⟨bk_in 807 (by decide +kernel) rfl, bk_in 808 (by decide +kernel) rfl⟩
theorem yk_X8_digest : bk_yk yX8_digest cX8_digest 4 (some .long) 0 := ⟨bk_in 813 (by decide +kernel) rfl, bk_in 91 (by decide +kernel) rfl, by decide, by decide, by decide +kernel⟩
theorem yv_X8_digest : bk_yv yX8_digest := ⟨bk_in 811 (by decide +kernel) rfl, bk_in 812 (by decide +kernel) rfl⟩
theorem yk_X8_foldHook : bk_yk yX8_foldHook cX8_foldHook 6 (some .long) 2 := ⟨bk_in 821 (by decide +kernel) rfl, bk_in 91 (by decide +kernel) rfl, by decide, by decide, by decide +kernel⟩
theorem yv_X8_foldHook : bk_yv yX8_foldHook := ⟨bk_in 820 (by decide +kernel) rfl, bk_in 29 (by decide +kernel) rfl⟩
theorem yk_X8_foldEvening : bk_yk yX8_foldEvening cX8_foldEvening 7 (some .long) 2 := ⟨bk_in 825 (by decide +kernel) rfl, bk_in 91 (by decide +kernel) rfl, by decide, by decide, by decide +kernel⟩
theorem yv_X8_foldEvening : bk_yv yX8_foldEvening := ⟨bk_in 824 (by decide +kernel) rfl, bk_in 30 (by decide +kernel) rfl⟩
theorem yk_X8_foldThing : bk_yk yX8_foldThing cX8_foldThing 6 (some .long) 2 := ⟨bk_in 829 (by decide +kernel) rfl, bk_in 91 (by decide +kernel) rfl, by decide, by decide, by decide +kernel⟩
theorem yv_X8_foldThing : bk_yv yX8_foldThing := ⟨bk_in 828 (by decide +kernel) rfl, bk_in 31 (by decide +kernel) rfl⟩
theorem yk_X8_foldHeat : bk_yk yX8_foldHeat cX8_foldHeat 6 (some .long) 2 := ⟨bk_in 833 (by decide +kernel) rfl, bk_in 91 (by decide +kernel) rfl, by decide, by decide, by decide +kernel⟩
theorem yv_X8_foldHeat : bk_yv yX8_foldHeat := ⟨bk_in 832 (by decide +kernel) rfl, bk_in 32 (by decide +kernel) rfl⟩
theorem yk_X8_foldSums : bk_yk yX8_foldSums cX8_foldSums 6 (some .long) 1 := ⟨bk_in 837 (by decide +kernel) rfl, bk_in 91 (by decide +kernel) rfl, by decide, by decide, by decide +kernel⟩
theorem yv_X8_foldSums : bk_yv yX8_foldSums := ⟨bk_in 836 (by decide +kernel) rfl, bk_in 33 (by decide +kernel) rfl⟩
theorem yk_X8_foldPlans : bk_yk yX8_foldPlans cX8_foldPlans 6 (some .long) 1 := ⟨bk_in 841 (by decide +kernel) rfl, bk_in 91 (by decide +kernel) rfl, by decide, by decide, by decide +kernel⟩
theorem yv_X8_foldPlans : bk_yv yX8_foldPlans := ⟨bk_in 840 (by decide +kernel) rfl, bk_in 34 (by decide +kernel) rfl⟩
theorem yk_X9_init : bk_yk yX9_init cX9_init 1 none 0 := ⟨bk_in 846 (by decide +kernel) rfl, bk_in 101 (by decide +kernel) rfl, by decide, by decide, by decide +kernel⟩
theorem yk_X9_type : bk_yk yX9_type cX9_type 3 (some .int) 2 := ⟨bk_in 1024 (by decide +kernel) rfl, bk_in 101 (by decide +kernel) rfl, by decide, by decide, by decide +kernel⟩
theorem yv_X9_type : bk_yv yX9_type := ⟨bk_in 1022 (by decide +kernel) rfl, bk_in 1023 (by decide +kernel) rfl⟩
theorem yk_X9_isTwo : bk_yk yX9_isTwo cX9_isTwo 1 (some .boolean) 1 := ⟨bk_in 1027 (by decide +kernel) rfl, bk_in 101 (by decide +kernel) rfl, by decide, by decide, by decide +kernel⟩
theorem ys_X9_isTwo : Cond.static yX9_isTwo ∈ lw_good := bk_in 1026 (by decide +kernel) rfl
theorem yk_X9_in : bk_yk yX9_in cX9_in 3 (some .boolean) 3 := ⟨bk_in 1030 (by decide +kernel) rfl, bk_in 101 (by decide +kernel) rfl, by decide, by decide, by decide +kernel⟩
theorem ys_X9_in : Cond.static yX9_in ∈ lw_good := bk_in 1029 (by decide +kernel) rfl
theorem yk_X9_wipe : bk_yk yX9_wipe cX9_wipe 3 (some .int) 1 := ⟨bk_in 1034 (by decide +kernel) rfl, bk_in 101 (by decide +kernel) rfl, by decide, by decide, by decide +kernel⟩
theorem yv_X9_wipe : bk_yv yX9_wipe := ⟨bk_in 1032 (by decide +kernel) rfl, bk_in 1033 (by decide +kernel) rfl⟩
theorem yk_X9_undo : bk_yk yX9_undo cX9_undo 2 (some .int) 1 := ⟨bk_in 1038 (by decide +kernel) rfl, bk_in 101 (by decide +kernel) rfl, by decide, by decide, by decide +kernel⟩
theorem yv_X9_undo : bk_yv yX9_undo := ⟨bk_in 1036 (by decide +kernel) rfl, bk_in 1037 (by decide +kernel) rfl⟩
theorem yk_X9_fault : bk_yk yX9_fault cX9_fault 2 (some .int) 1 := ⟨bk_in 1042 (by decide +kernel) rfl, bk_in 101 (by decide +kernel) rfl, by decide, by decide, by decide +kernel⟩
theorem yv_X9_fault : bk_yv yX9_fault := ⟨bk_in 1040 (by decide +kernel) rfl, bk_in 1041 (by decide +kernel) rfl⟩
theorem yk_X9_faultOf : bk_yk yX9_faultOf cX9_faultOf 4 (some .int) 1 := ⟨bk_in 1046 (by decide +kernel) rfl, bk_in 101 (by decide +kernel) rfl, by decide, by decide, by decide +kernel⟩
theorem yv_X9_faultOf : bk_yv yX9_faultOf := ⟨bk_in 1045 (by decide +kernel) rfl, bk_in 35 (by decide +kernel) rfl⟩
theorem yk_X9_readsHooks : bk_yk yX9_readsHooks cX9_readsHooks 3 (some .int) 0 := ⟨bk_in 1050 (by decide +kernel) rfl, bk_in 101 (by decide +kernel) rfl, by decide, by decide, by decide +kernel⟩
theorem yv_X9_readsHooks : bk_yv yX9_readsHooks := ⟨bk_in 1049 (by decide +kernel) rfl, bk_in 36 (by decide +kernel) rfl⟩
theorem yk_X9_byteAt : bk_yk yX9_byteAt cX9_byteAt 3 (some .int) 2 := ⟨bk_in 1054 (by decide +kernel) rfl, bk_in 101 (by decide +kernel) rfl, by decide, by decide, by decide +kernel⟩
theorem yv_X9_byteAt : bk_yv yX9_byteAt := ⟨bk_in 1053 (by decide +kernel) rfl, bk_in 37 (by decide +kernel) rfl⟩
theorem yk_X9_readsThings : bk_yk yX9_readsThings cX9_readsThings 4 (some .int) 0 := ⟨bk_in 1058 (by decide +kernel) rfl, bk_in 101 (by decide +kernel) rfl, by decide, by decide, by decide +kernel⟩
theorem yv_X9_readsThings : bk_yv yX9_readsThings := ⟨bk_in 1057 (by decide +kernel) rfl, bk_in 38 (by decide +kernel) rfl⟩
theorem yk_X9_readsThing : bk_yk yX9_readsThing cX9_readsThing 7 (some .int) 2 := ⟨bk_in 1062 (by decide +kernel) rfl, bk_in 101 (by decide +kernel) rfl, by decide, by decide, by decide +kernel⟩
theorem yv_X9_readsThing : bk_yv yX9_readsThing := ⟨bk_in 1061 (by decide +kernel) rfl, bk_in 39 (by decide +kernel) rfl⟩
theorem yk_X9_hook : bk_yk yX9_hook cX9_hook 2 (some .int) 1 := ⟨bk_in 1066 (by decide +kernel) rfl, bk_in 101 (by decide +kernel) rfl, by decide, by decide, by decide +kernel⟩
theorem yv_X9_hook : bk_yv yX9_hook := ⟨bk_in 1064 (by decide +kernel) rfl, bk_in 1065 (by decide +kernel) rfl⟩
theorem yk_X9_isHook : bk_yk yX9_isHook cX9_isHook 2 (some .boolean) 1 := ⟨bk_in 1070 (by decide +kernel) rfl, bk_in 101 (by decide +kernel) rfl, by decide, by decide, by decide +kernel⟩
theorem yv_X9_isHook : bk_yv yX9_isHook := ⟨bk_in 1069 (by decide +kernel) rfl, bk_in 40 (by decide +kernel) rfl⟩
theorem yk_X9_reads : bk_yk yX9_reads cX9_reads 2 none 0 := ⟨bk_in 1074 (by decide +kernel) rfl, bk_in 101 (by decide +kernel) rfl, by decide, by decide, by decide +kernel⟩
theorem yv_X9_reads : bk_yv yX9_reads := ⟨bk_in 1073 (by decide +kernel) rfl, bk_in 41 (by decide +kernel) rfl⟩
theorem yk_X9_thing : bk_yk yX9_thing cX9_thing 3 (some .int) 2 := ⟨bk_in 1078 (by decide +kernel) rfl, bk_in 101 (by decide +kernel) rfl, by decide, by decide, by decide +kernel⟩
theorem yv_X9_thing : bk_yv yX9_thing := ⟨bk_in 1076 (by decide +kernel) rfl, bk_in 1077 (by decide +kernel) rfl⟩
theorem yk_X9_isThing : bk_yk yX9_isThing cX9_isThing 2 (some .boolean) 1 := ⟨bk_in 1082 (by decide +kernel) rfl, bk_in 101 (by decide +kernel) rfl, by decide, by decide, by decide +kernel⟩
theorem yv_X9_isThing : bk_yv yX9_isThing := ⟨bk_in 1081 (by decide +kernel) rfl, bk_in 42 (by decide +kernel) rfl⟩
theorem yk_X9_isThree : bk_yk yX9_isThree cX9_isThree 1 (some .boolean) 1 := ⟨bk_in 1085 (by decide +kernel) rfl, bk_in 101 (by decide +kernel) rfl, by decide, by decide, by decide +kernel⟩
theorem ys_X9_isThree : Cond.static yX9_isThree ∈ lw_good := bk_in 1084 (by decide +kernel) rfl
theorem yk_X9_thingOf : bk_yk yX9_thingOf cX9_thingOf 3 (some .int) 2 := ⟨bk_in 1089 (by decide +kernel) rfl, bk_in 101 (by decide +kernel) rfl, by decide, by decide, by decide +kernel⟩
theorem yv_X9_thingOf : bk_yv yX9_thingOf := ⟨bk_in 1088 (by decide +kernel) rfl, bk_in 43 (by decide +kernel) rfl⟩
theorem yk_X9_event : bk_yk yX9_event cX9_event 4 (some .int) 3 := ⟨bk_in 1093 (by decide +kernel) rfl, bk_in 101 (by decide +kernel) rfl, by decide, by decide, by decide +kernel⟩
theorem yv_X9_event : bk_yv yX9_event := ⟨bk_in 1091 (by decide +kernel) rfl, bk_in 1092 (by decide +kernel) rfl⟩
theorem yk_X9_isTwelve : bk_yk yX9_isTwelve cX9_isTwelve 1 (some .boolean) 1 := ⟨bk_in 1096 (by decide +kernel) rfl, bk_in 101 (by decide +kernel) rfl, by decide, by decide, by decide +kernel⟩
theorem ys_X9_isTwelve : Cond.static yX9_isTwelve ∈ lw_good := bk_in 1095 (by decide +kernel) rfl
theorem yk_X9_back : bk_yk yX9_back cX9_back 1 (some .int) 0 := ⟨bk_in 1100 (by decide +kernel) rfl, bk_in 101 (by decide +kernel) rfl, by decide, by decide, by decide +kernel⟩
theorem yv_X9_back : bk_yv yX9_back := ⟨bk_in 1098 (by decide +kernel) rfl, bk_in 1099 (by decide +kernel) rfl⟩
theorem yk_X9_read : bk_yk yX9_read cX9_read 4 (some .int) 1 := ⟨bk_in 1104 (by decide +kernel) rfl, bk_in 101 (by decide +kernel) rfl, by decide, by decide, by decide +kernel⟩
theorem yv_X9_read : bk_yv yX9_read := ⟨bk_in 1102 (by decide +kernel) rfl, bk_in 1103 (by decide +kernel) rfl⟩
theorem yk_X9_isSheet : bk_yk yX9_isSheet cX9_isSheet 1 (some .boolean) 1 := ⟨bk_in 1107 (by decide +kernel) rfl, bk_in 101 (by decide +kernel) rfl, by decide, by decide, by decide +kernel⟩
theorem ys_X9_isSheet : Cond.static yX9_isSheet ∈ lw_good := bk_in 1106 (by decide +kernel) rfl
theorem yk_X9_meets : bk_yk yX9_meets cX9_meets 2 (some .int) 1 := ⟨bk_in 1111 (by decide +kernel) rfl, bk_in 101 (by decide +kernel) rfl, by decide, by decide, by decide +kernel⟩
theorem yv_X9_meets : bk_yv yX9_meets := ⟨bk_in 1110 (by decide +kernel) rfl, bk_in 44 (by decide +kernel) rfl⟩
theorem yk_X9_heat : bk_yk yX9_heat cX9_heat 4 (some .int) 3 := ⟨bk_in 1116 (by decide +kernel) rfl, bk_in 101 (by decide +kernel) rfl, by decide, by decide, by decide +kernel⟩
theorem yv_X9_heat : bk_yv yX9_heat := ⟨bk_in 1114 (by decide +kernel) rfl, bk_in 1115 (by decide +kernel) rfl⟩
theorem yk_X9_heatOf : bk_yk yX9_heatOf cX9_heatOf 4 (some .int) 3 := ⟨bk_in 1120 (by decide +kernel) rfl, bk_in 101 (by decide +kernel) rfl, by decide, by decide, by decide +kernel⟩
theorem yv_X9_heatOf : bk_yv yX9_heatOf := ⟨bk_in 1119 (by decide +kernel) rfl, bk_in 45 (by decide +kernel) rfl⟩
theorem yk_X9_runsTold : bk_yk yX9_runsTold cX9_runsTold 1 none 0 := ⟨bk_in 1124 (by decide +kernel) rfl, bk_in 101 (by decide +kernel) rfl, by decide, by decide, by decide +kernel⟩
theorem yv_X9_runsTold : bk_yv yX9_runsTold := ⟨bk_in 1123 (by decide +kernel) rfl, bk_in 46 (by decide +kernel) rfl⟩
theorem yk_X9_asTold : bk_yk yX9_asTold cX9_asTold 2 none 0 := ⟨bk_in 1128 (by decide +kernel) rfl, bk_in 101 (by decide +kernel) rfl, by decide, by decide, by decide +kernel⟩
theorem yv_X9_asTold : bk_yv yX9_asTold := ⟨bk_in 1127 (by decide +kernel) rfl, bk_in 47 (by decide +kernel) rfl⟩
theorem yk_X9_runs : bk_yk yX9_runs cX9_runs 2 none 0 := ⟨bk_in 1132 (by decide +kernel) rfl, bk_in 101 (by decide +kernel) rfl, by decide, by decide, by decide +kernel⟩
theorem yv_X9_runs : bk_yv yX9_runs := ⟨bk_in 1131 (by decide +kernel) rfl, bk_in 48 (by decide +kernel) rfl⟩
theorem yk_X9_goesBy : bk_yk yX9_goesBy cX9_goesBy 3 none 1 := ⟨bk_in 1136 (by decide +kernel) rfl, bk_in 101 (by decide +kernel) rfl, by decide, by decide, by decide +kernel⟩
theorem yv_X9_goesBy : bk_yv yX9_goesBy := ⟨bk_in 1135 (by decide +kernel) rfl, bk_in 49 (by decide +kernel) rfl⟩
theorem yk_X9_befalls : bk_yk yX9_befalls cX9_befalls 3 none 1 := ⟨bk_in 1140 (by decide +kernel) rfl, bk_in 101 (by decide +kernel) rfl, by decide, by decide, by decide +kernel⟩
theorem yv_X9_befalls : bk_yv yX9_befalls := ⟨bk_in 1139 (by decide +kernel) rfl, bk_in 50 (by decide +kernel) rfl⟩
theorem yk_X9_isIn : bk_yk yX9_isIn cX9_isIn 2 (some .boolean) 2 := ⟨bk_in 1143 (by decide +kernel) rfl, bk_in 101 (by decide +kernel) rfl, by decide, by decide, by decide +kernel⟩
theorem ys_X9_isIn : Cond.static yX9_isIn ∈ lw_good := bk_in 1142 (by decide +kernel) rfl
theorem yk_X9_heatsUp : bk_yk yX9_heatsUp cX9_heatsUp 2 none 0 := ⟨bk_in 1147 (by decide +kernel) rfl, bk_in 101 (by decide +kernel) rfl, by decide, by decide, by decide +kernel⟩
theorem yv_X9_heatsUp : bk_yv yX9_heatsUp := ⟨bk_in 1146 (by decide +kernel) rfl, bk_in 51 (by decide +kernel) rfl⟩
theorem yk_X9_isOpen : bk_yk yX9_isOpen cX9_isOpen 2 (some .boolean) 1 := ⟨bk_in 1151 (by decide +kernel) rfl, bk_in 101 (by decide +kernel) rfl, by decide, by decide, by decide +kernel⟩
theorem yv_X9_isOpen : bk_yv yX9_isOpen := ⟨bk_in 1150 (by decide +kernel) rfl, bk_in 52 (by decide +kernel) rfl⟩
theorem yk_X9_lastOf : bk_yk yX9_lastOf cX9_lastOf 3 (some .int) 0 := ⟨bk_in 1155 (by decide +kernel) rfl, bk_in 101 (by decide +kernel) rfl, by decide, by decide, by decide +kernel⟩
theorem yv_X9_lastOf : bk_yv yX9_lastOf := ⟨bk_in 1154 (by decide +kernel) rfl, bk_in 53 (by decide +kernel) rfl⟩
theorem yk_X9_takes : bk_yk yX9_takes cX9_takes 2 (some .int) 1 := ⟨bk_in 1159 (by decide +kernel) rfl, bk_in 101 (by decide +kernel) rfl, by decide, by decide, by decide +kernel⟩
theorem yv_X9_takes : bk_yv yX9_takes := ⟨bk_in 1158 (by decide +kernel) rfl, bk_in 54 (by decide +kernel) rfl⟩
theorem yk_X9_does : bk_yk yX9_does cX9_does 5 none 2 := ⟨bk_in 1163 (by decide +kernel) rfl, bk_in 101 (by decide +kernel) rfl, by decide, by decide, by decide +kernel⟩
theorem yv_X9_does : bk_yv yX9_does := ⟨bk_in 1162 (by decide +kernel) rfl, bk_in 55 (by decide +kernel) rfl⟩
theorem yk_X9_says : bk_yk yX9_says cX9_says 5 none 2 := ⟨bk_in 1167 (by decide +kernel) rfl, bk_in 101 (by decide +kernel) rfl, by decide, by decide, by decide +kernel⟩
theorem yv_X9_says : bk_yv yX9_says := ⟨bk_in 1166 (by decide +kernel) rfl, bk_in 56 (by decide +kernel) rfl⟩
theorem yk_X9_chosen : bk_yk yX9_chosen cX9_chosen 6 (some .int) 1 := ⟨bk_in 1171 (by decide +kernel) rfl, bk_in 101 (by decide +kernel) rfl, by decide, by decide, by decide +kernel⟩
theorem yv_X9_chosen : bk_yv yX9_chosen := ⟨bk_in 1170 (by decide +kernel) rfl, bk_in 57 (by decide +kernel) rfl⟩
theorem yk_X9_notes : bk_yk yX9_notes cX9_notes 4 none 1 := ⟨bk_in 1175 (by decide +kernel) rfl, bk_in 101 (by decide +kernel) rfl, by decide, by decide, by decide +kernel⟩
theorem yv_X9_notes : bk_yv yX9_notes := ⟨bk_in 1174 (by decide +kernel) rfl, bk_in 58 (by decide +kernel) rfl⟩
theorem yk_X9_said : bk_yk yX9_said cX9_said 3 (some .int) 2 := ⟨bk_in 1179 (by decide +kernel) rfl, bk_in 101 (by decide +kernel) rfl, by decide, by decide, by decide +kernel⟩
theorem yv_X9_said : bk_yv yX9_said := ⟨bk_in 1177 (by decide +kernel) rfl, bk_in 1178 (by decide +kernel) rfl⟩
theorem yk_X9_saidOf : bk_yk yX9_saidOf cX9_saidOf 3 (some .int) 2 := ⟨bk_in 1183 (by decide +kernel) rfl, bk_in 101 (by decide +kernel) rfl, by decide, by decide, by decide +kernel⟩
theorem yv_X9_saidOf : bk_yv yX9_saidOf := ⟨bk_in 1182 (by decide +kernel) rfl, bk_in 59 (by decide +kernel) rfl⟩
theorem yk_X9_at : bk_yk yX9_at cX9_at 3 (some .int) 2 := ⟨bk_in 1187 (by decide +kernel) rfl, bk_in 101 (by decide +kernel) rfl, by decide, by decide, by decide +kernel⟩
theorem yv_X9_at : bk_yv yX9_at := ⟨bk_in 1185 (by decide +kernel) rfl, bk_in 1186 (by decide +kernel) rfl⟩
theorem yk_X9_atOf : bk_yk yX9_atOf cX9_atOf 3 (some .int) 2 := ⟨bk_in 1191 (by decide +kernel) rfl, bk_in 101 (by decide +kernel) rfl, by decide, by decide, by decide +kernel⟩
theorem yv_X9_atOf : bk_yv yX9_atOf := ⟨bk_in 1190 (by decide +kernel) rfl, bk_in 60 (by decide +kernel) rfl⟩
theorem yk_X9_settled : bk_yk yX9_settled cX9_settled 2 (some .int) 1 := ⟨bk_in 1195 (by decide +kernel) rfl, bk_in 101 (by decide +kernel) rfl, by decide, by decide, by decide +kernel⟩
theorem yv_X9_settled : bk_yv yX9_settled := ⟨bk_in 1193 (by decide +kernel) rfl, bk_in 1194 (by decide +kernel) rfl⟩
theorem yk_X9_settledOf : bk_yk yX9_settledOf cX9_settledOf 2 (some .int) 1 := ⟨bk_in 1199 (by decide +kernel) rfl, bk_in 101 (by decide +kernel) rfl, by decide, by decide, by decide +kernel⟩
theorem yv_X9_settledOf : bk_yv yX9_settledOf := ⟨bk_in 1198 (by decide +kernel) rfl, bk_in 61 (by decide +kernel) rfl⟩
theorem yk_X9_sum : bk_yk yX9_sum cX9_sum 2 (some .int) 1 := ⟨bk_in 1203 (by decide +kernel) rfl, bk_in 101 (by decide +kernel) rfl, by decide, by decide, by decide +kernel⟩
theorem yv_X9_sum : bk_yv yX9_sum := ⟨bk_in 1201 (by decide +kernel) rfl, bk_in 1202 (by decide +kernel) rfl⟩
theorem yk_X9_sumOf : bk_yk yX9_sumOf cX9_sumOf 2 (some .int) 1 := ⟨bk_in 1207 (by decide +kernel) rfl, bk_in 101 (by decide +kernel) rfl, by decide, by decide, by decide +kernel⟩
theorem yv_X9_sumOf : bk_yv yX9_sumOf := ⟨bk_in 1206 (by decide +kernel) rfl, bk_in 62 (by decide +kernel) rfl⟩
theorem yk_X9_manySettled : bk_yk yX9_manySettled cX9_manySettled 3 (some .int) 0 := ⟨bk_in 1211 (by decide +kernel) rfl, bk_in 101 (by decide +kernel) rfl, by decide, by decide, by decide +kernel⟩
theorem yv_X9_manySettled : bk_yv yX9_manySettled := ⟨bk_in 1210 (by decide +kernel) rfl, bk_in 63 (by decide +kernel) rfl⟩
theorem yk_X9_peace : bk_yk yX9_peace cX9_peace 1 (some .int) 0 := ⟨bk_in 1215 (by decide +kernel) rfl, bk_in 101 (by decide +kernel) rfl, by decide, by decide, by decide +kernel⟩
theorem yv_X9_peace : bk_yv yX9_peace := ⟨bk_in 1213 (by decide +kernel) rfl, bk_in 1214 (by decide +kernel) rfl⟩
theorem yk_X9_peaceOf : bk_yk yX9_peaceOf cX9_peaceOf 1 (some .int) 0 := ⟨bk_in 1219 (by decide +kernel) rfl, bk_in 101 (by decide +kernel) rfl, by decide, by decide, by decide +kernel⟩
theorem yv_X9_peaceOf : bk_yv yX9_peaceOf := ⟨bk_in 1218 (by decide +kernel) rfl, bk_in 64 (by decide +kernel) rfl⟩
theorem yk_X9_longest : bk_yk yX9_longest cX9_longest 1 (some .int) 0 := ⟨bk_in 1223 (by decide +kernel) rfl, bk_in 101 (by decide +kernel) rfl, by decide, by decide, by decide +kernel⟩
theorem yv_X9_longest : bk_yv yX9_longest := ⟨bk_in 1221 (by decide +kernel) rfl, bk_in 1222 (by decide +kernel) rfl⟩
theorem yk_X9_longestOf : bk_yk yX9_longestOf cX9_longestOf 4 (some .int) 0 := ⟨bk_in 1227 (by decide +kernel) rfl, bk_in 101 (by decide +kernel) rfl, by decide, by decide, by decide +kernel⟩
theorem yv_X9_longestOf : bk_yv yX9_longestOf := ⟨bk_in 1226 (by decide +kernel) rfl, bk_in 65 (by decide +kernel) rfl⟩
theorem yk_X9_highest : bk_yk yX9_highest cX9_highest 2 (some .int) 1 := ⟨bk_in 1231 (by decide +kernel) rfl, bk_in 101 (by decide +kernel) rfl, by decide, by decide, by decide +kernel⟩
theorem yv_X9_highest : bk_yv yX9_highest := ⟨bk_in 1229 (by decide +kernel) rfl, bk_in 1230 (by decide +kernel) rfl⟩
theorem yk_X9_highestOf : bk_yk yX9_highestOf cX9_highestOf 2 (some .int) 1 := ⟨bk_in 1235 (by decide +kernel) rfl, bk_in 101 (by decide +kernel) rfl, by decide, by decide, by decide +kernel⟩
theorem yv_X9_highestOf : bk_yv yX9_highestOf := ⟨bk_in 1234 (by decide +kernel) rfl, bk_in 66 (by decide +kernel) rfl⟩
theorem yk_X9_sore : bk_yk yX9_sore cX9_sore 1 (some .int) 0 := ⟨bk_in 1239 (by decide +kernel) rfl, bk_in 101 (by decide +kernel) rfl, by decide, by decide, by decide +kernel⟩
theorem yv_X9_sore : bk_yv yX9_sore := ⟨bk_in 1237 (by decide +kernel) rfl, bk_in 1238 (by decide +kernel) rfl⟩
theorem yk_X9_soreOf : bk_yk yX9_soreOf cX9_soreOf 1 (some .int) 0 := ⟨bk_in 1243 (by decide +kernel) rfl, bk_in 101 (by decide +kernel) rfl, by decide, by decide, by decide +kernel⟩
theorem yv_X9_soreOf : bk_yv yX9_soreOf := ⟨bk_in 1242 (by decide +kernel) rfl, bk_in 67 (by decide +kernel) rfl⟩
theorem yk_X9_swap : bk_yk yX9_swap cX9_swap 2 (some .int) 1 := ⟨bk_in 1247 (by decide +kernel) rfl, bk_in 101 (by decide +kernel) rfl, by decide, by decide, by decide +kernel⟩
theorem yv_X9_swap : bk_yv yX9_swap := ⟨bk_in 1245 (by decide +kernel) rfl, bk_in 1246 (by decide +kernel) rfl⟩
theorem yk_X9_swapOf : bk_yk yX9_swapOf cX9_swapOf 4 (some .int) 1 := ⟨bk_in 1251 (by decide +kernel) rfl, bk_in 101 (by decide +kernel) rfl, by decide, by decide, by decide +kernel⟩
theorem yv_X9_swapOf : bk_yv yX9_swapOf := ⟨bk_in 1250 (by decide +kernel) rfl, bk_in 68 (by decide +kernel) rfl⟩
theorem yk_X9_starts : bk_yk yX9_starts cX9_starts 1 none 0 := ⟨bk_in 1255 (by decide +kernel) rfl, bk_in 101 (by decide +kernel) rfl, by decide, by decide, by decide +kernel⟩
theorem yv_X9_starts : bk_yv yX9_starts := ⟨bk_in 1254 (by decide +kernel) rfl, bk_in 69 (by decide +kernel) rfl⟩
theorem yk_X9_puts : bk_yk yX9_puts cX9_puts 3 none 2 := ⟨bk_in 1259 (by decide +kernel) rfl, bk_in 101 (by decide +kernel) rfl, by decide, by decide, by decide +kernel⟩
theorem yv_X9_puts : bk_yv yX9_puts := ⟨bk_in 1258 (by decide +kernel) rfl, bk_in 70 (by decide +kernel) rfl⟩
theorem yk_X9_tries : bk_yk yX9_tries cX9_tries 3 none 1 := ⟨bk_in 1263 (by decide +kernel) rfl, bk_in 101 (by decide +kernel) rfl, by decide, by decide, by decide +kernel⟩
theorem yv_X9_tries : bk_yv yX9_tries := ⟨bk_in 1262 (by decide +kernel) rfl, bk_in 71 (by decide +kernel) rfl⟩
theorem yk_X9_fit : bk_yk yX9_fit cX9_fit 1 (some .int) 0 := ⟨bk_in 1267 (by decide +kernel) rfl, bk_in 101 (by decide +kernel) rfl, by decide, by decide, by decide +kernel⟩
theorem yv_X9_fit : bk_yv yX9_fit := ⟨bk_in 1265 (by decide +kernel) rfl, bk_in 1266 (by decide +kernel) rfl⟩
theorem yk_X9_fitOf : bk_yk yX9_fitOf cX9_fitOf 2 (some .int) 0 := ⟨bk_in 1271 (by decide +kernel) rfl, bk_in 101 (by decide +kernel) rfl, by decide, by decide, by decide +kernel⟩
theorem yv_X9_fitOf : bk_yv yX9_fitOf := ⟨bk_in 1270 (by decide +kernel) rfl, bk_in 72 (by decide +kernel) rfl⟩
theorem yk_X9_leave : bk_yk yX9_leave cX9_leave 3 (some .int) 2 := ⟨bk_in 1275 (by decide +kernel) rfl, bk_in 101 (by decide +kernel) rfl, by decide, by decide, by decide +kernel⟩
theorem yv_X9_leave : bk_yv yX9_leave := ⟨bk_in 1273 (by decide +kernel) rfl, bk_in 1274 (by decide +kernel) rfl⟩
theorem yk_X9_leaveTold : bk_yk yX9_leaveTold cX9_leaveTold 3 (some .int) 2 := ⟨bk_in 1279 (by decide +kernel) rfl, bk_in 101 (by decide +kernel) rfl, by decide, by decide, by decide +kernel⟩
theorem yv_X9_leaveTold : bk_yv yX9_leaveTold := ⟨bk_in 1278 (by decide +kernel) rfl, bk_in 73 (by decide +kernel) rfl⟩
theorem yk_X9_leaveOf : bk_yk yX9_leaveOf cX9_leaveOf 4 (some .int) 2 := ⟨bk_in 1283 (by decide +kernel) rfl, bk_in 101 (by decide +kernel) rfl, by decide, by decide, by decide +kernel⟩
theorem yv_X9_leaveOf : bk_yv yX9_leaveOf := ⟨bk_in 1282 (by decide +kernel) rfl, bk_in 74 (by decide +kernel) rfl⟩
theorem yk_X9_spare : bk_yk yX9_spare cX9_spare 2 (some .int) 1 := ⟨bk_in 1287 (by decide +kernel) rfl, bk_in 101 (by decide +kernel) rfl, by decide, by decide, by decide +kernel⟩
theorem yv_X9_spare : bk_yv yX9_spare := ⟨bk_in 1285 (by decide +kernel) rfl, bk_in 1286 (by decide +kernel) rfl⟩
theorem yk_X9_spareBy : bk_yk yX9_spareBy cX9_spareBy 3 (some .int) 0 := ⟨bk_in 1291 (by decide +kernel) rfl, bk_in 101 (by decide +kernel) rfl, by decide, by decide, by decide +kernel⟩
theorem yv_X9_spareBy : bk_yv yX9_spareBy := ⟨bk_in 1290 (by decide +kernel) rfl, bk_in 75 (by decide +kernel) rfl⟩
theorem yk_X9_isSpared : bk_yk yX9_isSpared cX9_isSpared 2 (some .boolean) 1 := ⟨bk_in 1295 (by decide +kernel) rfl, bk_in 101 (by decide +kernel) rfl, by decide, by decide, by decide +kernel⟩
theorem yv_X9_isSpared : bk_yv yX9_isSpared := ⟨bk_in 1294 (by decide +kernel) rfl, bk_in 76 (by decide +kernel) rfl⟩
theorem yk_X9_ofRow : bk_yk yX9_ofRow cX9_ofRow 3 (some .int) 2 := ⟨bk_in 1299 (by decide +kernel) rfl, bk_in 101 (by decide +kernel) rfl, by decide, by decide, by decide +kernel⟩
theorem yv_X9_ofRow : bk_yv yX9_ofRow := ⟨bk_in 1298 (by decide +kernel) rfl, bk_in 77 (by decide +kernel) rfl⟩
theorem yk_X9_seen : bk_yk yX9_seen cX9_seen 4 (some .int) 3 := ⟨bk_in 1303 (by decide +kernel) rfl, bk_in 101 (by decide +kernel) rfl, by decide, by decide, by decide +kernel⟩
theorem yv_X9_seen : bk_yv yX9_seen := ⟨bk_in 1301 (by decide +kernel) rfl, bk_in 1302 (by decide +kernel) rfl⟩
theorem yk_X9_forget : bk_yk yX9_forget cX9_forget 2 (some .int) 0 := ⟨bk_in 1307 (by decide +kernel) rfl, bk_in 101 (by decide +kernel) rfl, by decide, by decide, by decide +kernel⟩
theorem yv_X9_forget : bk_yv yX9_forget := ⟨bk_in 1305 (by decide +kernel) rfl, bk_in 1306 (by decide +kernel) rfl⟩
theorem yk_X9_never : bk_yk yX9_never cX9_never 1 (some .int) 0 := ⟨bk_in 1311 (by decide +kernel) rfl, bk_in 101 (by decide +kernel) rfl, by decide, by decide, by decide +kernel⟩
theorem yv_X9_never : bk_yv yX9_never := ⟨bk_in 1309 (by decide +kernel) rfl, bk_in 1310 (by decide +kernel) rfl⟩
theorem yk_X9_neverNow : bk_yk yX9_neverNow cX9_neverNow 3 (some .int) 0 := ⟨bk_in 1315 (by decide +kernel) rfl, bk_in 101 (by decide +kernel) rfl, by decide, by decide, by decide +kernel⟩
theorem yv_X9_neverNow : bk_yv yX9_neverNow := ⟨bk_in 1314 (by decide +kernel) rfl, bk_in 78 (by decide +kernel) rfl⟩
theorem yk_X9_isSeen : bk_yk yX9_isSeen cX9_isSeen 3 (some .boolean) 0 := ⟨bk_in 1319 (by decide +kernel) rfl, bk_in 101 (by decide +kernel) rfl, by decide, by decide, by decide +kernel⟩
theorem yv_X9_isSeen : bk_yv yX9_isSeen := ⟨bk_in 1318 (by decide +kernel) rfl, bk_in 79 (by decide +kernel) rfl⟩
theorem yk_X9_was : bk_yk yX9_was cX9_was 3 (some .int) 2 := ⟨bk_in 1323 (by decide +kernel) rfl, bk_in 101 (by decide +kernel) rfl, by decide, by decide, by decide +kernel⟩
theorem yv_X9_was : bk_yv yX9_was := ⟨bk_in 1321 (by decide +kernel) rfl, bk_in 1322 (by decide +kernel) rfl⟩
theorem yk_X9_heatsBy : bk_yk yX9_heatsBy cX9_heatsBy 5 (some .int) 1 := ⟨bk_in 1327 (by decide +kernel) rfl, bk_in 101 (by decide +kernel) rfl, by decide, by decide, by decide +kernel⟩
theorem yv_X9_heatsBy : bk_yv yX9_heatsBy := ⟨bk_in 1326 (by decide +kernel) rfl, bk_in 80 (by decide +kernel) rfl⟩
theorem yk_X9_sortsBy : bk_yk yX9_sortsBy cX9_sortsBy 4 (some .int) 1 := ⟨bk_in 1331 (by decide +kernel) rfl, bk_in 101 (by decide +kernel) rfl, by decide, by decide, by decide +kernel⟩
theorem yv_X9_sortsBy : bk_yv yX9_sortsBy := ⟨bk_in 1330 (by decide +kernel) rfl, bk_in 81 (by decide +kernel) rfl⟩
theorem yk_X9_ask : bk_yk yX9_ask cX9_ask 2 (some .int) 1 := ⟨bk_in 1335 (by decide +kernel) rfl, bk_in 101 (by decide +kernel) rfl, by decide, by decide, by decide +kernel⟩
theorem yv_X9_ask : bk_yv yX9_ask := ⟨bk_in 1333 (by decide +kernel) rfl, bk_in 1334 (by decide +kernel) rfl⟩
theorem yk_X9_askOf : bk_yk yX9_askOf cX9_askOf 10 (some .int) 1 := ⟨bk_in 1339 (by decide +kernel) rfl, bk_in 101 (by decide +kernel) rfl, by decide, by decide, by decide +kernel⟩
theorem yv_X9_askOf : bk_yv yX9_askOf := ⟨bk_in 1338 (by decide +kernel) rfl, bk_in 82 (by decide +kernel) rfl⟩
theorem yk_X9_chance : bk_yk yX9_chance cX9_chance 4 (some .long) 3 := ⟨bk_in 1343 (by decide +kernel) rfl, bk_in 101 (by decide +kernel) rfl, by decide, by decide, by decide +kernel⟩
theorem yv_X9_chance : bk_yv yX9_chance := ⟨bk_in 1341 (by decide +kernel) rfl, bk_in 1342 (by decide +kernel) rfl⟩
theorem yk_X9_chanceOf : bk_yk yX9_chanceOf cX9_chanceOf 10 (some .long) 3 := ⟨bk_in 1347 (by decide +kernel) rfl, bk_in 101 (by decide +kernel) rfl, by decide, by decide, by decide +kernel⟩
theorem yv_X9_chanceOf : bk_yv yX9_chanceOf := ⟨bk_in 1346 (by decide +kernel) rfl, bk_in 83 (by decide +kernel) rfl⟩
theorem yk_X9_lowest : bk_yk yX9_lowest cX9_lowest 11 (some .long) 3 := ⟨bk_in 1350 (by decide +kernel) rfl, bk_in 101 (by decide +kernel) rfl, by decide, by decide, by decide +kernel⟩
theorem ys_X9_lowest : Cond.static yX9_lowest ∈ lw_good := bk_in 1349 (by decide +kernel) rfl
theorem yk_X9_no : bk_yk yX9_no cX9_no 1 (some .long) 1 := ⟨bk_in 1353 (by decide +kernel) rfl, bk_in 101 (by decide +kernel) rfl, by decide, by decide, by decide +kernel⟩
theorem ys_X9_no : Cond.static yX9_no ∈ lw_good := bk_in 1352 (by decide +kernel) rfl
theorem yk_X9_seasons : bk_yk yX9_seasons cX9_seasons 4 (some .int) 3 := ⟨bk_in 1358 (by decide +kernel) rfl, bk_in 101 (by decide +kernel) rfl, by decide, by decide, by decide +kernel⟩
theorem yv_X9_seasons : bk_yv yX9_seasons := ⟨bk_in 1356 (by decide +kernel) rfl, bk_in 1357 (by decide +kernel) rfl⟩
theorem yk_X9_seasonsOf : bk_yk yX9_seasonsOf cX9_seasonsOf 6 (some .int) 3 := ⟨bk_in 1362 (by decide +kernel) rfl, bk_in 101 (by decide +kernel) rfl, by decide, by decide, by decide +kernel⟩
theorem yv_X9_seasonsOf : bk_yv yX9_seasonsOf := ⟨bk_in 1361 (by decide +kernel) rfl, bk_in 84 (by decide +kernel) rfl⟩
theorem yk_X9_sheet : bk_yk yX9_sheet cX9_sheet 5 (some .int) 3 := ⟨bk_in 1367 (by decide +kernel) rfl, bk_in 101 (by decide +kernel) rfl, by decide, by decide, by decide +kernel⟩
theorem yv_X9_sheet : bk_yv yX9_sheet := ⟨bk_in 1365 (by decide +kernel) rfl, bk_in 1366 (by decide +kernel) rfl⟩
theorem yk_X9_lose : bk_yk yX9_lose cX9_lose 2 (some .int) 1 := ⟨bk_in 1371 (by decide +kernel) rfl, bk_in 101 (by decide +kernel) rfl, by decide, by decide, by decide +kernel⟩
theorem yv_X9_lose : bk_yv yX9_lose := ⟨bk_in 1369 (by decide +kernel) rfl, bk_in 1370 (by decide +kernel) rfl⟩
theorem yk_X9_put : bk_yk yX9_put cX9_put 6 (some .int) 4 := ⟨bk_in 1375 (by decide +kernel) rfl, bk_in 101 (by decide +kernel) rfl, by decide, by decide, by decide +kernel⟩
theorem yv_X9_put : bk_yv yX9_put := ⟨bk_in 1373 (by decide +kernel) rfl, bk_in 1374 (by decide +kernel) rfl⟩
theorem yk_X9_lacks : bk_yk yX9_lacks cX9_lacks 4 (some .int) 3 := ⟨bk_in 1379 (by decide +kernel) rfl, bk_in 101 (by decide +kernel) rfl, by decide, by decide, by decide +kernel⟩
theorem yv_X9_lacks : bk_yv yX9_lacks := ⟨bk_in 1378 (by decide +kernel) rfl, bk_in 85 (by decide +kernel) rfl⟩
theorem yk_X9_keep : bk_yk yX9_keep cX9_keep 4 none 3 := ⟨bk_in 1383 (by decide +kernel) rfl, bk_in 101 (by decide +kernel) rfl, by decide, by decide, by decide +kernel⟩
theorem yv_X9_keep : bk_yv yX9_keep := ⟨bk_in 1382 (by decide +kernel) rfl, bk_in 86 (by decide +kernel) rfl⟩
theorem yk_X9_get : bk_yk yX9_get cX9_get 5 (some .int) 3 := ⟨bk_in 1387 (by decide +kernel) rfl, bk_in 101 (by decide +kernel) rfl, by decide, by decide, by decide +kernel⟩
theorem yv_X9_get : bk_yv yX9_get := ⟨bk_in 1385 (by decide +kernel) rfl, bk_in 1386 (by decide +kernel) rfl⟩
theorem yk_X9_copy : bk_yk yX9_copy cX9_copy 7 (some .int) 5 := ⟨bk_in 1392 (by decide +kernel) rfl, bk_in 101 (by decide +kernel) rfl, by decide, by decide, by decide +kernel⟩
theorem yv_X9_copy : bk_yv yX9_copy := ⟨bk_in 1390 (by decide +kernel) rfl, bk_in 1391 (by decide +kernel) rfl⟩
theorem yk_X9_write : bk_yk yX9_write cX9_write 4 (some .int) 2 := ⟨bk_in 1396 (by decide +kernel) rfl, bk_in 101 (by decide +kernel) rfl, by decide, by decide, by decide +kernel⟩
theorem yv_X9_write : bk_yv yX9_write := ⟨bk_in 1394 (by decide +kernel) rfl, bk_in 1395 (by decide +kernel) rfl⟩
theorem yk_X9_count : bk_yk yX9_count cX9_count 2 (some .int) 1 := ⟨bk_in 1400 (by decide +kernel) rfl, bk_in 101 (by decide +kernel) rfl, by decide, by decide, by decide +kernel⟩
theorem yv_X9_count : bk_yv yX9_count := ⟨bk_in 1398 (by decide +kernel) rfl, bk_in 1399 (by decide +kernel) rfl⟩
theorem yk_X9_tellOf : bk_yk yX9_tellOf cX9_tellOf 2 (some .int) 1 := ⟨bk_in 1404 (by decide +kernel) rfl, bk_in 101 (by decide +kernel) rfl, by decide, by decide, by decide +kernel⟩
theorem yv_X9_tellOf : bk_yv yX9_tellOf := ⟨bk_in 1403 (by decide +kernel) rfl, bk_in 87 (by decide +kernel) rfl⟩
theorem yk_X9_digest : bk_yk yX9_digest cX9_digest 5 (some .long) 0 := ⟨bk_in 1408 (by decide +kernel) rfl, bk_in 101 (by decide +kernel) rfl, by decide, by decide, by decide +kernel⟩
theorem yv_X9_digest : bk_yv yX9_digest := ⟨bk_in 1406 (by decide +kernel) rfl, bk_in 1407 (by decide +kernel) rfl⟩
theorem yk_X9_thingDigest : bk_yk yX9_thingDigest cX9_thingDigest 7 (some .long) 2 := ⟨bk_in 1415 (by decide +kernel) rfl, bk_in 101 (by decide +kernel) rfl, by decide, by decide, by decide +kernel⟩
theorem yv_X9_thingDigest : bk_yv yX9_thingDigest := ⟨bk_in 1414 (by decide +kernel) rfl, bk_in 88 (by decide +kernel) rfl⟩
theorem yk_X9_heatDigest : bk_yk yX9_heatDigest cX9_heatDigest 7 (some .long) 3 := ⟨bk_in 1419 (by decide +kernel) rfl, bk_in 101 (by decide +kernel) rfl, by decide, by decide, by decide +kernel⟩
theorem yv_X9_heatDigest : bk_yv yX9_heatDigest := ⟨bk_in 1418 (by decide +kernel) rfl, bk_in 89 (by decide +kernel) rfl⟩
theorem lk_L_9 : Cond.methodLink RL 9 yX8_init ∈ lw_good := bk_in 106 (by decide +kernel) rfl
theorem lk_X8_3 : Cond.methodLink RX8 3 objectInit ∈ lw_good := bk_in 109 (by decide +kernel) rfl
theorem lk_X8_11 : Cond.methodLink RX8 11 yX6_init ∈ lw_good := bk_in 114 (by decide +kernel) rfl
theorem lk_X6_3 : Cond.methodLink RX6 3 objectInit ∈ lw_good := bk_in 117 (by decide +kernel) rfl
theorem lk_X6_19 : Cond.methodLink RX6 19 Lib.Math.min.name ∈ lw_good := bk_in 118 (by decide +kernel) rfl
theorem lk_X7_3 : Cond.methodLink RX7 3 objectInit ∈ lw_good := bk_in 142 (by decide +kernel) rfl
theorem lk_X4_3 : Cond.methodLink RX4 3 objectInit ∈ lw_good := bk_in 171 (by decide +kernel) rfl
theorem lk_X1_3 : Cond.methodLink RX1 3 objectInit ∈ lw_good := bk_in 217 (by decide +kernel) rfl
theorem lk_X0_3 : Cond.methodLink RX0 3 objectInit ∈ lw_good := bk_in 267 (by decide +kernel) rfl
theorem lk_X2_3 : Cond.methodLink RX2 3 objectInit ∈ lw_good := bk_in 289 (by decide +kernel) rfl
theorem lk_X3_1 : Cond.methodLink RX3 1 objectInit ∈ lw_good := bk_in 304 (by decide +kernel) rfl
theorem lk_X5_3 : Cond.methodLink RX5 3 objectInit ∈ lw_good := bk_in 314 (by decide +kernel) rfl
theorem lk_L_13 : Cond.methodLink RL 13 yX8_type ∈ lw_good := bk_in 377 (by decide +kernel) rfl
theorem lk_X8_94 : Cond.methodLink RX8 94 yX8_isText ∈ lw_good := bk_in 381 (by decide +kernel) rfl
theorem lk_X8_133 : Cond.methodLink RX8 133 yX8_isBelow ∈ lw_good := bk_in 384 (by decide +kernel) rfl
theorem lk_X8_98 : Cond.methodLink RX8 98 yX8_textOf ∈ lw_good := bk_in 387 (by decide +kernel) rfl
theorem lk_X8_111 : Cond.methodLink RX8 111 yX8_noteChange ∈ lw_good := bk_in 391 (by decide +kernel) rfl
theorem lk_L_18 : Cond.methodLink RL 18 yX8_wipe ∈ lw_good := bk_in 395 (by decide +kernel) rfl
theorem lk_L_23 : Cond.methodLink RL 23 yX8_undo ∈ lw_good := bk_in 399 (by decide +kernel) rfl
theorem lk_L_27 : Cond.methodLink RL 27 yX8_fault ∈ lw_good := bk_in 403 (by decide +kernel) rfl
theorem lk_X8_114 : Cond.methodLink RX8 114 yX6_faultOfHooks ∈ lw_good := bk_in 407 (by decide +kernel) rfl
theorem lk_X6_28 : Cond.methodLink RX6 28 yX6_minutesOf ∈ lw_good := bk_in 411 (by decide +kernel) rfl
theorem lk_X8_118 : Cond.methodLink RX8 118 yX6_faultOfThings ∈ lw_good := bk_in 414 (by decide +kernel) rfl
theorem lk_X6_32 : Cond.methodLink RX6 32 yX6_mayStand ∈ lw_good := bk_in 418 (by decide +kernel) rfl
theorem lk_X6_36 : Cond.methodLink RX6 36 yX6_sortOf ∈ lw_good := bk_in 421 (by decide +kernel) rfl
theorem lk_L_31 : Cond.methodLink RL 31 yX8_hook ∈ lw_good := bk_in 424 (by decide +kernel) rfl
theorem lk_X8_121 : Cond.methodLink RX8 121 yX8_refresh ∈ lw_good := bk_in 428 (by decide +kernel) rfl
theorem lk_X8_338 : Cond.methodLink RX8 338 yX4_takeHooks ∈ lw_good := bk_in 432 (by decide +kernel) rfl
theorem lk_X4_37 : Cond.methodLink RX4 37 yX6_faultOfHooks ∈ lw_good := bk_in 436 (by decide +kernel) rfl
theorem lk_X4_49 : Cond.methodLink RX4 49 yX6_minutesOf ∈ lw_good := bk_in 437 (by decide +kernel) rfl
theorem lk_X8_342 : Cond.methodLink RX8 342 yX4_takeThings ∈ lw_good := bk_in 438 (by decide +kernel) rfl
theorem lk_X4_53 : Cond.methodLink RX4 53 yX6_faultOfThings ∈ lw_good := bk_in 442 (by decide +kernel) rfl
theorem lk_X4_56 : Cond.methodLink RX4 56 yX6_sortOf ∈ lw_good := bk_in 443 (by decide +kernel) rfl
theorem lk_X8_345 : Cond.methodLink RX8 345 yX8_allEvents ∈ lw_good := bk_in 444 (by decide +kernel) rfl
theorem lk_X8_348 : Cond.methodLink RX8 348 yX4_takeEvents ∈ lw_good := bk_in 448 (by decide +kernel) rfl
theorem lk_X4_59 : Cond.methodLink RX4 59 yJ_fill ∈ lw_good := bk_in 452 (by decide +kernel) rfl
theorem lk_X4_79 : Cond.methodLink RX4 79 yX4_takeEvent ∈ lw_good := bk_in 455 (by decide +kernel) rfl
theorem lk_X8_352 : Cond.methodLink RX8 352 yX1_run ∈ lw_good := bk_in 459 (by decide +kernel) rfl
theorem lk_X1_49 : Cond.methodLink RX1 49 yX1_begin ∈ lw_good := bk_in 463 (by decide +kernel) rfl
theorem lk_X1_69 : Cond.methodLink RX1 69 arraycopyName ∈ lw_good := bk_in 467 (by decide +kernel) rfl
theorem lk_X1_78 : Cond.methodLink RX1 78 yJ_fill ∈ lw_good := bk_in 470 (by decide +kernel) rfl
theorem lk_X1_58 : Cond.methodLink RX1 58 yX1_heatUp ∈ lw_good := bk_in 471 (by decide +kernel) rfl
theorem lk_X1_65 : Cond.methodLink RX1 65 yX1_doHooks ∈ lw_good := bk_in 475 (by decide +kernel) rfl
theorem lk_X1_90 : Cond.methodLink RX1 90 yX1_lastHookDone ∈ lw_good := bk_in 479 (by decide +kernel) rfl
theorem lk_X1_97 : Cond.methodLink RX1 97 yX1_doHook ∈ lw_good := bk_in 482 (by decide +kernel) rfl
theorem lk_X1_101 : Cond.methodLink RX1 101 yX1_whatIsSaid ∈ lw_good := bk_in 486 (by decide +kernel) rfl
theorem lk_X1_107 : Cond.methodLink RX1 107 yX1_soften ∈ lw_good := bk_in 490 (by decide +kernel) rfl
theorem lk_X8_124 : Cond.methodLink RX8 124 yX8_isHook ∈ lw_good := bk_in 494 (by decide +kernel) rfl
theorem lk_L_35 : Cond.methodLink RL 35 yX8_thing ∈ lw_good := bk_in 498 (by decide +kernel) rfl
theorem lk_X8_130 : Cond.methodLink RX8 130 yX8_isThing ∈ lw_good := bk_in 502 (by decide +kernel) rfl
theorem lk_L_39 : Cond.methodLink RL 39 yX8_event ∈ lw_good := bk_in 506 (by decide +kernel) rfl
theorem lk_X8_146 : Cond.methodLink RX8 146 yX8_isEvent ∈ lw_good := bk_in 510 (by decide +kernel) rfl
theorem lk_X8_179 : Cond.methodLink RX8 179 yX8_isEvening ∈ lw_good := bk_in 513 (by decide +kernel) rfl
theorem lk_X8_150 : Cond.methodLink RX8 150 yX7_isFull ∈ lw_good := bk_in 516 (by decide +kernel) rfl
theorem lk_X8_154 : Cond.methodLink RX8 154 yX7_append ∈ lw_good := bk_in 520 (by decide +kernel) rfl
theorem lk_X7_25 : Cond.methodLink RX7 25 yX7_isFull ∈ lw_good := bk_in 524 (by decide +kernel) rfl
theorem lk_L_44 : Cond.methodLink RL 44 yX8_back ∈ lw_good := bk_in 525 (by decide +kernel) rfl
theorem lk_L_49 : Cond.methodLink RL 49 yX8_read ∈ lw_good := bk_in 529 (by decide +kernel) rfl
theorem lk_X8_161 : Cond.methodLink RX8 161 yX8_isSheet ∈ lw_good := bk_in 533 (by decide +kernel) rfl
theorem lk_X8_164 : Cond.methodLink RX8 164 yX5_isLost ∈ lw_good := bk_in 536 (by decide +kernel) rfl
theorem lk_X8_167 : Cond.methodLink RX8 167 yX8_findingOf ∈ lw_good := bk_in 540 (by decide +kernel) rfl
theorem lk_X8_175 : Cond.methodLink RX8 175 yX8_event ∈ lw_good := bk_in 544 (by decide +kernel) rfl
theorem lk_L_53 : Cond.methodLink RL 53 yX8_heat ∈ lw_good := bk_in 545 (by decide +kernel) rfl
theorem lk_L_57 : Cond.methodLink RL 57 yX8_said ∈ lw_good := bk_in 549 (by decide +kernel) rfl
theorem lk_L_61 : Cond.methodLink RL 61 yX8_at ∈ lw_good := bk_in 553 (by decide +kernel) rfl
theorem lk_X8_191 : Cond.methodLink RX8 191 yX1_eveningAnswer ∈ lw_good := bk_in 557 (by decide +kernel) rfl
theorem lk_L_65 : Cond.methodLink RL 65 yX8_settled ∈ lw_good := bk_in 561 (by decide +kernel) rfl
theorem lk_L_69 : Cond.methodLink RL 69 yX8_sum ∈ lw_good := bk_in 565 (by decide +kernel) rfl
theorem lk_X8_198 : Cond.methodLink RX8 198 yX1_sumAnswer ∈ lw_good := bk_in 569 (by decide +kernel) rfl
theorem lk_L_73 : Cond.methodLink RL 73 yX8_peace ∈ lw_good := bk_in 576 (by decide +kernel) rfl
theorem lk_X8_201 : Cond.methodLink RX8 201 yX4_allThings ∈ lw_good := bk_in 580 (by decide +kernel) rfl
theorem lk_X8_204 : Cond.methodLink RX8 204 yX1_firstPeace ∈ lw_good := bk_in 584 (by decide +kernel) rfl
theorem lk_X1_114 : Cond.methodLink RX1 114 yX1_settledBehind ∈ lw_good := bk_in 588 (by decide +kernel) rfl
theorem lk_L_77 : Cond.methodLink RL 77 yX8_longest ∈ lw_good := bk_in 592 (by decide +kernel) rfl
theorem lk_X8_207 : Cond.methodLink RX8 207 yX1_thingSaidMost ∈ lw_good := bk_in 596 (by decide +kernel) rfl
theorem lk_L_81 : Cond.methodLink RL 81 yX8_highest ∈ lw_good := bk_in 600 (by decide +kernel) rfl
theorem lk_L_85 : Cond.methodLink RL 85 yX8_sore ∈ lw_good := bk_in 604 (by decide +kernel) rfl
theorem lk_X8_213 : Cond.methodLink RX8 213 yX8_unsettledThings ∈ lw_good := bk_in 608 (by decide +kernel) rfl
theorem lk_X8_356 : Cond.methodLink RX8 356 yX1_settledBehind ∈ lw_good := bk_in 612 (by decide +kernel) rfl
theorem lk_L_89 : Cond.methodLink RL 89 yX8_swap ∈ lw_good := bk_in 613 (by decide +kernel) rfl
theorem lk_X8_216 : Cond.methodLink RX8 216 yX8_chooseSwap ∈ lw_good := bk_in 617 (by decide +kernel) rfl
theorem lk_X8_359 : Cond.methodLink RX8 359 yX4_copyFrom ∈ lw_good := bk_in 621 (by decide +kernel) rfl
theorem lk_X4_83 : Cond.methodLink RX4 83 arraycopyName ∈ lw_good := bk_in 625 (by decide +kernel) rfl
theorem lk_X8_362 : Cond.methodLink RX8 362 yX0_clear ∈ lw_good := bk_in 626 (by decide +kernel) rfl
theorem lk_X8_365 : Cond.methodLink RX8 365 yX4_exchange ∈ lw_good := bk_in 630 (by decide +kernel) rfl
theorem lk_X4_89 : Cond.methodLink RX4 89 yX4_exchangeIn ∈ lw_good := bk_in 634 (by decide +kernel) rfl
theorem lk_X8_271 : Cond.methodLink RX8 271 yX8_sumOf ∈ lw_good := bk_in 637 (by decide +kernel) rfl
theorem lk_X8_368 : Cond.methodLink RX8 368 yX0_offer ∈ lw_good := bk_in 638 (by decide +kernel) rfl
theorem lk_X8_219 : Cond.methodLink RX8 219 yX0_swapAnswer ∈ lw_good := bk_in 642 (by decide +kernel) rfl
theorem lk_X0_28 : Cond.methodLink RX0 28 yX0_leaveAnswer ∈ lw_good := bk_in 646 (by decide +kernel) rfl
theorem lk_L_93 : Cond.methodLink RL 93 yX8_fit ∈ lw_good := bk_in 650 (by decide +kernel) rfl
theorem lk_X8_222 : Cond.methodLink RX8 222 yX8_fewestHooks ∈ lw_good := bk_in 654 (by decide +kernel) rfl
theorem lk_L_97 : Cond.methodLink RL 97 yX8_leave ∈ lw_good := bk_in 658 (by decide +kernel) rfl
theorem lk_X8_225 : Cond.methodLink RX8 225 yX8_chooseLeft ∈ lw_good := bk_in 662 (by decide +kernel) rfl
theorem lk_X8_228 : Cond.methodLink RX8 228 yX0_leaveAnswer ∈ lw_good := bk_in 666 (by decide +kernel) rfl
theorem lk_L_101 : Cond.methodLink RL 101 yX8_spare ∈ lw_good := bk_in 667 (by decide +kernel) rfl
theorem lk_X8_231 : Cond.methodLink RX8 231 yX8_refreshEnds ∈ lw_good := bk_in 671 (by decide +kernel) rfl
theorem lk_X8_234 : Cond.methodLink RX8 234 yX8_chooseSpared ∈ lw_good := bk_in 675 (by decide +kernel) rfl
theorem lk_X8_237 : Cond.methodLink RX8 237 yX0_spareAnswer ∈ lw_good := bk_in 679 (by decide +kernel) rfl
theorem lk_L_105 : Cond.methodLink RL 105 yX8_seen ∈ lw_good := bk_in 683 (by decide +kernel) rfl
theorem lk_L_109 : Cond.methodLink RL 109 yX8_forget ∈ lw_good := bk_in 687 (by decide +kernel) rfl
theorem lk_L_113 : Cond.methodLink RL 113 yX8_never ∈ lw_good := bk_in 691 (by decide +kernel) rfl
theorem lk_X8_240 : Cond.methodLink RX8 240 yX8_eventsThatNeverWere ∈ lw_good := bk_in 695 (by decide +kernel) rfl
theorem lk_X8_375 : Cond.methodLink RX8 375 yX8_allComesOut ∈ lw_good := bk_in 699 (by decide +kernel) rfl
theorem lk_L_117 : Cond.methodLink RL 117 yX8_was ∈ lw_good := bk_in 703 (by decide +kernel) rfl
theorem lk_X8_243 : Cond.methodLink RX8 243 yX8_sortsThatFit ∈ lw_good := bk_in 707 (by decide +kernel) rfl
theorem lk_X8_246 : Cond.methodLink RX8 246 yX8_tryHeats ∈ lw_good := bk_in 711 (by decide +kernel) rfl
theorem lk_L_121 : Cond.methodLink RL 121 yX8_ask ∈ lw_good := bk_in 715 (by decide +kernel) rfl
theorem lk_X8_252 : Cond.methodLink RX8 252 yX2_eveningToAsk ∈ lw_good := bk_in 719 (by decide +kernel) rfl
theorem lk_X2_19 : Cond.methodLink RX2 19 yX2_greatestLikeness ∈ lw_good := bk_in 723 (by decide +kernel) rfl
theorem lk_X2_23 : Cond.methodLink RX2 23 yX2_likenessOf ∈ lw_good := bk_in 727 (by decide +kernel) rfl
theorem lk_X2_27 : Cond.methodLink RX2 27 Lib.Math.max.name ∈ lw_good := bk_in 731 (by decide +kernel) rfl
theorem lk_L_125 : Cond.methodLink RL 125 yX8_chance ∈ lw_good := bk_in 734 (by decide +kernel) rfl
theorem lk_X8_257 : Cond.methodLink RX8 257 yX8_chanceOf ∈ lw_good := bk_in 739 (by decide +kernel) rfl
theorem lk_X8_390 : Cond.methodLink RX8 390 yX8_weightOf ∈ lw_good := bk_in 743 (by decide +kernel) rfl
theorem lk_L_130 : Cond.methodLink RL 130 yX8_seasons ∈ lw_good := bk_in 747 (by decide +kernel) rfl
theorem lk_X8_261 : Cond.methodLink RX8 261 yX8_runSeason ∈ lw_good := bk_in 751 (by decide +kernel) rfl
theorem lk_X8_397 : Cond.methodLink RX8 397 yX3_draw ∈ lw_good := bk_in 755 (by decide +kernel) rfl
theorem lk_L_134 : Cond.methodLink RL 134 yX8_sheet ∈ lw_good := bk_in 760 (by decide +kernel) rfl
theorem lk_X8_275 : Cond.methodLink RX8 275 yX5_lay ∈ lw_good := bk_in 764 (by decide +kernel) rfl
theorem lk_X5_22 : Cond.methodLink RX5 22 yJ_fill ∈ lw_good := bk_in 768 (by decide +kernel) rfl
theorem lk_L_138 : Cond.methodLink RL 138 yX8_lose ∈ lw_good := bk_in 769 (by decide +kernel) rfl
theorem lk_L_142 : Cond.methodLink RL 142 yX8_put ∈ lw_good := bk_in 773 (by decide +kernel) rfl
theorem lk_X8_278 : Cond.methodLink RX8 278 yX5_findingAt ∈ lw_good := bk_in 777 (by decide +kernel) rfl
theorem lk_X5_28 : Cond.methodLink RX5 28 yX5_isLost ∈ lw_good := bk_in 781 (by decide +kernel) rfl
theorem lk_X8_281 : Cond.methodLink RX8 281 yX5_lowestBits ∈ lw_good := bk_in 783 (by decide +kernel) rfl
theorem lk_L_147 : Cond.methodLink RL 147 yX8_get ∈ lw_good := bk_in 787 (by decide +kernel) rfl
theorem lk_L_151 : Cond.methodLink RL 151 yX8_copy ∈ lw_good := bk_in 792 (by decide +kernel) rfl
theorem lk_X8_288 : Cond.methodLink RX8 288 yX5_hasStretch ∈ lw_good := bk_in 796 (by decide +kernel) rfl
theorem lk_X8_291 : Cond.methodLink RX8 291 arraycopyName ∈ lw_good := bk_in 800 (by decide +kernel) rfl
theorem lk_L_156 : Cond.methodLink RL 156 yX8_write ∈ lw_good := bk_in 801 (by decide +kernel) rfl
theorem lk_X8_300 : Cond.methodLink RX8 300 Lib.Math.min.name ∈ lw_good := bk_in 805 (by decide +kernel) rfl
theorem lk_L_160 : Cond.methodLink RL 160 yX8_count ∈ lw_good := bk_in 806 (by decide +kernel) rfl
theorem lk_L_164 : Cond.methodLink RL 164 yX8_digest ∈ lw_good := bk_in 810 (by decide +kernel) rfl
theorem lk_X8_312 : Cond.methodLink RX8 312 yX8_count ∈ lw_good := bk_in 816 (by decide +kernel) rfl
theorem lk_X8_315 : Cond.methodLink RX8 315 yX8_fault ∈ lw_good := bk_in 817 (by decide +kernel) rfl
theorem lk_X8_318 : Cond.methodLink RX8 318 yX8_foldHook ∈ lw_good := bk_in 818 (by decide +kernel) rfl
theorem lk_X8_322 : Cond.methodLink RX8 322 yX8_foldEvening ∈ lw_good := bk_in 822 (by decide +kernel) rfl
theorem lk_X8_325 : Cond.methodLink RX8 325 yX8_foldThing ∈ lw_good := bk_in 826 (by decide +kernel) rfl
theorem lk_X8_335 : Cond.methodLink RX8 335 yX8_foldHeat ∈ lw_good := bk_in 830 (by decide +kernel) rfl
theorem lk_X8_328 : Cond.methodLink RX8 328 yX8_foldSums ∈ lw_good := bk_in 834 (by decide +kernel) rfl
theorem lk_X8_332 : Cond.methodLink RX8 332 yX8_foldPlans ∈ lw_good := bk_in 838 (by decide +kernel) rfl
theorem lk_L_12 : Cond.methodLink RL 12 yX9_init ∈ lw_good := bk_in 844 (by decide +kernel) rfl
theorem lk_X9_1 : Cond.methodLink RX9 1 objectInit ∈ lw_good := bk_in 847 (by decide +kernel) rfl
theorem lk_L_17 : Cond.methodLink RL 17 yX9_type ∈ lw_good := bk_in 1021 (by decide +kernel) rfl
theorem lk_X9_113 : Cond.methodLink RX9 113 yX9_isTwo ∈ lw_good := bk_in 1025 (by decide +kernel) rfl
theorem lk_X9_109 : Cond.methodLink RX9 109 yX9_in ∈ lw_good := bk_in 1028 (by decide +kernel) rfl
theorem lk_L_22 : Cond.methodLink RL 22 yX9_wipe ∈ lw_good := bk_in 1031 (by decide +kernel) rfl
theorem lk_L_26 : Cond.methodLink RL 26 yX9_undo ∈ lw_good := bk_in 1035 (by decide +kernel) rfl
theorem lk_L_30 : Cond.methodLink RL 30 yX9_fault ∈ lw_good := bk_in 1039 (by decide +kernel) rfl
theorem lk_X9_138 : Cond.methodLink RX9 138 yX9_faultOf ∈ lw_good := bk_in 1043 (by decide +kernel) rfl
theorem lk_X9_131 : Cond.methodLink RX9 131 yX9_readsHooks ∈ lw_good := bk_in 1047 (by decide +kernel) rfl
theorem lk_X9_121 : Cond.methodLink RX9 121 yX9_byteAt ∈ lw_good := bk_in 1051 (by decide +kernel) rfl
theorem lk_X9_135 : Cond.methodLink RX9 135 yX9_readsThings ∈ lw_good := bk_in 1055 (by decide +kernel) rfl
theorem lk_X9_128 : Cond.methodLink RX9 128 yX9_readsThing ∈ lw_good := bk_in 1059 (by decide +kernel) rfl
theorem lk_L_34 : Cond.methodLink RL 34 yX9_hook ∈ lw_good := bk_in 1063 (by decide +kernel) rfl
theorem lk_X9_145 : Cond.methodLink RX9 145 yX9_isHook ∈ lw_good := bk_in 1067 (by decide +kernel) rfl
theorem lk_X9_142 : Cond.methodLink RX9 142 yX9_reads ∈ lw_good := bk_in 1071 (by decide +kernel) rfl
theorem lk_L_38 : Cond.methodLink RL 38 yX9_thing ∈ lw_good := bk_in 1075 (by decide +kernel) rfl
theorem lk_X9_148 : Cond.methodLink RX9 148 yX9_isThing ∈ lw_good := bk_in 1079 (by decide +kernel) rfl
theorem lk_X9_151 : Cond.methodLink RX9 151 yX9_isThree ∈ lw_good := bk_in 1083 (by decide +kernel) rfl
theorem lk_X9_154 : Cond.methodLink RX9 154 yX9_thingOf ∈ lw_good := bk_in 1086 (by decide +kernel) rfl
theorem lk_L_43 : Cond.methodLink RL 43 yX9_event ∈ lw_good := bk_in 1090 (by decide +kernel) rfl
theorem lk_X9_157 : Cond.methodLink RX9 157 yX9_isTwelve ∈ lw_good := bk_in 1094 (by decide +kernel) rfl
theorem lk_L_48 : Cond.methodLink RL 48 yX9_back ∈ lw_good := bk_in 1097 (by decide +kernel) rfl
theorem lk_L_52 : Cond.methodLink RL 52 yX9_read ∈ lw_good := bk_in 1101 (by decide +kernel) rfl
theorem lk_X9_163 : Cond.methodLink RX9 163 yX9_isSheet ∈ lw_good := bk_in 1105 (by decide +kernel) rfl
theorem lk_X9_166 : Cond.methodLink RX9 166 yX9_meets ∈ lw_good := bk_in 1108 (by decide +kernel) rfl
theorem lk_X9_169 : Cond.methodLink RX9 169 yX9_event ∈ lw_good := bk_in 1112 (by decide +kernel) rfl
theorem lk_L_56 : Cond.methodLink RL 56 yX9_heat ∈ lw_good := bk_in 1113 (by decide +kernel) rfl
theorem lk_X9_270 : Cond.methodLink RX9 270 yX9_heatOf ∈ lw_good := bk_in 1117 (by decide +kernel) rfl
theorem lk_X9_267 : Cond.methodLink RX9 267 yX9_runsTold ∈ lw_good := bk_in 1121 (by decide +kernel) rfl
theorem lk_X9_261 : Cond.methodLink RX9 261 yX9_asTold ∈ lw_good := bk_in 1125 (by decide +kernel) rfl
theorem lk_X9_264 : Cond.methodLink RX9 264 yX9_runs ∈ lw_good := bk_in 1129 (by decide +kernel) rfl
theorem lk_X9_255 : Cond.methodLink RX9 255 yX9_goesBy ∈ lw_good := bk_in 1133 (by decide +kernel) rfl
theorem lk_X9_229 : Cond.methodLink RX9 229 yX9_befalls ∈ lw_good := bk_in 1137 (by decide +kernel) rfl
theorem lk_X9_197 : Cond.methodLink RX9 197 yX9_isIn ∈ lw_good := bk_in 1141 (by decide +kernel) rfl
theorem lk_X9_233 : Cond.methodLink RX9 233 yX9_heatsUp ∈ lw_good := bk_in 1144 (by decide +kernel) rfl
theorem lk_X9_201 : Cond.methodLink RX9 201 yX9_isOpen ∈ lw_good := bk_in 1148 (by decide +kernel) rfl
theorem lk_X9_236 : Cond.methodLink RX9 236 yX9_lastOf ∈ lw_good := bk_in 1152 (by decide +kernel) rfl
theorem lk_X9_222 : Cond.methodLink RX9 222 yX9_takes ∈ lw_good := bk_in 1156 (by decide +kernel) rfl
theorem lk_X9_239 : Cond.methodLink RX9 239 yX9_does ∈ lw_good := bk_in 1160 (by decide +kernel) rfl
theorem lk_X9_225 : Cond.methodLink RX9 225 yX9_says ∈ lw_good := bk_in 1164 (by decide +kernel) rfl
theorem lk_X9_204 : Cond.methodLink RX9 204 yX9_chosen ∈ lw_good := bk_in 1168 (by decide +kernel) rfl
theorem lk_X9_258 : Cond.methodLink RX9 258 yX9_notes ∈ lw_good := bk_in 1172 (by decide +kernel) rfl
theorem lk_L_60 : Cond.methodLink RL 60 yX9_said ∈ lw_good := bk_in 1176 (by decide +kernel) rfl
theorem lk_X9_273 : Cond.methodLink RX9 273 yX9_saidOf ∈ lw_good := bk_in 1180 (by decide +kernel) rfl
theorem lk_L_64 : Cond.methodLink RL 64 yX9_at ∈ lw_good := bk_in 1184 (by decide +kernel) rfl
theorem lk_X9_276 : Cond.methodLink RX9 276 yX9_atOf ∈ lw_good := bk_in 1188 (by decide +kernel) rfl
theorem lk_L_68 : Cond.methodLink RL 68 yX9_settled ∈ lw_good := bk_in 1192 (by decide +kernel) rfl
theorem lk_X9_279 : Cond.methodLink RX9 279 yX9_settledOf ∈ lw_good := bk_in 1196 (by decide +kernel) rfl
theorem lk_L_72 : Cond.methodLink RL 72 yX9_sum ∈ lw_good := bk_in 1200 (by decide +kernel) rfl
theorem lk_X9_285 : Cond.methodLink RX9 285 yX9_sumOf ∈ lw_good := bk_in 1204 (by decide +kernel) rfl
theorem lk_X9_282 : Cond.methodLink RX9 282 yX9_manySettled ∈ lw_good := bk_in 1208 (by decide +kernel) rfl
theorem lk_L_76 : Cond.methodLink RL 76 yX9_peace ∈ lw_good := bk_in 1212 (by decide +kernel) rfl
theorem lk_X9_288 : Cond.methodLink RX9 288 yX9_peaceOf ∈ lw_good := bk_in 1216 (by decide +kernel) rfl
theorem lk_L_80 : Cond.methodLink RL 80 yX9_longest ∈ lw_good := bk_in 1220 (by decide +kernel) rfl
theorem lk_X9_291 : Cond.methodLink RX9 291 yX9_longestOf ∈ lw_good := bk_in 1224 (by decide +kernel) rfl
theorem lk_L_84 : Cond.methodLink RL 84 yX9_highest ∈ lw_good := bk_in 1228 (by decide +kernel) rfl
theorem lk_X9_294 : Cond.methodLink RX9 294 yX9_highestOf ∈ lw_good := bk_in 1232 (by decide +kernel) rfl
theorem lk_L_88 : Cond.methodLink RL 88 yX9_sore ∈ lw_good := bk_in 1236 (by decide +kernel) rfl
theorem lk_X9_297 : Cond.methodLink RX9 297 yX9_soreOf ∈ lw_good := bk_in 1240 (by decide +kernel) rfl
theorem lk_L_92 : Cond.methodLink RL 92 yX9_swap ∈ lw_good := bk_in 1244 (by decide +kernel) rfl
theorem lk_X9_318 : Cond.methodLink RX9 318 yX9_swapOf ∈ lw_good := bk_in 1248 (by decide +kernel) rfl
theorem lk_X9_309 : Cond.methodLink RX9 309 yX9_starts ∈ lw_good := bk_in 1252 (by decide +kernel) rfl
theorem lk_X9_312 : Cond.methodLink RX9 312 yX9_puts ∈ lw_good := bk_in 1256 (by decide +kernel) rfl
theorem lk_X9_315 : Cond.methodLink RX9 315 yX9_tries ∈ lw_good := bk_in 1260 (by decide +kernel) rfl
theorem lk_L_96 : Cond.methodLink RL 96 yX9_fit ∈ lw_good := bk_in 1264 (by decide +kernel) rfl
theorem lk_X9_321 : Cond.methodLink RX9 321 yX9_fitOf ∈ lw_good := bk_in 1268 (by decide +kernel) rfl
theorem lk_L_100 : Cond.methodLink RL 100 yX9_leave ∈ lw_good := bk_in 1272 (by decide +kernel) rfl
theorem lk_X9_327 : Cond.methodLink RX9 327 yX9_leaveTold ∈ lw_good := bk_in 1276 (by decide +kernel) rfl
theorem lk_X9_324 : Cond.methodLink RX9 324 yX9_leaveOf ∈ lw_good := bk_in 1280 (by decide +kernel) rfl
theorem lk_L_104 : Cond.methodLink RL 104 yX9_spare ∈ lw_good := bk_in 1284 (by decide +kernel) rfl
theorem lk_X9_333 : Cond.methodLink RX9 333 yX9_spareBy ∈ lw_good := bk_in 1288 (by decide +kernel) rfl
theorem lk_X9_330 : Cond.methodLink RX9 330 yX9_isSpared ∈ lw_good := bk_in 1292 (by decide +kernel) rfl
theorem lk_X9_336 : Cond.methodLink RX9 336 yX9_ofRow ∈ lw_good := bk_in 1296 (by decide +kernel) rfl
theorem lk_L_108 : Cond.methodLink RL 108 yX9_seen ∈ lw_good := bk_in 1300 (by decide +kernel) rfl
theorem lk_L_112 : Cond.methodLink RL 112 yX9_forget ∈ lw_good := bk_in 1304 (by decide +kernel) rfl
theorem lk_L_116 : Cond.methodLink RL 116 yX9_never ∈ lw_good := bk_in 1308 (by decide +kernel) rfl
theorem lk_X9_346 : Cond.methodLink RX9 346 yX9_neverNow ∈ lw_good := bk_in 1312 (by decide +kernel) rfl
theorem lk_X9_342 : Cond.methodLink RX9 342 yX9_isSeen ∈ lw_good := bk_in 1316 (by decide +kernel) rfl
theorem lk_L_120 : Cond.methodLink RL 120 yX9_was ∈ lw_good := bk_in 1320 (by decide +kernel) rfl
theorem lk_X9_349 : Cond.methodLink RX9 349 yX9_heatsBy ∈ lw_good := bk_in 1324 (by decide +kernel) rfl
theorem lk_X9_352 : Cond.methodLink RX9 352 yX9_sortsBy ∈ lw_good := bk_in 1328 (by decide +kernel) rfl
theorem lk_L_124 : Cond.methodLink RL 124 yX9_ask ∈ lw_good := bk_in 1332 (by decide +kernel) rfl
theorem lk_X9_355 : Cond.methodLink RX9 355 yX9_askOf ∈ lw_good := bk_in 1336 (by decide +kernel) rfl
theorem lk_L_129 : Cond.methodLink RL 129 yX9_chance ∈ lw_good := bk_in 1340 (by decide +kernel) rfl
theorem lk_X9_362 : Cond.methodLink RX9 362 yX9_chanceOf ∈ lw_good := bk_in 1344 (by decide +kernel) rfl
theorem lk_X9_358 : Cond.methodLink RX9 358 yX9_lowest ∈ lw_good := bk_in 1348 (by decide +kernel) rfl
theorem lk_X9_366 : Cond.methodLink RX9 366 yX9_no ∈ lw_good := bk_in 1351 (by decide +kernel) rfl
theorem lk_L_133 : Cond.methodLink RL 133 yX9_seasons ∈ lw_good := bk_in 1355 (by decide +kernel) rfl
theorem lk_X9_371 : Cond.methodLink RX9 371 yX9_seasonsOf ∈ lw_good := bk_in 1359 (by decide +kernel) rfl
theorem lk_L_137 : Cond.methodLink RL 137 yX9_sheet ∈ lw_good := bk_in 1364 (by decide +kernel) rfl
theorem lk_L_141 : Cond.methodLink RL 141 yX9_lose ∈ lw_good := bk_in 1368 (by decide +kernel) rfl
theorem lk_L_146 : Cond.methodLink RL 146 yX9_put ∈ lw_good := bk_in 1372 (by decide +kernel) rfl
theorem lk_X9_377 : Cond.methodLink RX9 377 yX9_lacks ∈ lw_good := bk_in 1376 (by decide +kernel) rfl
theorem lk_X9_380 : Cond.methodLink RX9 380 yX9_keep ∈ lw_good := bk_in 1380 (by decide +kernel) rfl
theorem lk_L_150 : Cond.methodLink RL 150 yX9_get ∈ lw_good := bk_in 1384 (by decide +kernel) rfl
theorem lk_L_155 : Cond.methodLink RL 155 yX9_copy ∈ lw_good := bk_in 1389 (by decide +kernel) rfl
theorem lk_L_159 : Cond.methodLink RL 159 yX9_write ∈ lw_good := bk_in 1393 (by decide +kernel) rfl
theorem lk_L_163 : Cond.methodLink RL 163 yX9_count ∈ lw_good := bk_in 1397 (by decide +kernel) rfl
theorem lk_X9_385 : Cond.methodLink RX9 385 yX9_tellOf ∈ lw_good := bk_in 1401 (by decide +kernel) rfl
theorem lk_L_168 : Cond.methodLink RL 168 yX9_digest ∈ lw_good := bk_in 1405 (by decide +kernel) rfl
theorem lk_X9_396 : Cond.methodLink RX9 396 yX9_count ∈ lw_good := bk_in 1411 (by decide +kernel) rfl
theorem lk_X9_399 : Cond.methodLink RX9 399 yX9_thingDigest ∈ lw_good := bk_in 1412 (by decide +kernel) rfl
theorem lk_X9_390 : Cond.methodLink RX9 390 yX9_heatDigest ∈ lw_good := bk_in 1416 (by decide +kernel) rfl
theorem wd_native : Cond.native arraycopyName ∈ lw_good := bk_in 469 (by decide +kernel) rfl
theorem wd_acstatic : Cond.static arraycopyName ∈ lw_good := bk_in 468 (by decide +kernel) rfl
theorem wd_system : Cond.initialized "java/lang/System" ∈ lw_good := bk_in 103 (by decide +kernel) rfl
theorem wd_math : Cond.initialized "java/lang/Math" ∈ lw_good := bk_in 93 (by decide +kernel) rfl
theorem wd_min_s : Cond.static Lib.Math.min.name ∈ lw_good := bk_in 119 (by decide +kernel) rfl
theorem wd_min_c : Cond.code Lib.Math.min.name Lib.Math.min.code 2 (some .int) ∈ lw_good := bk_in 120 (by decide +kernel) rfl
theorem wd_max_s : Cond.static Lib.Math.max.name ∈ lw_good := bk_in 732 (by decide +kernel) rfl
theorem wd_max_c : Cond.code Lib.Math.max.name Lib.Math.max.code 2 (some .int) ∈ lw_good := bk_in 733 (by decide +kernel) rfl
theorem kn_X8_255 : Jvm.Cond.constantLong RX8 255 (-9223372036854775806 : Int64) ∈ lw_good := bk_in 738 (by decide +kernel) rfl
theorem kn_X3_13 : Jvm.Cond.constant RX3 13 (1103515245 : Int32) ∈ lw_good := bk_in 759 (by decide +kernel) rfl
theorem kn_X8_284 : Jvm.Cond.constant RX8 284 (-2147483648 : Int32) ∈ lw_good := bk_in 791 (by decide +kernel) rfl
theorem kn_X8_308 : Jvm.Cond.constantLong RX8 308 (17 : Int64) ∈ lw_good := bk_in 814 (by decide +kernel) rfl
theorem kn_X8_310 : Jvm.Cond.constantLong RX8 310 (31 : Int64) ∈ lw_good := bk_in 815 (by decide +kernel) rfl
theorem kn_X9_107 : Jvm.Cond.constantLong RX9 107 (-9223372036854775808 : Int64) ∈ lw_good := bk_in 1354 (by decide +kernel) rfl
theorem kn_X9_370 : Jvm.Cond.constant RX9 370 (1103515245 : Int32) ∈ lw_good := bk_in 1363 (by decide +kernel) rfl
theorem kn_X9_384 : Jvm.Cond.constant RX9 384 (-2147483648 : Int32) ∈ lw_good := bk_in 1388 (by decide +kernel) rfl
theorem kn_X9_394 : Jvm.Cond.constantLong RX9 394 (17 : Int64) ∈ lw_good := bk_in 1409 (by decide +kernel) rfl
theorem kn_X9_388 : Jvm.Cond.constantLong RX9 388 (31 : Int64) ∈ lw_good := bk_in 1410 (by decide +kernel) rfl
end
section
theorem dX0_init_0 : decode cX0_init 0 = .ok (.aload_n 0, 1) := by decide +kernel
theorem dX0_init_1 : decode cX0_init 1 = .ok (.invokespecial 3, 3) := by decide +kernel
theorem dX0_init_4 : decode cX0_init 4 = .ok (.aload_n 0, 1) := by decide +kernel
theorem dX0_init_5 : decode cX0_init 5 = .ok (.iconst 0, 1) := by decide +kernel
theorem dX0_init_6 : decode cX0_init 6 = .ok (.putfield 9, 3) := by decide +kernel
theorem dX0_init_9 : decode cX0_init 9 = .ok (.aload_n 0, 1) := by decide +kernel
theorem dX0_init_10 : decode cX0_init 10 = .ok (.iconst (-1), 1) := by decide +kernel
theorem dX0_init_11 : decode cX0_init 11 = .ok (.putfield 15, 3) := by decide +kernel
theorem dX0_init_14 : decode cX0_init 14 = .ok (.aload_n 0, 1) := by decide +kernel
theorem dX0_init_15 : decode cX0_init 15 = .ok (.iconst (-1), 1) := by decide +kernel
theorem dX0_init_16 : decode cX0_init 16 = .ok (.putfield 19, 3) := by decide +kernel
theorem dX0_init_19 : decode cX0_init 19 = .ok (.aload_n 0, 1) := by decide +kernel
theorem dX0_init_20 : decode cX0_init 20 = .ok (.iconst (-1), 1) := by decide +kernel
theorem dX0_init_21 : decode cX0_init 21 = .ok (.putfield 22, 3) := by decide +kernel
theorem dX0_init_24 : decode cX0_init 24 = .ok (.aload_n 0, 1) := by decide +kernel
theorem dX0_init_25 : decode cX0_init 25 = .ok (.iconst (-1), 1) := by decide +kernel
theorem dX0_init_26 : decode cX0_init 26 = .ok (.putfield 25, 3) := by decide +kernel
theorem dX0_init_29 : decode cX0_init 29 = .ok (.return_, 1) := by decide +kernel
theorem dX0_clear_0 : decode cX0_clear 0 = .ok (.aload_n 0, 1) := by decide +kernel
theorem dX0_clear_1 : decode cX0_clear 1 = .ok (.iconst 0, 1) := by decide +kernel
theorem dX0_clear_2 : decode cX0_clear 2 = .ok (.putfield 9, 3) := by decide +kernel
theorem dX0_clear_5 : decode cX0_clear 5 = .ok (.aload_n 0, 1) := by decide +kernel
theorem dX0_clear_6 : decode cX0_clear 6 = .ok (.iconst (-1), 1) := by decide +kernel
theorem dX0_clear_7 : decode cX0_clear 7 = .ok (.putfield 15, 3) := by decide +kernel
theorem dX0_clear_10 : decode cX0_clear 10 = .ok (.aload_n 0, 1) := by decide +kernel
theorem dX0_clear_11 : decode cX0_clear 11 = .ok (.iconst (-1), 1) := by decide +kernel
theorem dX0_clear_12 : decode cX0_clear 12 = .ok (.putfield 19, 3) := by decide +kernel
theorem dX0_clear_15 : decode cX0_clear 15 = .ok (.aload_n 0, 1) := by decide +kernel
theorem dX0_clear_16 : decode cX0_clear 16 = .ok (.iconst (-1), 1) := by decide +kernel
theorem dX0_clear_17 : decode cX0_clear 17 = .ok (.putfield 22, 3) := by decide +kernel
theorem dX0_clear_20 : decode cX0_clear 20 = .ok (.aload_n 0, 1) := by decide +kernel
theorem dX0_clear_21 : decode cX0_clear 21 = .ok (.iconst (-1), 1) := by decide +kernel
theorem dX0_clear_22 : decode cX0_clear 22 = .ok (.putfield 25, 3) := by decide +kernel
theorem dX0_clear_25 : decode cX0_clear 25 = .ok (.return_, 1) := by decide +kernel
theorem dX0_offer_0 : decode cX0_offer 0 = .ok (.iload_n 3, 1) := by decide +kernel
theorem dX0_offer_1 : decode cX0_offer 1 = .ok (.aload_n 0, 1) := by decide +kernel
theorem dX0_offer_2 : decode cX0_offer 2 = .ok (.getfield 22, 3) := by decide +kernel
theorem dX0_offer_5 : decode cX0_offer 5 = .ok (.if_icmp .gt 20, 3) := by decide +kernel
theorem dX0_offer_8 : decode cX0_offer 8 = .ok (.iload_n 3, 1) := by decide +kernel
theorem dX0_offer_9 : decode cX0_offer 9 = .ok (.aload_n 0, 1) := by decide +kernel
theorem dX0_offer_10 : decode cX0_offer 10 = .ok (.getfield 22, 3) := by decide +kernel
theorem dX0_offer_13 : decode cX0_offer 13 = .ok (.if_icmp .ne 16, 3) := by decide +kernel
theorem dX0_offer_16 : decode cX0_offer 16 = .ok (.iload 4, 2) := by decide +kernel
theorem dX0_offer_18 : decode cX0_offer 18 = .ok (.aload_n 0, 1) := by decide +kernel
theorem dX0_offer_19 : decode cX0_offer 19 = .ok (.getfield 25, 3) := by decide +kernel
theorem dX0_offer_22 : decode cX0_offer 22 = .ok (.if_icmp .le 7, 3) := by decide +kernel
theorem dX0_offer_25 : decode cX0_offer 25 = .ok (.iconst 1, 1) := by decide +kernel
theorem dX0_offer_26 : decode cX0_offer 26 = .ok (.goto 4, 3) := by decide +kernel
theorem dX0_offer_29 : decode cX0_offer 29 = .ok (.iconst 0, 1) := by decide +kernel
theorem dX0_offer_30 : decode cX0_offer 30 = .ok (.istore 5, 2) := by decide +kernel
theorem dX0_offer_32 : decode cX0_offer 32 = .ok (.aload_n 0, 1) := by decide +kernel
theorem dX0_offer_33 : decode cX0_offer 33 = .ok (.getfield 9, 3) := by decide +kernel
theorem dX0_offer_36 : decode cX0_offer 36 = .ok (.ifCond .eq 9, 3) := by decide +kernel
theorem dX0_offer_39 : decode cX0_offer 39 = .ok (.iload 5, 2) := by decide +kernel
theorem dX0_offer_41 : decode cX0_offer 41 = .ok (.ifCond .ne 4, 3) := by decide +kernel
theorem dX0_offer_44 : decode cX0_offer 44 = .ok (.return_, 1) := by decide +kernel
theorem dX0_offer_45 : decode cX0_offer 45 = .ok (.aload_n 0, 1) := by decide +kernel
theorem dX0_offer_46 : decode cX0_offer 46 = .ok (.iconst 1, 1) := by decide +kernel
theorem dX0_offer_47 : decode cX0_offer 47 = .ok (.putfield 9, 3) := by decide +kernel
theorem dX0_offer_50 : decode cX0_offer 50 = .ok (.aload_n 0, 1) := by decide +kernel
theorem dX0_offer_51 : decode cX0_offer 51 = .ok (.iload_n 1, 1) := by decide +kernel
theorem dX0_offer_52 : decode cX0_offer 52 = .ok (.putfield 15, 3) := by decide +kernel
theorem dX0_offer_55 : decode cX0_offer 55 = .ok (.aload_n 0, 1) := by decide +kernel
theorem dX0_offer_56 : decode cX0_offer 56 = .ok (.iload_n 2, 1) := by decide +kernel
theorem dX0_offer_57 : decode cX0_offer 57 = .ok (.putfield 19, 3) := by decide +kernel
theorem dX0_offer_60 : decode cX0_offer 60 = .ok (.aload_n 0, 1) := by decide +kernel
theorem dX0_offer_61 : decode cX0_offer 61 = .ok (.iload_n 3, 1) := by decide +kernel
theorem dX0_offer_62 : decode cX0_offer 62 = .ok (.putfield 22, 3) := by decide +kernel
theorem dX0_offer_65 : decode cX0_offer 65 = .ok (.aload_n 0, 1) := by decide +kernel
theorem dX0_offer_66 : decode cX0_offer 66 = .ok (.iload 4, 2) := by decide +kernel
theorem dX0_offer_68 : decode cX0_offer 68 = .ok (.putfield 25, 3) := by decide +kernel
theorem dX0_offer_71 : decode cX0_offer 71 = .ok (.return_, 1) := by decide +kernel
theorem dX0_swapAnswer_0 : decode cX0_swapAnswer 0 = .ok (.iload_n 1, 1) := by decide +kernel
theorem dX0_swapAnswer_1 : decode cX0_swapAnswer 1 = .ok (.ifCond .ne 8, 3) := by decide +kernel
theorem dX0_swapAnswer_4 : decode cX0_swapAnswer 4 = .ok (.aload_n 0, 1) := by decide +kernel
theorem dX0_swapAnswer_5 : decode cX0_swapAnswer 5 = .ok (.getfield 15, 3) := by decide +kernel
theorem dX0_swapAnswer_8 : decode cX0_swapAnswer 8 = .ok (.ireturn, 1) := by decide +kernel
theorem dX0_swapAnswer_9 : decode cX0_swapAnswer 9 = .ok (.iload_n 1, 1) := by decide +kernel
theorem dX0_swapAnswer_10 : decode cX0_swapAnswer 10 = .ok (.iconst 1, 1) := by decide +kernel
theorem dX0_swapAnswer_11 : decode cX0_swapAnswer 11 = .ok (.if_icmp .ne 10, 3) := by decide +kernel
theorem dX0_swapAnswer_14 : decode cX0_swapAnswer 14 = .ok (.aload_n 0, 1) := by decide +kernel
theorem dX0_swapAnswer_15 : decode cX0_swapAnswer 15 = .ok (.getfield 19, 3) := by decide +kernel
theorem dX0_swapAnswer_18 : decode cX0_swapAnswer 18 = .ok (.goto 10, 3) := by decide +kernel
theorem dX0_swapAnswer_21 : decode cX0_swapAnswer 21 = .ok (.aload_n 0, 1) := by decide +kernel
theorem dX0_swapAnswer_22 : decode cX0_swapAnswer 22 = .ok (.iload_n 1, 1) := by decide +kernel
theorem dX0_swapAnswer_23 : decode cX0_swapAnswer 23 = .ok (.iconst 1, 1) := by decide +kernel
theorem dX0_swapAnswer_24 : decode cX0_swapAnswer 24 = .ok (.isub, 1) := by decide +kernel
theorem dX0_swapAnswer_25 : decode cX0_swapAnswer 25 = .ok (.invokevirtual 28, 3) := by decide +kernel
theorem dX0_swapAnswer_28 : decode cX0_swapAnswer 28 = .ok (.ireturn, 1) := by decide +kernel
theorem dX0_leaveAnswer_0 : decode cX0_leaveAnswer 0 = .ok (.iload_n 1, 1) := by decide +kernel
theorem dX0_leaveAnswer_1 : decode cX0_leaveAnswer 1 = .ok (.ifCond .ne 8, 3) := by decide +kernel
theorem dX0_leaveAnswer_4 : decode cX0_leaveAnswer 4 = .ok (.aload_n 0, 1) := by decide +kernel
theorem dX0_leaveAnswer_5 : decode cX0_leaveAnswer 5 = .ok (.getfield 15, 3) := by decide +kernel
theorem dX0_leaveAnswer_8 : decode cX0_leaveAnswer 8 = .ok (.ireturn, 1) := by decide +kernel
theorem dX0_leaveAnswer_9 : decode cX0_leaveAnswer 9 = .ok (.iload_n 1, 1) := by decide +kernel
theorem dX0_leaveAnswer_10 : decode cX0_leaveAnswer 10 = .ok (.iconst 1, 1) := by decide +kernel
theorem dX0_leaveAnswer_11 : decode cX0_leaveAnswer 11 = .ok (.if_icmp .ne 10, 3) := by decide +kernel
theorem dX0_leaveAnswer_14 : decode cX0_leaveAnswer 14 = .ok (.aload_n 0, 1) := by decide +kernel
theorem dX0_leaveAnswer_15 : decode cX0_leaveAnswer 15 = .ok (.getfield 22, 3) := by decide +kernel
theorem dX0_leaveAnswer_18 : decode cX0_leaveAnswer 18 = .ok (.goto 7, 3) := by decide +kernel
theorem dX0_leaveAnswer_21 : decode cX0_leaveAnswer 21 = .ok (.aload_n 0, 1) := by decide +kernel
theorem dX0_leaveAnswer_22 : decode cX0_leaveAnswer 22 = .ok (.getfield 25, 3) := by decide +kernel
theorem dX0_leaveAnswer_25 : decode cX0_leaveAnswer 25 = .ok (.ireturn, 1) := by decide +kernel
theorem dX0_spareAnswer_0 : decode cX0_spareAnswer 0 = .ok (.iload_n 1, 1) := by decide +kernel
theorem dX0_spareAnswer_1 : decode cX0_spareAnswer 1 = .ok (.ifCond .ne 8, 3) := by decide +kernel
theorem dX0_spareAnswer_4 : decode cX0_spareAnswer 4 = .ok (.aload_n 0, 1) := by decide +kernel
theorem dX0_spareAnswer_5 : decode cX0_spareAnswer 5 = .ok (.getfield 15, 3) := by decide +kernel
theorem dX0_spareAnswer_8 : decode cX0_spareAnswer 8 = .ok (.ireturn, 1) := by decide +kernel
theorem dX0_spareAnswer_9 : decode cX0_spareAnswer 9 = .ok (.iload_n 1, 1) := by decide +kernel
theorem dX0_spareAnswer_10 : decode cX0_spareAnswer 10 = .ok (.iconst 1, 1) := by decide +kernel
theorem dX0_spareAnswer_11 : decode cX0_spareAnswer 11 = .ok (.if_icmp .ne 8, 3) := by decide +kernel
theorem dX0_spareAnswer_14 : decode cX0_spareAnswer 14 = .ok (.aload_n 0, 1) := by decide +kernel
theorem dX0_spareAnswer_15 : decode cX0_spareAnswer 15 = .ok (.getfield 19, 3) := by decide +kernel
theorem dX0_spareAnswer_18 : decode cX0_spareAnswer 18 = .ok (.ireturn, 1) := by decide +kernel
theorem dX0_spareAnswer_19 : decode cX0_spareAnswer 19 = .ok (.aload_n 0, 1) := by decide +kernel
theorem dX0_spareAnswer_20 : decode cX0_spareAnswer 20 = .ok (.getfield 9, 3) := by decide +kernel
theorem dX0_spareAnswer_23 : decode cX0_spareAnswer 23 = .ok (.ifCond .ne 5, 3) := by decide +kernel
theorem dX0_spareAnswer_26 : decode cX0_spareAnswer 26 = .ok (.iconst (-1), 1) := by decide +kernel
theorem dX0_spareAnswer_27 : decode cX0_spareAnswer 27 = .ok (.ireturn, 1) := by decide +kernel
theorem dX0_spareAnswer_28 : decode cX0_spareAnswer 28 = .ok (.aload_n 0, 1) := by decide +kernel
theorem dX0_spareAnswer_29 : decode cX0_spareAnswer 29 = .ok (.getfield 15, 3) := by decide +kernel
theorem dX0_spareAnswer_32 : decode cX0_spareAnswer 32 = .ok (.iconst (-1), 1) := by decide +kernel
theorem dX0_spareAnswer_33 : decode cX0_spareAnswer 33 = .ok (.if_icmp .ne 7, 3) := by decide +kernel
theorem dX0_spareAnswer_36 : decode cX0_spareAnswer 36 = .ok (.iconst 0, 1) := by decide +kernel
theorem dX0_spareAnswer_37 : decode cX0_spareAnswer 37 = .ok (.goto 4, 3) := by decide +kernel
theorem dX0_spareAnswer_40 : decode cX0_spareAnswer 40 = .ok (.iconst 1, 1) := by decide +kernel
theorem dX0_spareAnswer_41 : decode cX0_spareAnswer 41 = .ok (.aload_n 0, 1) := by decide +kernel
theorem dX0_spareAnswer_42 : decode cX0_spareAnswer 42 = .ok (.getfield 19, 3) := by decide +kernel
theorem dX0_spareAnswer_45 : decode cX0_spareAnswer 45 = .ok (.iconst (-1), 1) := by decide +kernel
theorem dX0_spareAnswer_46 : decode cX0_spareAnswer 46 = .ok (.if_icmp .ne 7, 3) := by decide +kernel
theorem dX0_spareAnswer_49 : decode cX0_spareAnswer 49 = .ok (.iconst 0, 1) := by decide +kernel
theorem dX0_spareAnswer_50 : decode cX0_spareAnswer 50 = .ok (.goto 4, 3) := by decide +kernel
theorem dX0_spareAnswer_53 : decode cX0_spareAnswer 53 = .ok (.iconst 1, 1) := by decide +kernel
theorem dX0_spareAnswer_54 : decode cX0_spareAnswer 54 = .ok (.iadd, 1) := by decide +kernel
theorem dX0_spareAnswer_55 : decode cX0_spareAnswer 55 = .ok (.ireturn, 1) := by decide +kernel
theorem dX1_init_0 : decode cX1_init 0 = .ok (.aload_n 0, 1) := by decide +kernel
theorem dX1_init_1 : decode cX1_init 1 = .ok (.invokespecial 3, 3) := by decide +kernel
theorem dX1_init_4 : decode cX1_init 4 = .ok (.aload_n 0, 1) := by decide +kernel
theorem dX1_init_5 : decode cX1_init 5 = .ok (.bipush 8, 2) := by decide +kernel
theorem dX1_init_7 : decode cX1_init 7 = .ok (.newarray .int, 2) := by decide +kernel
theorem dX1_init_9 : decode cX1_init 9 = .ok (.putfield 9, 3) := by decide +kernel
theorem dX1_init_12 : decode cX1_init 12 = .ok (.aload_n 0, 1) := by decide +kernel
theorem dX1_init_13 : decode cX1_init 13 = .ok (.bipush 8, 2) := by decide +kernel
theorem dX1_init_15 : decode cX1_init 15 = .ok (.newarray .int, 2) := by decide +kernel
theorem dX1_init_17 : decode cX1_init 17 = .ok (.putfield 15, 3) := by decide +kernel
theorem dX1_init_20 : decode cX1_init 20 = .ok (.aload_n 0, 1) := by decide +kernel
theorem dX1_init_21 : decode cX1_init 21 = .ok (.bipush 8, 2) := by decide +kernel
theorem dX1_init_23 : decode cX1_init 23 = .ok (.newarray .int, 2) := by decide +kernel
theorem dX1_init_25 : decode cX1_init 25 = .ok (.putfield 18, 3) := by decide +kernel
theorem dX1_init_28 : decode cX1_init 28 = .ok (.aload_n 0, 1) := by decide +kernel
theorem dX1_init_29 : decode cX1_init 29 = .ok (.bipush 8, 2) := by decide +kernel
theorem dX1_init_31 : decode cX1_init 31 = .ok (.newarray .int, 2) := by decide +kernel
theorem dX1_init_33 : decode cX1_init 33 = .ok (.putfield 21, 3) := by decide +kernel
theorem dX1_init_36 : decode cX1_init 36 = .ok (.aload_n 0, 1) := by decide +kernel
theorem dX1_init_37 : decode cX1_init 37 = .ok (.bipush 96, 2) := by decide +kernel
theorem dX1_init_39 : decode cX1_init 39 = .ok (.newarray .int, 2) := by decide +kernel
theorem dX1_init_41 : decode cX1_init 41 = .ok (.putfield 24, 3) := by decide +kernel
theorem dX1_init_44 : decode cX1_init 44 = .ok (.aload_n 0, 1) := by decide +kernel
theorem dX1_init_45 : decode cX1_init 45 = .ok (.bipush 96, 2) := by decide +kernel
theorem dX1_init_47 : decode cX1_init 47 = .ok (.newarray .int, 2) := by decide +kernel
theorem dX1_init_49 : decode cX1_init 49 = .ok (.putfield 27, 3) := by decide +kernel
theorem dX1_init_52 : decode cX1_init 52 = .ok (.aload_n 0, 1) := by decide +kernel
theorem dX1_init_53 : decode cX1_init 53 = .ok (.sipush 144, 3) := by decide +kernel
theorem dX1_init_56 : decode cX1_init 56 = .ok (.newarray .int, 2) := by decide +kernel
theorem dX1_init_58 : decode cX1_init 58 = .ok (.putfield 30, 3) := by decide +kernel
theorem dX1_init_61 : decode cX1_init 61 = .ok (.aload_n 0, 1) := by decide +kernel
theorem dX1_init_62 : decode cX1_init 62 = .ok (.bipush 12, 2) := by decide +kernel
theorem dX1_init_64 : decode cX1_init 64 = .ok (.newarray .int, 2) := by decide +kernel
theorem dX1_init_66 : decode cX1_init 66 = .ok (.putfield 33, 3) := by decide +kernel
theorem dX1_init_69 : decode cX1_init 69 = .ok (.aload_n 0, 1) := by decide +kernel
theorem dX1_init_70 : decode cX1_init 70 = .ok (.bipush 12, 2) := by decide +kernel
theorem dX1_init_72 : decode cX1_init 72 = .ok (.newarray .int, 2) := by decide +kernel
theorem dX1_init_74 : decode cX1_init 74 = .ok (.putfield 36, 3) := by decide +kernel
theorem dX1_init_77 : decode cX1_init 77 = .ok (.aload_n 0, 1) := by decide +kernel
theorem dX1_init_78 : decode cX1_init 78 = .ok (.bipush 12, 2) := by decide +kernel
theorem dX1_init_80 : decode cX1_init 80 = .ok (.newarray .int, 2) := by decide +kernel
theorem dX1_init_82 : decode cX1_init 82 = .ok (.putfield 39, 3) := by decide +kernel
theorem dX1_init_85 : decode cX1_init 85 = .ok (.aload_n 0, 1) := by decide +kernel
theorem dX1_init_86 : decode cX1_init 86 = .ok (.bipush 12, 2) := by decide +kernel
theorem dX1_init_88 : decode cX1_init 88 = .ok (.newarray .int, 2) := by decide +kernel
theorem dX1_init_90 : decode cX1_init 90 = .ok (.putfield 42, 3) := by decide +kernel
theorem dX1_init_93 : decode cX1_init 93 = .ok (.aload_n 0, 1) := by decide +kernel
theorem dX1_init_94 : decode cX1_init 94 = .ok (.iconst 0, 1) := by decide +kernel
theorem dX1_init_95 : decode cX1_init 95 = .ok (.putfield 45, 3) := by decide +kernel
theorem dX1_init_98 : decode cX1_init 98 = .ok (.return_, 1) := by decide +kernel
theorem dX1_run_0 : decode cX1_run 0 = .ok (.aload_n 0, 1) := by decide +kernel
theorem dX1_run_1 : decode cX1_run 1 = .ok (.aload_n 1, 1) := by decide +kernel
theorem dX1_run_2 : decode cX1_run 2 = .ok (.invokevirtual 49, 3) := by decide +kernel
theorem dX1_run_5 : decode cX1_run 5 = .ok (.iconst 0, 1) := by decide +kernel
theorem dX1_run_6 : decode cX1_run 6 = .ok (.istore_n 2, 1) := by decide +kernel
theorem dX1_run_7 : decode cX1_run 7 = .ok (.iload_n 2, 1) := by decide +kernel
theorem dX1_run_8 : decode cX1_run 8 = .ok (.bipush 12, 2) := by decide +kernel
theorem dX1_run_10 : decode cX1_run 10 = .ok (.if_icmp .ge 73, 3) := by decide +kernel
theorem dX1_run_13 : decode cX1_run 13 = .ok (.iload_n 2, 1) := by decide +kernel
theorem dX1_run_14 : decode cX1_run 14 = .ok (.ifCond .le 11, 3) := by decide +kernel
theorem dX1_run_17 : decode cX1_run 17 = .ok (.aload_n 0, 1) := by decide +kernel
theorem dX1_run_18 : decode cX1_run 18 = .ok (.aload_n 1, 1) := by decide +kernel
theorem dX1_run_19 : decode cX1_run 19 = .ok (.getfield 53, 3) := by decide +kernel
theorem dX1_run_22 : decode cX1_run 22 = .ok (.invokevirtual 58, 3) := by decide +kernel
theorem dX1_run_25 : decode cX1_run 25 = .ok (.aload_n 1, 1) := by decide +kernel
theorem dX1_run_26 : decode cX1_run 26 = .ok (.getfield 62, 3) := by decide +kernel
theorem dX1_run_29 : decode cX1_run 29 = .ok (.iload_n 2, 1) := by decide +kernel
theorem dX1_run_30 : decode cX1_run 30 = .ok (.iaload, 1) := by decide +kernel
theorem dX1_run_31 : decode cX1_run 31 = .ok (.iconst 2, 1) := by decide +kernel
theorem dX1_run_32 : decode cX1_run 32 = .ok (.iand, 1) := by decide +kernel
theorem dX1_run_33 : decode cX1_run 33 = .ok (.ifCond .eq 11, 3) := by decide +kernel
theorem dX1_run_36 : decode cX1_run 36 = .ok (.aload_n 0, 1) := by decide +kernel
theorem dX1_run_37 : decode cX1_run 37 = .ok (.aload_n 1, 1) := by decide +kernel
theorem dX1_run_38 : decode cX1_run 38 = .ok (.getfield 53, 3) := by decide +kernel
theorem dX1_run_41 : decode cX1_run 41 = .ok (.invokevirtual 58, 3) := by decide +kernel
theorem dX1_run_44 : decode cX1_run 44 = .ok (.aload_n 1, 1) := by decide +kernel
theorem dX1_run_45 : decode cX1_run 45 = .ok (.getfield 62, 3) := by decide +kernel
theorem dX1_run_48 : decode cX1_run 48 = .ok (.iload_n 2, 1) := by decide +kernel
theorem dX1_run_49 : decode cX1_run 49 = .ok (.iaload, 1) := by decide +kernel
theorem dX1_run_50 : decode cX1_run 50 = .ok (.ifCond .ne 9, 3) := by decide +kernel
theorem dX1_run_53 : decode cX1_run 53 = .ok (.aload_n 0, 1) := by decide +kernel
theorem dX1_run_54 : decode cX1_run 54 = .ok (.aload_n 1, 1) := by decide +kernel
theorem dX1_run_55 : decode cX1_run 55 = .ok (.iload_n 2, 1) := by decide +kernel
theorem dX1_run_56 : decode cX1_run 56 = .ok (.invokevirtual 65, 3) := by decide +kernel
theorem dX1_run_59 : decode cX1_run 59 = .ok (.aload_n 0, 1) := by decide +kernel
theorem dX1_run_60 : decode cX1_run 60 = .ok (.getfield 9, 3) := by decide +kernel
theorem dX1_run_63 : decode cX1_run 63 = .ok (.iconst 0, 1) := by decide +kernel
theorem dX1_run_64 : decode cX1_run 64 = .ok (.aload_n 0, 1) := by decide +kernel
theorem dX1_run_65 : decode cX1_run 65 = .ok (.getfield 24, 3) := by decide +kernel
theorem dX1_run_68 : decode cX1_run 68 = .ok (.iload_n 2, 1) := by decide +kernel
theorem dX1_run_69 : decode cX1_run 69 = .ok (.bipush 8, 2) := by decide +kernel
theorem dX1_run_71 : decode cX1_run 71 = .ok (.imul, 1) := by decide +kernel
theorem dX1_run_72 : decode cX1_run 72 = .ok (.bipush 8, 2) := by decide +kernel
theorem dX1_run_74 : decode cX1_run 74 = .ok (.invokestatic 69, 3) := by decide +kernel
theorem dX1_run_77 : decode cX1_run 77 = .ok (.iinc 2 1, 3) := by decide +kernel
theorem dX1_run_80 : decode cX1_run 80 = .ok (.goto (-73), 3) := by decide +kernel
theorem dX1_run_83 : decode cX1_run 83 = .ok (.return_, 1) := by decide +kernel
theorem dX1_begin_0 : decode cX1_begin 0 = .ok (.aload_n 1, 1) := by decide +kernel
theorem dX1_begin_1 : decode cX1_begin 1 = .ok (.getfield 75, 3) := by decide +kernel
theorem dX1_begin_4 : decode cX1_begin 4 = .ok (.iconst 0, 1) := by decide +kernel
theorem dX1_begin_5 : decode cX1_begin 5 = .ok (.aload_n 0, 1) := by decide +kernel
theorem dX1_begin_6 : decode cX1_begin 6 = .ok (.getfield 9, 3) := by decide +kernel
theorem dX1_begin_9 : decode cX1_begin 9 = .ok (.iconst 0, 1) := by decide +kernel
theorem dX1_begin_10 : decode cX1_begin 10 = .ok (.bipush 8, 2) := by decide +kernel
theorem dX1_begin_12 : decode cX1_begin 12 = .ok (.invokestatic 69, 3) := by decide +kernel
theorem dX1_begin_15 : decode cX1_begin 15 = .ok (.aload_n 0, 1) := by decide +kernel
theorem dX1_begin_16 : decode cX1_begin 16 = .ok (.getfield 15, 3) := by decide +kernel
theorem dX1_begin_19 : decode cX1_begin 19 = .ok (.iconst (-1), 1) := by decide +kernel
theorem dX1_begin_20 : decode cX1_begin 20 = .ok (.invokestatic 78, 3) := by decide +kernel
theorem dX1_begin_23 : decode cX1_begin 23 = .ok (.aload_n 0, 1) := by decide +kernel
theorem dX1_begin_24 : decode cX1_begin 24 = .ok (.getfield 18, 3) := by decide +kernel
theorem dX1_begin_27 : decode cX1_begin 27 = .ok (.iconst (-1), 1) := by decide +kernel
theorem dX1_begin_28 : decode cX1_begin 28 = .ok (.invokestatic 78, 3) := by decide +kernel
theorem dX1_begin_31 : decode cX1_begin 31 = .ok (.aload_n 0, 1) := by decide +kernel
theorem dX1_begin_32 : decode cX1_begin 32 = .ok (.getfield 21, 3) := by decide +kernel
theorem dX1_begin_35 : decode cX1_begin 35 = .ok (.iconst 0, 1) := by decide +kernel
theorem dX1_begin_36 : decode cX1_begin 36 = .ok (.invokestatic 78, 3) := by decide +kernel
theorem dX1_begin_39 : decode cX1_begin 39 = .ok (.aload_n 0, 1) := by decide +kernel
theorem dX1_begin_40 : decode cX1_begin 40 = .ok (.getfield 27, 3) := by decide +kernel
theorem dX1_begin_43 : decode cX1_begin 43 = .ok (.iconst 0, 1) := by decide +kernel
theorem dX1_begin_44 : decode cX1_begin 44 = .ok (.invokestatic 78, 3) := by decide +kernel
theorem dX1_begin_47 : decode cX1_begin 47 = .ok (.aload_n 0, 1) := by decide +kernel
theorem dX1_begin_48 : decode cX1_begin 48 = .ok (.getfield 30, 3) := by decide +kernel
theorem dX1_begin_51 : decode cX1_begin 51 = .ok (.iconst (-1), 1) := by decide +kernel
theorem dX1_begin_52 : decode cX1_begin 52 = .ok (.invokestatic 78, 3) := by decide +kernel
theorem dX1_begin_55 : decode cX1_begin 55 = .ok (.aload_n 0, 1) := by decide +kernel
theorem dX1_begin_56 : decode cX1_begin 56 = .ok (.getfield 33, 3) := by decide +kernel
theorem dX1_begin_59 : decode cX1_begin 59 = .ok (.iconst 0, 1) := by decide +kernel
theorem dX1_begin_60 : decode cX1_begin 60 = .ok (.invokestatic 78, 3) := by decide +kernel
theorem dX1_begin_63 : decode cX1_begin 63 = .ok (.aload_n 0, 1) := by decide +kernel
theorem dX1_begin_64 : decode cX1_begin 64 = .ok (.getfield 36, 3) := by decide +kernel
theorem dX1_begin_67 : decode cX1_begin 67 = .ok (.iconst 0, 1) := by decide +kernel
theorem dX1_begin_68 : decode cX1_begin 68 = .ok (.invokestatic 78, 3) := by decide +kernel
theorem dX1_begin_71 : decode cX1_begin 71 = .ok (.aload_n 0, 1) := by decide +kernel
theorem dX1_begin_72 : decode cX1_begin 72 = .ok (.getfield 39, 3) := by decide +kernel
theorem dX1_begin_75 : decode cX1_begin 75 = .ok (.iconst 0, 1) := by decide +kernel
theorem dX1_begin_76 : decode cX1_begin 76 = .ok (.invokestatic 78, 3) := by decide +kernel
theorem dX1_begin_79 : decode cX1_begin 79 = .ok (.aload_n 0, 1) := by decide +kernel
theorem dX1_begin_80 : decode cX1_begin 80 = .ok (.getfield 42, 3) := by decide +kernel
theorem dX1_begin_83 : decode cX1_begin 83 = .ok (.iconst 0, 1) := by decide +kernel
theorem dX1_begin_84 : decode cX1_begin 84 = .ok (.invokestatic 78, 3) := by decide +kernel
theorem dX1_begin_87 : decode cX1_begin 87 = .ok (.aload_n 0, 1) := by decide +kernel
theorem dX1_begin_88 : decode cX1_begin 88 = .ok (.iconst 0, 1) := by decide +kernel
theorem dX1_begin_89 : decode cX1_begin 89 = .ok (.putfield 45, 3) := by decide +kernel
theorem dX1_begin_92 : decode cX1_begin 92 = .ok (.return_, 1) := by decide +kernel
theorem dX1_heatUp_0 : decode cX1_heatUp 0 = .ok (.iconst 0, 1) := by decide +kernel
theorem dX1_heatUp_1 : decode cX1_heatUp 1 = .ok (.istore_n 2, 1) := by decide +kernel
theorem dX1_heatUp_2 : decode cX1_heatUp 2 = .ok (.iload_n 2, 1) := by decide +kernel
theorem dX1_heatUp_3 : decode cX1_heatUp 3 = .ok (.iload_n 1, 1) := by decide +kernel
theorem dX1_heatUp_4 : decode cX1_heatUp 4 = .ok (.if_icmp .ge 40, 3) := by decide +kernel
theorem dX1_heatUp_7 : decode cX1_heatUp 7 = .ok (.aload_n 0, 1) := by decide +kernel
theorem dX1_heatUp_8 : decode cX1_heatUp 8 = .ok (.getfield 15, 3) := by decide +kernel
theorem dX1_heatUp_11 : decode cX1_heatUp 11 = .ok (.iload_n 2, 1) := by decide +kernel
theorem dX1_heatUp_12 : decode cX1_heatUp 12 = .ok (.iaload, 1) := by decide +kernel
theorem dX1_heatUp_13 : decode cX1_heatUp 13 = .ok (.iconst (-1), 1) := by decide +kernel
theorem dX1_heatUp_14 : decode cX1_heatUp 14 = .ok (.if_icmp .ne 24, 3) := by decide +kernel
theorem dX1_heatUp_17 : decode cX1_heatUp 17 = .ok (.aload_n 0, 1) := by decide +kernel
theorem dX1_heatUp_18 : decode cX1_heatUp 18 = .ok (.getfield 9, 3) := by decide +kernel
theorem dX1_heatUp_21 : decode cX1_heatUp 21 = .ok (.iload_n 2, 1) := by decide +kernel
theorem dX1_heatUp_22 : decode cX1_heatUp 22 = .ok (.iaload, 1) := by decide +kernel
theorem dX1_heatUp_23 : decode cX1_heatUp 23 = .ok (.bipush 9, 2) := by decide +kernel
theorem dX1_heatUp_25 : decode cX1_heatUp 25 = .ok (.if_icmp .ge 13, 3) := by decide +kernel
theorem dX1_heatUp_28 : decode cX1_heatUp 28 = .ok (.aload_n 0, 1) := by decide +kernel
theorem dX1_heatUp_29 : decode cX1_heatUp 29 = .ok (.getfield 9, 3) := by decide +kernel
theorem dX1_heatUp_32 : decode cX1_heatUp 32 = .ok (.iload_n 2, 1) := by decide +kernel
theorem dX1_heatUp_33 : decode cX1_heatUp 33 = .ok (.dup2, 1) := by decide +kernel
theorem dX1_heatUp_34 : decode cX1_heatUp 34 = .ok (.iaload, 1) := by decide +kernel
theorem dX1_heatUp_35 : decode cX1_heatUp 35 = .ok (.iconst 1, 1) := by decide +kernel
theorem dX1_heatUp_36 : decode cX1_heatUp 36 = .ok (.iadd, 1) := by decide +kernel
theorem dX1_heatUp_37 : decode cX1_heatUp 37 = .ok (.iastore, 1) := by decide +kernel
theorem dX1_heatUp_38 : decode cX1_heatUp 38 = .ok (.iinc 2 1, 3) := by decide +kernel
theorem dX1_heatUp_41 : decode cX1_heatUp 41 = .ok (.goto (-39), 3) := by decide +kernel
theorem dX1_heatUp_44 : decode cX1_heatUp 44 = .ok (.return_, 1) := by decide +kernel
theorem dX1_doHooks_0 : decode cX1_doHooks 0 = .ok (.aload_n 1, 1) := by decide +kernel
theorem dX1_doHooks_1 : decode cX1_doHooks 1 = .ok (.getfield 84, 3) := by decide +kernel
theorem dX1_doHooks_4 : decode cX1_doHooks 4 = .ok (.iload_n 2, 1) := by decide +kernel
theorem dX1_doHooks_5 : decode cX1_doHooks 5 = .ok (.iaload, 1) := by decide +kernel
theorem dX1_doHooks_6 : decode cX1_doHooks 6 = .ok (.iconst 1, 1) := by decide +kernel
theorem dX1_doHooks_7 : decode cX1_doHooks 7 = .ok (.aload_n 1, 1) := by decide +kernel
theorem dX1_doHooks_8 : decode cX1_doHooks 8 = .ok (.getfield 87, 3) := by decide +kernel
theorem dX1_doHooks_11 : decode cX1_doHooks 11 = .ok (.ishl, 1) := by decide +kernel
theorem dX1_doHooks_12 : decode cX1_doHooks 12 = .ok (.iconst 1, 1) := by decide +kernel
theorem dX1_doHooks_13 : decode cX1_doHooks 13 = .ok (.isub, 1) := by decide +kernel
theorem dX1_doHooks_14 : decode cX1_doHooks 14 = .ok (.iand, 1) := by decide +kernel
theorem dX1_doHooks_15 : decode cX1_doHooks 15 = .ok (.istore_n 3, 1) := by decide +kernel
theorem dX1_doHooks_16 : decode cX1_doHooks 16 = .ok (.aload_n 1, 1) := by decide +kernel
theorem dX1_doHooks_17 : decode cX1_doHooks 17 = .ok (.iload_n 3, 1) := by decide +kernel
theorem dX1_doHooks_18 : decode cX1_doHooks 18 = .ok (.invokestatic 90, 3) := by decide +kernel
theorem dX1_doHooks_21 : decode cX1_doHooks 21 = .ok (.istore 4, 2) := by decide +kernel
theorem dX1_doHooks_23 : decode cX1_doHooks 23 = .ok (.iconst 0, 1) := by decide +kernel
theorem dX1_doHooks_24 : decode cX1_doHooks 24 = .ok (.istore 5, 2) := by decide +kernel
theorem dX1_doHooks_26 : decode cX1_doHooks 26 = .ok (.iload 5, 2) := by decide +kernel
theorem dX1_doHooks_28 : decode cX1_doHooks 28 = .ok (.aload_n 1, 1) := by decide +kernel
theorem dX1_doHooks_29 : decode cX1_doHooks 29 = .ok (.getfield 87, 3) := by decide +kernel
theorem dX1_doHooks_32 : decode cX1_doHooks 32 = .ok (.if_icmp .ge 45, 3) := by decide +kernel
theorem dX1_doHooks_35 : decode cX1_doHooks 35 = .ok (.iload_n 3, 1) := by decide +kernel
theorem dX1_doHooks_36 : decode cX1_doHooks 36 = .ok (.iload 5, 2) := by decide +kernel
theorem dX1_doHooks_38 : decode cX1_doHooks 38 = .ok (.ishr, 1) := by decide +kernel
theorem dX1_doHooks_39 : decode cX1_doHooks 39 = .ok (.iconst 1, 1) := by decide +kernel
theorem dX1_doHooks_40 : decode cX1_doHooks 40 = .ok (.iand, 1) := by decide +kernel
theorem dX1_doHooks_41 : decode cX1_doHooks 41 = .ok (.ifCond .ne 30, 3) := by decide +kernel
theorem dX1_doHooks_44 : decode cX1_doHooks 44 = .ok (.aload_n 0, 1) := by decide +kernel
theorem dX1_doHooks_45 : decode cX1_doHooks 45 = .ok (.aload_n 1, 1) := by decide +kernel
theorem dX1_doHooks_46 : decode cX1_doHooks 46 = .ok (.iload_n 2, 1) := by decide +kernel
theorem dX1_doHooks_47 : decode cX1_doHooks 47 = .ok (.iload 5, 2) := by decide +kernel
theorem dX1_doHooks_49 : decode cX1_doHooks 49 = .ok (.aload_n 1, 1) := by decide +kernel
theorem dX1_doHooks_50 : decode cX1_doHooks 50 = .ok (.getfield 94, 3) := by decide +kernel
theorem dX1_doHooks_53 : decode cX1_doHooks 53 = .ok (.iload 5, 2) := by decide +kernel
theorem dX1_doHooks_55 : decode cX1_doHooks 55 = .ok (.iaload, 1) := by decide +kernel
theorem dX1_doHooks_56 : decode cX1_doHooks 56 = .ok (.iload 5, 2) := by decide +kernel
theorem dX1_doHooks_58 : decode cX1_doHooks 58 = .ok (.iload 4, 2) := by decide +kernel
theorem dX1_doHooks_60 : decode cX1_doHooks 60 = .ok (.if_icmp .ne 7, 3) := by decide +kernel
theorem dX1_doHooks_63 : decode cX1_doHooks 63 = .ok (.iconst 1, 1) := by decide +kernel
theorem dX1_doHooks_64 : decode cX1_doHooks 64 = .ok (.goto 4, 3) := by decide +kernel
theorem dX1_doHooks_67 : decode cX1_doHooks 67 = .ok (.iconst 0, 1) := by decide +kernel
theorem dX1_doHooks_68 : decode cX1_doHooks 68 = .ok (.invokevirtual 97, 3) := by decide +kernel
theorem dX1_doHooks_71 : decode cX1_doHooks 71 = .ok (.iinc 5 1, 3) := by decide +kernel
theorem dX1_doHooks_74 : decode cX1_doHooks 74 = .ok (.goto (-48), 3) := by decide +kernel
theorem dX1_doHooks_77 : decode cX1_doHooks 77 = .ok (.iconst 0, 1) := by decide +kernel
theorem dX1_doHooks_78 : decode cX1_doHooks 78 = .ok (.istore 5, 2) := by decide +kernel
theorem dX1_doHooks_80 : decode cX1_doHooks 80 = .ok (.iload 5, 2) := by decide +kernel
theorem dX1_doHooks_82 : decode cX1_doHooks 82 = .ok (.aload_n 1, 1) := by decide +kernel
theorem dX1_doHooks_83 : decode cX1_doHooks 83 = .ok (.getfield 87, 3) := by decide +kernel
theorem dX1_doHooks_86 : decode cX1_doHooks 86 = .ok (.if_icmp .ge 48, 3) := by decide +kernel
theorem dX1_doHooks_89 : decode cX1_doHooks 89 = .ok (.iload_n 3, 1) := by decide +kernel
theorem dX1_doHooks_90 : decode cX1_doHooks 90 = .ok (.iload 5, 2) := by decide +kernel
theorem dX1_doHooks_92 : decode cX1_doHooks 92 = .ok (.ishr, 1) := by decide +kernel
theorem dX1_doHooks_93 : decode cX1_doHooks 93 = .ok (.iconst 1, 1) := by decide +kernel
theorem dX1_doHooks_94 : decode cX1_doHooks 94 = .ok (.iand, 1) := by decide +kernel
theorem dX1_doHooks_95 : decode cX1_doHooks 95 = .ok (.iconst 1, 1) := by decide +kernel
theorem dX1_doHooks_96 : decode cX1_doHooks 96 = .ok (.if_icmp .ne 32, 3) := by decide +kernel
theorem dX1_doHooks_99 : decode cX1_doHooks 99 = .ok (.aload_n 0, 1) := by decide +kernel
theorem dX1_doHooks_100 : decode cX1_doHooks 100 = .ok (.aload_n 1, 1) := by decide +kernel
theorem dX1_doHooks_101 : decode cX1_doHooks 101 = .ok (.iload_n 2, 1) := by decide +kernel
theorem dX1_doHooks_102 : decode cX1_doHooks 102 = .ok (.iload 5, 2) := by decide +kernel
theorem dX1_doHooks_104 : decode cX1_doHooks 104 = .ok (.aload_n 1, 1) := by decide +kernel
theorem dX1_doHooks_105 : decode cX1_doHooks 105 = .ok (.getfield 94, 3) := by decide +kernel
theorem dX1_doHooks_108 : decode cX1_doHooks 108 = .ok (.iload 5, 2) := by decide +kernel
theorem dX1_doHooks_110 : decode cX1_doHooks 110 = .ok (.iaload, 1) := by decide +kernel
theorem dX1_doHooks_111 : decode cX1_doHooks 111 = .ok (.iconst 1, 1) := by decide +kernel
theorem dX1_doHooks_112 : decode cX1_doHooks 112 = .ok (.iadd, 1) := by decide +kernel
theorem dX1_doHooks_113 : decode cX1_doHooks 113 = .ok (.iload 5, 2) := by decide +kernel
theorem dX1_doHooks_115 : decode cX1_doHooks 115 = .ok (.iload 4, 2) := by decide +kernel
theorem dX1_doHooks_117 : decode cX1_doHooks 117 = .ok (.if_icmp .ne 7, 3) := by decide +kernel
theorem dX1_doHooks_120 : decode cX1_doHooks 120 = .ok (.iconst 1, 1) := by decide +kernel
theorem dX1_doHooks_121 : decode cX1_doHooks 121 = .ok (.goto 4, 3) := by decide +kernel
theorem dX1_doHooks_124 : decode cX1_doHooks 124 = .ok (.iconst 0, 1) := by decide +kernel
theorem dX1_doHooks_125 : decode cX1_doHooks 125 = .ok (.invokevirtual 97, 3) := by decide +kernel
theorem dX1_doHooks_128 : decode cX1_doHooks 128 = .ok (.iinc 5 1, 3) := by decide +kernel
theorem dX1_doHooks_131 : decode cX1_doHooks 131 = .ok (.goto (-51), 3) := by decide +kernel
theorem dX1_doHooks_134 : decode cX1_doHooks 134 = .ok (.return_, 1) := by decide +kernel
theorem dX1_lastHookDone_0 : decode cX1_lastHookDone 0 = .ok (.iconst (-1), 1) := by decide +kernel
theorem dX1_lastHookDone_1 : decode cX1_lastHookDone 1 = .ok (.istore_n 2, 1) := by decide +kernel
theorem dX1_lastHookDone_2 : decode cX1_lastHookDone 2 = .ok (.iconst 0, 1) := by decide +kernel
theorem dX1_lastHookDone_3 : decode cX1_lastHookDone 3 = .ok (.istore_n 3, 1) := by decide +kernel
theorem dX1_lastHookDone_4 : decode cX1_lastHookDone 4 = .ok (.iload_n 3, 1) := by decide +kernel
theorem dX1_lastHookDone_5 : decode cX1_lastHookDone 5 = .ok (.aload_n 0, 1) := by decide +kernel
theorem dX1_lastHookDone_6 : decode cX1_lastHookDone 6 = .ok (.getfield 87, 3) := by decide +kernel
theorem dX1_lastHookDone_9 : decode cX1_lastHookDone 9 = .ok (.if_icmp .ge 53, 3) := by decide +kernel
theorem dX1_lastHookDone_12 : decode cX1_lastHookDone 12 = .ok (.iload_n 1, 1) := by decide +kernel
theorem dX1_lastHookDone_13 : decode cX1_lastHookDone 13 = .ok (.ifCond .eq 20, 3) := by decide +kernel
theorem dX1_lastHookDone_16 : decode cX1_lastHookDone 16 = .ok (.iload_n 1, 1) := by decide +kernel
theorem dX1_lastHookDone_17 : decode cX1_lastHookDone 17 = .ok (.iload_n 3, 1) := by decide +kernel
theorem dX1_lastHookDone_18 : decode cX1_lastHookDone 18 = .ok (.ishr, 1) := by decide +kernel
theorem dX1_lastHookDone_19 : decode cX1_lastHookDone 19 = .ok (.iconst 1, 1) := by decide +kernel
theorem dX1_lastHookDone_20 : decode cX1_lastHookDone 20 = .ok (.iand, 1) := by decide +kernel
theorem dX1_lastHookDone_21 : decode cX1_lastHookDone 21 = .ok (.iconst 1, 1) := by decide +kernel
theorem dX1_lastHookDone_22 : decode cX1_lastHookDone 22 = .ok (.if_icmp .ne 7, 3) := by decide +kernel
theorem dX1_lastHookDone_25 : decode cX1_lastHookDone 25 = .ok (.iconst 1, 1) := by decide +kernel
theorem dX1_lastHookDone_26 : decode cX1_lastHookDone 26 = .ok (.goto 21, 3) := by decide +kernel
theorem dX1_lastHookDone_29 : decode cX1_lastHookDone 29 = .ok (.iconst 0, 1) := by decide +kernel
theorem dX1_lastHookDone_30 : decode cX1_lastHookDone 30 = .ok (.goto 17, 3) := by decide +kernel
theorem dX1_lastHookDone_33 : decode cX1_lastHookDone 33 = .ok (.aload_n 0, 1) := by decide +kernel
theorem dX1_lastHookDone_34 : decode cX1_lastHookDone 34 = .ok (.getfield 94, 3) := by decide +kernel
theorem dX1_lastHookDone_37 : decode cX1_lastHookDone 37 = .ok (.iload_n 3, 1) := by decide +kernel
theorem dX1_lastHookDone_38 : decode cX1_lastHookDone 38 = .ok (.iaload, 1) := by decide +kernel
theorem dX1_lastHookDone_39 : decode cX1_lastHookDone 39 = .ok (.ifCond .le 7, 3) := by decide +kernel
theorem dX1_lastHookDone_42 : decode cX1_lastHookDone 42 = .ok (.iconst 1, 1) := by decide +kernel
theorem dX1_lastHookDone_43 : decode cX1_lastHookDone 43 = .ok (.goto 4, 3) := by decide +kernel
theorem dX1_lastHookDone_46 : decode cX1_lastHookDone 46 = .ok (.iconst 0, 1) := by decide +kernel
theorem dX1_lastHookDone_47 : decode cX1_lastHookDone 47 = .ok (.istore 4, 2) := by decide +kernel
theorem dX1_lastHookDone_49 : decode cX1_lastHookDone 49 = .ok (.iload 4, 2) := by decide +kernel
theorem dX1_lastHookDone_51 : decode cX1_lastHookDone 51 = .ok (.ifCond .eq 5, 3) := by decide +kernel
theorem dX1_lastHookDone_54 : decode cX1_lastHookDone 54 = .ok (.iload_n 3, 1) := by decide +kernel
theorem dX1_lastHookDone_55 : decode cX1_lastHookDone 55 = .ok (.istore_n 2, 1) := by decide +kernel
theorem dX1_lastHookDone_56 : decode cX1_lastHookDone 56 = .ok (.iinc 3 1, 3) := by decide +kernel
theorem dX1_lastHookDone_59 : decode cX1_lastHookDone 59 = .ok (.goto (-55), 3) := by decide +kernel
theorem dX1_lastHookDone_62 : decode cX1_lastHookDone 62 = .ok (.iload_n 2, 1) := by decide +kernel
theorem dX1_lastHookDone_63 : decode cX1_lastHookDone 63 = .ok (.ireturn, 1) := by decide +kernel
theorem dX1_doHook_0 : decode cX1_doHook 0 = .ok (.iconst 0, 1) := by decide +kernel
theorem dX1_doHook_1 : decode cX1_doHook 1 = .ok (.istore 6, 2) := by decide +kernel
theorem dX1_doHook_3 : decode cX1_doHook 3 = .ok (.iload 6, 2) := by decide +kernel
theorem dX1_doHook_5 : decode cX1_doHook 5 = .ok (.iload 4, 2) := by decide +kernel
theorem dX1_doHook_7 : decode cX1_doHook 7 = .ok (.if_icmp .ge 142, 3) := by decide +kernel
theorem dX1_doHook_10 : decode cX1_doHook 10 = .ok (.aload_n 0, 1) := by decide +kernel
theorem dX1_doHook_11 : decode cX1_doHook 11 = .ok (.aload_n 1, 1) := by decide +kernel
theorem dX1_doHook_12 : decode cX1_doHook 12 = .ok (.iload_n 3, 1) := by decide +kernel
theorem dX1_doHook_13 : decode cX1_doHook 13 = .ok (.invokevirtual 101, 3) := by decide +kernel
theorem dX1_doHook_16 : decode cX1_doHook 16 = .ok (.istore 7, 2) := by decide +kernel
theorem dX1_doHook_18 : decode cX1_doHook 18 = .ok (.aload_n 0, 1) := by decide +kernel
theorem dX1_doHook_19 : decode cX1_doHook 19 = .ok (.getfield 33, 3) := by decide +kernel
theorem dX1_doHook_22 : decode cX1_doHook 22 = .ok (.iload_n 2, 1) := by decide +kernel
theorem dX1_doHook_23 : decode cX1_doHook 23 = .ok (.dup2, 1) := by decide +kernel
theorem dX1_doHook_24 : decode cX1_doHook 24 = .ok (.iaload, 1) := by decide +kernel
theorem dX1_doHook_25 : decode cX1_doHook 25 = .ok (.iconst 1, 1) := by decide +kernel
theorem dX1_doHook_26 : decode cX1_doHook 26 = .ok (.iadd, 1) := by decide +kernel
theorem dX1_doHook_27 : decode cX1_doHook 27 = .ok (.iastore, 1) := by decide +kernel
theorem dX1_doHook_28 : decode cX1_doHook 28 = .ok (.aload_n 0, 1) := by decide +kernel
theorem dX1_doHook_29 : decode cX1_doHook 29 = .ok (.getfield 30, 3) := by decide +kernel
theorem dX1_doHook_32 : decode cX1_doHook 32 = .ok (.iload_n 2, 1) := by decide +kernel
theorem dX1_doHook_33 : decode cX1_doHook 33 = .ok (.bipush 12, 2) := by decide +kernel
theorem dX1_doHook_35 : decode cX1_doHook 35 = .ok (.imul, 1) := by decide +kernel
theorem dX1_doHook_36 : decode cX1_doHook 36 = .ok (.iload_n 3, 1) := by decide +kernel
theorem dX1_doHook_37 : decode cX1_doHook 37 = .ok (.iadd, 1) := by decide +kernel
theorem dX1_doHook_38 : decode cX1_doHook 38 = .ok (.iload 7, 2) := by decide +kernel
theorem dX1_doHook_40 : decode cX1_doHook 40 = .ok (.iastore, 1) := by decide +kernel
theorem dX1_doHook_41 : decode cX1_doHook 41 = .ok (.iload 7, 2) := by decide +kernel
theorem dX1_doHook_43 : decode cX1_doHook 43 = .ok (.bipush 8, 2) := by decide +kernel
theorem dX1_doHook_45 : decode cX1_doHook 45 = .ok (.if_icmp .ne 16, 3) := by decide +kernel
theorem dX1_doHook_48 : decode cX1_doHook 48 = .ok (.aload_n 0, 1) := by decide +kernel
theorem dX1_doHook_49 : decode cX1_doHook 49 = .ok (.getfield 36, 3) := by decide +kernel
theorem dX1_doHook_52 : decode cX1_doHook 52 = .ok (.iload_n 2, 1) := by decide +kernel
theorem dX1_doHook_53 : decode cX1_doHook 53 = .ok (.dup2, 1) := by decide +kernel
theorem dX1_doHook_54 : decode cX1_doHook 54 = .ok (.iaload, 1) := by decide +kernel
theorem dX1_doHook_55 : decode cX1_doHook 55 = .ok (.iconst 1, 1) := by decide +kernel
theorem dX1_doHook_56 : decode cX1_doHook 56 = .ok (.iadd, 1) := by decide +kernel
theorem dX1_doHook_57 : decode cX1_doHook 57 = .ok (.iastore, 1) := by decide +kernel
theorem dX1_doHook_58 : decode cX1_doHook 58 = .ok (.goto 85, 3) := by decide +kernel
theorem dX1_doHook_61 : decode cX1_doHook 61 = .ok (.iload 7, 2) := by decide +kernel
theorem dX1_doHook_63 : decode cX1_doHook 63 = .ok (.bipush 9, 2) := by decide +kernel
theorem dX1_doHook_65 : decode cX1_doHook 65 = .ok (.if_icmp .ne 16, 3) := by decide +kernel
theorem dX1_doHook_68 : decode cX1_doHook 68 = .ok (.aload_n 0, 1) := by decide +kernel
theorem dX1_doHook_69 : decode cX1_doHook 69 = .ok (.getfield 39, 3) := by decide +kernel
theorem dX1_doHook_72 : decode cX1_doHook 72 = .ok (.iload_n 2, 1) := by decide +kernel
theorem dX1_doHook_73 : decode cX1_doHook 73 = .ok (.dup2, 1) := by decide +kernel
theorem dX1_doHook_74 : decode cX1_doHook 74 = .ok (.iaload, 1) := by decide +kernel
theorem dX1_doHook_75 : decode cX1_doHook 75 = .ok (.iconst 1, 1) := by decide +kernel
theorem dX1_doHook_76 : decode cX1_doHook 76 = .ok (.iadd, 1) := by decide +kernel
theorem dX1_doHook_77 : decode cX1_doHook 77 = .ok (.iastore, 1) := by decide +kernel
theorem dX1_doHook_78 : decode cX1_doHook 78 = .ok (.goto 65, 3) := by decide +kernel
theorem dX1_doHook_81 : decode cX1_doHook 81 = .ok (.aload_n 0, 1) := by decide +kernel
theorem dX1_doHook_82 : decode cX1_doHook 82 = .ok (.getfield 27, 3) := by decide +kernel
theorem dX1_doHook_85 : decode cX1_doHook 85 = .ok (.iload_n 2, 1) := by decide +kernel
theorem dX1_doHook_86 : decode cX1_doHook 86 = .ok (.bipush 8, 2) := by decide +kernel
theorem dX1_doHook_88 : decode cX1_doHook 88 = .ok (.imul, 1) := by decide +kernel
theorem dX1_doHook_89 : decode cX1_doHook 89 = .ok (.iload 7, 2) := by decide +kernel
theorem dX1_doHook_91 : decode cX1_doHook 91 = .ok (.iadd, 1) := by decide +kernel
theorem dX1_doHook_92 : decode cX1_doHook 92 = .ok (.dup2, 1) := by decide +kernel
theorem dX1_doHook_93 : decode cX1_doHook 93 = .ok (.iaload, 1) := by decide +kernel
theorem dX1_doHook_94 : decode cX1_doHook 94 = .ok (.iconst 1, 1) := by decide +kernel
theorem dX1_doHook_95 : decode cX1_doHook 95 = .ok (.iadd, 1) := by decide +kernel
theorem dX1_doHook_96 : decode cX1_doHook 96 = .ok (.iastore, 1) := by decide +kernel
theorem dX1_doHook_97 : decode cX1_doHook 97 = .ok (.aload_n 0, 1) := by decide +kernel
theorem dX1_doHook_98 : decode cX1_doHook 98 = .ok (.getfield 21, 3) := by decide +kernel
theorem dX1_doHook_101 : decode cX1_doHook 101 = .ok (.iload 7, 2) := by decide +kernel
theorem dX1_doHook_103 : decode cX1_doHook 103 = .ok (.dup2, 1) := by decide +kernel
theorem dX1_doHook_104 : decode cX1_doHook 104 = .ok (.iaload, 1) := by decide +kernel
theorem dX1_doHook_105 : decode cX1_doHook 105 = .ok (.iconst 1, 1) := by decide +kernel
theorem dX1_doHook_106 : decode cX1_doHook 106 = .ok (.iadd, 1) := by decide +kernel
theorem dX1_doHook_107 : decode cX1_doHook 107 = .ok (.iastore, 1) := by decide +kernel
theorem dX1_doHook_108 : decode cX1_doHook 108 = .ok (.iload_n 3, 1) := by decide +kernel
theorem dX1_doHook_109 : decode cX1_doHook 109 = .ok (.aload_n 0, 1) := by decide +kernel
theorem dX1_doHook_110 : decode cX1_doHook 110 = .ok (.getfield 18, 3) := by decide +kernel
theorem dX1_doHook_113 : decode cX1_doHook 113 = .ok (.iload 7, 2) := by decide +kernel
theorem dX1_doHook_115 : decode cX1_doHook 115 = .ok (.iaload, 1) := by decide +kernel
theorem dX1_doHook_116 : decode cX1_doHook 116 = .ok (.if_icmp .le 11, 3) := by decide +kernel
theorem dX1_doHook_119 : decode cX1_doHook 119 = .ok (.aload_n 0, 1) := by decide +kernel
theorem dX1_doHook_120 : decode cX1_doHook 120 = .ok (.getfield 18, 3) := by decide +kernel
theorem dX1_doHook_123 : decode cX1_doHook 123 = .ok (.iload 7, 2) := by decide +kernel
theorem dX1_doHook_125 : decode cX1_doHook 125 = .ok (.iload_n 3, 1) := by decide +kernel
theorem dX1_doHook_126 : decode cX1_doHook 126 = .ok (.iastore, 1) := by decide +kernel
theorem dX1_doHook_127 : decode cX1_doHook 127 = .ok (.aload_n 0, 1) := by decide +kernel
theorem dX1_doHook_128 : decode cX1_doHook 128 = .ok (.aload_n 1, 1) := by decide +kernel
theorem dX1_doHook_129 : decode cX1_doHook 129 = .ok (.getfield 104, 3) := by decide +kernel
theorem dX1_doHook_132 : decode cX1_doHook 132 = .ok (.iload 7, 2) := by decide +kernel
theorem dX1_doHook_134 : decode cX1_doHook 134 = .ok (.iaload, 1) := by decide +kernel
theorem dX1_doHook_135 : decode cX1_doHook 135 = .ok (.iload_n 2, 1) := by decide +kernel
theorem dX1_doHook_136 : decode cX1_doHook 136 = .ok (.iload 7, 2) := by decide +kernel
theorem dX1_doHook_138 : decode cX1_doHook 138 = .ok (.iload 5, 2) := by decide +kernel
theorem dX1_doHook_140 : decode cX1_doHook 140 = .ok (.invokevirtual 107, 3) := by decide +kernel
theorem dX1_doHook_143 : decode cX1_doHook 143 = .ok (.iinc 6 1, 3) := by decide +kernel
theorem dX1_doHook_146 : decode cX1_doHook 146 = .ok (.goto (-143), 3) := by decide +kernel
theorem dX1_doHook_149 : decode cX1_doHook 149 = .ok (.return_, 1) := by decide +kernel
theorem dX1_whatIsSaid_0 : decode cX1_whatIsSaid 0 = .ok (.aload_n 0, 1) := by decide +kernel
theorem dX1_whatIsSaid_1 : decode cX1_whatIsSaid 1 = .ok (.getfield 45, 3) := by decide +kernel
theorem dX1_whatIsSaid_4 : decode cX1_whatIsSaid 4 = .ok (.aload_n 1, 1) := by decide +kernel
theorem dX1_whatIsSaid_5 : decode cX1_whatIsSaid 5 = .ok (.getfield 53, 3) := by decide +kernel
theorem dX1_whatIsSaid_8 : decode cX1_whatIsSaid 8 = .ok (.if_icmp .ne 6, 3) := by decide +kernel
theorem dX1_whatIsSaid_11 : decode cX1_whatIsSaid 11 = .ok (.bipush 8, 2) := by decide +kernel
theorem dX1_whatIsSaid_13 : decode cX1_whatIsSaid 13 = .ok (.ireturn, 1) := by decide +kernel
theorem dX1_whatIsSaid_14 : decode cX1_whatIsSaid 14 = .ok (.iconst (-1), 1) := by decide +kernel
theorem dX1_whatIsSaid_15 : decode cX1_whatIsSaid 15 = .ok (.istore_n 3, 1) := by decide +kernel
theorem dX1_whatIsSaid_16 : decode cX1_whatIsSaid 16 = .ok (.iconst 0, 1) := by decide +kernel
theorem dX1_whatIsSaid_17 : decode cX1_whatIsSaid 17 = .ok (.istore 4, 2) := by decide +kernel
theorem dX1_whatIsSaid_19 : decode cX1_whatIsSaid 19 = .ok (.iload 4, 2) := by decide +kernel
theorem dX1_whatIsSaid_21 : decode cX1_whatIsSaid 21 = .ok (.aload_n 1, 1) := by decide +kernel
theorem dX1_whatIsSaid_22 : decode cX1_whatIsSaid 22 = .ok (.getfield 53, 3) := by decide +kernel
theorem dX1_whatIsSaid_25 : decode cX1_whatIsSaid 25 = .ok (.if_icmp .ge 88, 3) := by decide +kernel
theorem dX1_whatIsSaid_28 : decode cX1_whatIsSaid 28 = .ok (.aload_n 0, 1) := by decide +kernel
theorem dX1_whatIsSaid_29 : decode cX1_whatIsSaid 29 = .ok (.getfield 15, 3) := by decide +kernel
theorem dX1_whatIsSaid_32 : decode cX1_whatIsSaid 32 = .ok (.iload 4, 2) := by decide +kernel
theorem dX1_whatIsSaid_34 : decode cX1_whatIsSaid 34 = .ok (.iaload, 1) := by decide +kernel
theorem dX1_whatIsSaid_35 : decode cX1_whatIsSaid 35 = .ok (.iconst (-1), 1) := by decide +kernel
theorem dX1_whatIsSaid_36 : decode cX1_whatIsSaid 36 = .ok (.if_icmp .eq 6, 3) := by decide +kernel
theorem dX1_whatIsSaid_39 : decode cX1_whatIsSaid 39 = .ok (.goto 68, 3) := by decide +kernel
theorem dX1_whatIsSaid_42 : decode cX1_whatIsSaid 42 = .ok (.aload_n 1, 1) := by decide +kernel
theorem dX1_whatIsSaid_43 : decode cX1_whatIsSaid 43 = .ok (.getfield 104, 3) := by decide +kernel
theorem dX1_whatIsSaid_46 : decode cX1_whatIsSaid 46 = .ok (.iload 4, 2) := by decide +kernel
theorem dX1_whatIsSaid_48 : decode cX1_whatIsSaid 48 = .ok (.iaload, 1) := by decide +kernel
theorem dX1_whatIsSaid_49 : decode cX1_whatIsSaid 49 = .ok (.iconst 2, 1) := by decide +kernel
theorem dX1_whatIsSaid_50 : decode cX1_whatIsSaid 50 = .ok (.if_icmp .ne 18, 3) := by decide +kernel
theorem dX1_whatIsSaid_53 : decode cX1_whatIsSaid 53 = .ok (.iload_n 3, 1) := by decide +kernel
theorem dX1_whatIsSaid_54 : decode cX1_whatIsSaid 54 = .ok (.iconst (-1), 1) := by decide +kernel
theorem dX1_whatIsSaid_55 : decode cX1_whatIsSaid 55 = .ok (.if_icmp .ne 8, 3) := by decide +kernel
theorem dX1_whatIsSaid_58 : decode cX1_whatIsSaid 58 = .ok (.iload 4, 2) := by decide +kernel
theorem dX1_whatIsSaid_60 : decode cX1_whatIsSaid 60 = .ok (.goto 4, 3) := by decide +kernel
theorem dX1_whatIsSaid_63 : decode cX1_whatIsSaid 63 = .ok (.iload_n 3, 1) := by decide +kernel
theorem dX1_whatIsSaid_64 : decode cX1_whatIsSaid 64 = .ok (.istore_n 3, 1) := by decide +kernel
theorem dX1_whatIsSaid_65 : decode cX1_whatIsSaid 65 = .ok (.goto 42, 3) := by decide +kernel
theorem dX1_whatIsSaid_68 : decode cX1_whatIsSaid 68 = .ok (.aload_n 1, 1) := by decide +kernel
theorem dX1_whatIsSaid_69 : decode cX1_whatIsSaid 69 = .ok (.getfield 104, 3) := by decide +kernel
theorem dX1_whatIsSaid_72 : decode cX1_whatIsSaid 72 = .ok (.iload 4, 2) := by decide +kernel
theorem dX1_whatIsSaid_74 : decode cX1_whatIsSaid 74 = .ok (.iaload, 1) := by decide +kernel
theorem dX1_whatIsSaid_75 : decode cX1_whatIsSaid 75 = .ok (.iconst 1, 1) := by decide +kernel
theorem dX1_whatIsSaid_76 : decode cX1_whatIsSaid 76 = .ok (.if_icmp .ne 17, 3) := by decide +kernel
theorem dX1_whatIsSaid_79 : decode cX1_whatIsSaid 79 = .ok (.iload_n 2, 1) := by decide +kernel
theorem dX1_whatIsSaid_80 : decode cX1_whatIsSaid 80 = .ok (.aload_n 1, 1) := by decide +kernel
theorem dX1_whatIsSaid_81 : decode cX1_whatIsSaid 81 = .ok (.getfield 111, 3) := by decide +kernel
theorem dX1_whatIsSaid_84 : decode cX1_whatIsSaid 84 = .ok (.iload 4, 2) := by decide +kernel
theorem dX1_whatIsSaid_86 : decode cX1_whatIsSaid 86 = .ok (.iaload, 1) := by decide +kernel
theorem dX1_whatIsSaid_87 : decode cX1_whatIsSaid 87 = .ok (.if_icmp .lt 20, 3) := by decide +kernel
theorem dX1_whatIsSaid_90 : decode cX1_whatIsSaid 90 = .ok (.goto 14, 3) := by decide +kernel
theorem dX1_whatIsSaid_93 : decode cX1_whatIsSaid 93 = .ok (.iload_n 2, 1) := by decide +kernel
theorem dX1_whatIsSaid_94 : decode cX1_whatIsSaid 94 = .ok (.aload_n 1, 1) := by decide +kernel
theorem dX1_whatIsSaid_95 : decode cX1_whatIsSaid 95 = .ok (.getfield 111, 3) := by decide +kernel
theorem dX1_whatIsSaid_98 : decode cX1_whatIsSaid 98 = .ok (.iload 4, 2) := by decide +kernel
theorem dX1_whatIsSaid_100 : decode cX1_whatIsSaid 100 = .ok (.iaload, 1) := by decide +kernel
theorem dX1_whatIsSaid_101 : decode cX1_whatIsSaid 101 = .ok (.if_icmp .gt 6, 3) := by decide +kernel
theorem dX1_whatIsSaid_104 : decode cX1_whatIsSaid 104 = .ok (.iload 4, 2) := by decide +kernel
theorem dX1_whatIsSaid_106 : decode cX1_whatIsSaid 106 = .ok (.ireturn, 1) := by decide +kernel
theorem dX1_whatIsSaid_107 : decode cX1_whatIsSaid 107 = .ok (.iinc 4 1, 3) := by decide +kernel
theorem dX1_whatIsSaid_110 : decode cX1_whatIsSaid 110 = .ok (.goto (-91), 3) := by decide +kernel
theorem dX1_whatIsSaid_113 : decode cX1_whatIsSaid 113 = .ok (.iload_n 3, 1) := by decide +kernel
theorem dX1_whatIsSaid_114 : decode cX1_whatIsSaid 114 = .ok (.iconst (-1), 1) := by decide +kernel
theorem dX1_whatIsSaid_115 : decode cX1_whatIsSaid 115 = .ok (.if_icmp .ne 8, 3) := by decide +kernel
theorem dX1_whatIsSaid_118 : decode cX1_whatIsSaid 118 = .ok (.bipush 9, 2) := by decide +kernel
theorem dX1_whatIsSaid_120 : decode cX1_whatIsSaid 120 = .ok (.goto 4, 3) := by decide +kernel
theorem dX1_whatIsSaid_123 : decode cX1_whatIsSaid 123 = .ok (.iload_n 3, 1) := by decide +kernel
theorem dX1_whatIsSaid_124 : decode cX1_whatIsSaid 124 = .ok (.ireturn, 1) := by decide +kernel
theorem dX1_soften_0 : decode cX1_soften 0 = .ok (.iconst 1, 1) := by decide +kernel
theorem dX1_soften_1 : decode cX1_soften 1 = .ok (.istore 5, 2) := by decide +kernel
theorem dX1_soften_3 : decode cX1_soften 3 = .ok (.iload_n 1, 1) := by decide +kernel
theorem dX1_soften_4 : decode cX1_soften 4 = .ok (.iconst 1, 1) := by decide +kernel
theorem dX1_soften_5 : decode cX1_soften 5 = .ok (.if_icmp .ne 18, 3) := by decide +kernel
theorem dX1_soften_8 : decode cX1_soften 8 = .ok (.aload_n 0, 1) := by decide +kernel
theorem dX1_soften_9 : decode cX1_soften 9 = .ok (.getfield 42, 3) := by decide +kernel
theorem dX1_soften_12 : decode cX1_soften 12 = .ok (.iload_n 2, 1) := by decide +kernel
theorem dX1_soften_13 : decode cX1_soften 13 = .ok (.iaload, 1) := by decide +kernel
theorem dX1_soften_14 : decode cX1_soften 14 = .ok (.ifCond .le 9, 3) := by decide +kernel
theorem dX1_soften_17 : decode cX1_soften 17 = .ok (.iconst 2, 1) := by decide +kernel
theorem dX1_soften_18 : decode cX1_soften 18 = .ok (.istore 5, 2) := by decide +kernel
theorem dX1_soften_20 : decode cX1_soften 20 = .ok (.goto 16, 3) := by decide +kernel
theorem dX1_soften_23 : decode cX1_soften 23 = .ok (.iload_n 1, 1) := by decide +kernel
theorem dX1_soften_24 : decode cX1_soften 24 = .ok (.iconst 2, 1) := by decide +kernel
theorem dX1_soften_25 : decode cX1_soften 25 = .ok (.if_icmp .ne 11, 3) := by decide +kernel
theorem dX1_soften_28 : decode cX1_soften 28 = .ok (.iload 4, 2) := by decide +kernel
theorem dX1_soften_30 : decode cX1_soften 30 = .ok (.ifCond .eq 6, 3) := by decide +kernel
theorem dX1_soften_33 : decode cX1_soften 33 = .ok (.iconst 3, 1) := by decide +kernel
theorem dX1_soften_34 : decode cX1_soften 34 = .ok (.istore 5, 2) := by decide +kernel
theorem dX1_soften_36 : decode cX1_soften 36 = .ok (.aload_n 0, 1) := by decide +kernel
theorem dX1_soften_37 : decode cX1_soften 37 = .ok (.getfield 9, 3) := by decide +kernel
theorem dX1_soften_40 : decode cX1_soften 40 = .ok (.iload_n 3, 1) := by decide +kernel
theorem dX1_soften_41 : decode cX1_soften 41 = .ok (.dup2, 1) := by decide +kernel
theorem dX1_soften_42 : decode cX1_soften 42 = .ok (.iaload, 1) := by decide +kernel
theorem dX1_soften_43 : decode cX1_soften 43 = .ok (.iload 5, 2) := by decide +kernel
theorem dX1_soften_45 : decode cX1_soften 45 = .ok (.isub, 1) := by decide +kernel
theorem dX1_soften_46 : decode cX1_soften 46 = .ok (.iastore, 1) := by decide +kernel
theorem dX1_soften_47 : decode cX1_soften 47 = .ok (.aload_n 0, 1) := by decide +kernel
theorem dX1_soften_48 : decode cX1_soften 48 = .ok (.getfield 9, 3) := by decide +kernel
theorem dX1_soften_51 : decode cX1_soften 51 = .ok (.iload_n 3, 1) := by decide +kernel
theorem dX1_soften_52 : decode cX1_soften 52 = .ok (.iaload, 1) := by decide +kernel
theorem dX1_soften_53 : decode cX1_soften 53 = .ok (.ifCond .gt 37, 3) := by decide +kernel
theorem dX1_soften_56 : decode cX1_soften 56 = .ok (.aload_n 0, 1) := by decide +kernel
theorem dX1_soften_57 : decode cX1_soften 57 = .ok (.getfield 9, 3) := by decide +kernel
theorem dX1_soften_60 : decode cX1_soften 60 = .ok (.iload_n 3, 1) := by decide +kernel
theorem dX1_soften_61 : decode cX1_soften 61 = .ok (.iconst 0, 1) := by decide +kernel
theorem dX1_soften_62 : decode cX1_soften 62 = .ok (.iastore, 1) := by decide +kernel
theorem dX1_soften_63 : decode cX1_soften 63 = .ok (.aload_n 0, 1) := by decide +kernel
theorem dX1_soften_64 : decode cX1_soften 64 = .ok (.getfield 15, 3) := by decide +kernel
theorem dX1_soften_67 : decode cX1_soften 67 = .ok (.iload_n 3, 1) := by decide +kernel
theorem dX1_soften_68 : decode cX1_soften 68 = .ok (.iload_n 2, 1) := by decide +kernel
theorem dX1_soften_69 : decode cX1_soften 69 = .ok (.iastore, 1) := by decide +kernel
theorem dX1_soften_70 : decode cX1_soften 70 = .ok (.aload_n 0, 1) := by decide +kernel
theorem dX1_soften_71 : decode cX1_soften 71 = .ok (.getfield 42, 3) := by decide +kernel
theorem dX1_soften_74 : decode cX1_soften 74 = .ok (.iload_n 2, 1) := by decide +kernel
theorem dX1_soften_75 : decode cX1_soften 75 = .ok (.dup2, 1) := by decide +kernel
theorem dX1_soften_76 : decode cX1_soften 76 = .ok (.iaload, 1) := by decide +kernel
theorem dX1_soften_77 : decode cX1_soften 77 = .ok (.iconst 1, 1) := by decide +kernel
theorem dX1_soften_78 : decode cX1_soften 78 = .ok (.iadd, 1) := by decide +kernel
theorem dX1_soften_79 : decode cX1_soften 79 = .ok (.iastore, 1) := by decide +kernel
theorem dX1_soften_80 : decode cX1_soften 80 = .ok (.aload_n 0, 1) := by decide +kernel
theorem dX1_soften_81 : decode cX1_soften 81 = .ok (.dup, 1) := by decide +kernel
theorem dX1_soften_82 : decode cX1_soften 82 = .ok (.getfield 45, 3) := by decide +kernel
theorem dX1_soften_85 : decode cX1_soften 85 = .ok (.iconst 1, 1) := by decide +kernel
theorem dX1_soften_86 : decode cX1_soften 86 = .ok (.iadd, 1) := by decide +kernel
theorem dX1_soften_87 : decode cX1_soften 87 = .ok (.putfield 45, 3) := by decide +kernel
theorem dX1_soften_90 : decode cX1_soften 90 = .ok (.return_, 1) := by decide +kernel
theorem dX1_settledBehind_0 : decode cX1_settledBehind 0 = .ok (.iconst 0, 1) := by decide +kernel
theorem dX1_settledBehind_1 : decode cX1_settledBehind 1 = .ok (.istore_n 2, 1) := by decide +kernel
theorem dX1_settledBehind_2 : decode cX1_settledBehind 2 = .ok (.iconst 0, 1) := by decide +kernel
theorem dX1_settledBehind_3 : decode cX1_settledBehind 3 = .ok (.istore_n 3, 1) := by decide +kernel
theorem dX1_settledBehind_4 : decode cX1_settledBehind 4 = .ok (.iload_n 3, 1) := by decide +kernel
theorem dX1_settledBehind_5 : decode cX1_settledBehind 5 = .ok (.bipush 8, 2) := by decide +kernel
theorem dX1_settledBehind_7 : decode cX1_settledBehind 7 = .ok (.if_icmp .ge 35, 3) := by decide +kernel
theorem dX1_settledBehind_10 : decode cX1_settledBehind 10 = .ok (.aload_n 0, 1) := by decide +kernel
theorem dX1_settledBehind_11 : decode cX1_settledBehind 11 = .ok (.getfield 15, 3) := by decide +kernel
theorem dX1_settledBehind_14 : decode cX1_settledBehind 14 = .ok (.iload_n 3, 1) := by decide +kernel
theorem dX1_settledBehind_15 : decode cX1_settledBehind 15 = .ok (.iaload, 1) := by decide +kernel
theorem dX1_settledBehind_16 : decode cX1_settledBehind 16 = .ok (.iconst (-1), 1) := by decide +kernel
theorem dX1_settledBehind_17 : decode cX1_settledBehind 17 = .ok (.if_icmp .eq 19, 3) := by decide +kernel
theorem dX1_settledBehind_20 : decode cX1_settledBehind 20 = .ok (.aload_n 0, 1) := by decide +kernel
theorem dX1_settledBehind_21 : decode cX1_settledBehind 21 = .ok (.getfield 15, 3) := by decide +kernel
theorem dX1_settledBehind_24 : decode cX1_settledBehind 24 = .ok (.iload_n 3, 1) := by decide +kernel
theorem dX1_settledBehind_25 : decode cX1_settledBehind 25 = .ok (.iaload, 1) := by decide +kernel
theorem dX1_settledBehind_26 : decode cX1_settledBehind 26 = .ok (.iload_n 1, 1) := by decide +kernel
theorem dX1_settledBehind_27 : decode cX1_settledBehind 27 = .ok (.if_icmp .gt 9, 3) := by decide +kernel
theorem dX1_settledBehind_30 : decode cX1_settledBehind 30 = .ok (.iload_n 2, 1) := by decide +kernel
theorem dX1_settledBehind_31 : decode cX1_settledBehind 31 = .ok (.iconst 1, 1) := by decide +kernel
theorem dX1_settledBehind_32 : decode cX1_settledBehind 32 = .ok (.iload_n 3, 1) := by decide +kernel
theorem dX1_settledBehind_33 : decode cX1_settledBehind 33 = .ok (.ishl, 1) := by decide +kernel
theorem dX1_settledBehind_34 : decode cX1_settledBehind 34 = .ok (.ior, 1) := by decide +kernel
theorem dX1_settledBehind_35 : decode cX1_settledBehind 35 = .ok (.istore_n 2, 1) := by decide +kernel
theorem dX1_settledBehind_36 : decode cX1_settledBehind 36 = .ok (.iinc 3 1, 3) := by decide +kernel
theorem dX1_settledBehind_39 : decode cX1_settledBehind 39 = .ok (.goto (-35), 3) := by decide +kernel
theorem dX1_settledBehind_42 : decode cX1_settledBehind 42 = .ok (.iload_n 2, 1) := by decide +kernel
theorem dX1_settledBehind_43 : decode cX1_settledBehind 43 = .ok (.ireturn, 1) := by decide +kernel
theorem dX1_firstPeace_0 : decode cX1_firstPeace 0 = .ok (.iconst 0, 1) := by decide +kernel
theorem dX1_firstPeace_1 : decode cX1_firstPeace 1 = .ok (.istore_n 2, 1) := by decide +kernel
theorem dX1_firstPeace_2 : decode cX1_firstPeace 2 = .ok (.iload_n 2, 1) := by decide +kernel
theorem dX1_firstPeace_3 : decode cX1_firstPeace 3 = .ok (.bipush 12, 2) := by decide +kernel
theorem dX1_firstPeace_5 : decode cX1_firstPeace 5 = .ok (.if_icmp .ge 20, 3) := by decide +kernel
theorem dX1_firstPeace_8 : decode cX1_firstPeace 8 = .ok (.aload_n 0, 1) := by decide +kernel
theorem dX1_firstPeace_9 : decode cX1_firstPeace 9 = .ok (.iload_n 2, 1) := by decide +kernel
theorem dX1_firstPeace_10 : decode cX1_firstPeace 10 = .ok (.invokevirtual 114, 3) := by decide +kernel
theorem dX1_firstPeace_13 : decode cX1_firstPeace 13 = .ok (.iload_n 1, 1) := by decide +kernel
theorem dX1_firstPeace_14 : decode cX1_firstPeace 14 = .ok (.if_icmp .ne 5, 3) := by decide +kernel
theorem dX1_firstPeace_17 : decode cX1_firstPeace 17 = .ok (.iload_n 2, 1) := by decide +kernel
theorem dX1_firstPeace_18 : decode cX1_firstPeace 18 = .ok (.ireturn, 1) := by decide +kernel
theorem dX1_firstPeace_19 : decode cX1_firstPeace 19 = .ok (.iinc 2 1, 3) := by decide +kernel
theorem dX1_firstPeace_22 : decode cX1_firstPeace 22 = .ok (.goto (-20), 3) := by decide +kernel
theorem dX1_firstPeace_25 : decode cX1_firstPeace 25 = .ok (.iconst (-1), 1) := by decide +kernel
theorem dX1_firstPeace_26 : decode cX1_firstPeace 26 = .ok (.ireturn, 1) := by decide +kernel
theorem dX1_thingSaidMost_0 : decode cX1_thingSaidMost 0 = .ok (.iconst (-1), 1) := by decide +kernel
theorem dX1_thingSaidMost_1 : decode cX1_thingSaidMost 1 = .ok (.istore_n 1, 1) := by decide +kernel
theorem dX1_thingSaidMost_2 : decode cX1_thingSaidMost 2 = .ok (.iconst 0, 1) := by decide +kernel
theorem dX1_thingSaidMost_3 : decode cX1_thingSaidMost 3 = .ok (.istore_n 2, 1) := by decide +kernel
theorem dX1_thingSaidMost_4 : decode cX1_thingSaidMost 4 = .ok (.iconst 0, 1) := by decide +kernel
theorem dX1_thingSaidMost_5 : decode cX1_thingSaidMost 5 = .ok (.istore_n 3, 1) := by decide +kernel
theorem dX1_thingSaidMost_6 : decode cX1_thingSaidMost 6 = .ok (.iload_n 3, 1) := by decide +kernel
theorem dX1_thingSaidMost_7 : decode cX1_thingSaidMost 7 = .ok (.bipush 8, 2) := by decide +kernel
theorem dX1_thingSaidMost_9 : decode cX1_thingSaidMost 9 = .ok (.if_icmp .ge 28, 3) := by decide +kernel
theorem dX1_thingSaidMost_12 : decode cX1_thingSaidMost 12 = .ok (.aload_n 0, 1) := by decide +kernel
theorem dX1_thingSaidMost_13 : decode cX1_thingSaidMost 13 = .ok (.getfield 21, 3) := by decide +kernel
theorem dX1_thingSaidMost_16 : decode cX1_thingSaidMost 16 = .ok (.iload_n 3, 1) := by decide +kernel
theorem dX1_thingSaidMost_17 : decode cX1_thingSaidMost 17 = .ok (.iaload, 1) := by decide +kernel
theorem dX1_thingSaidMost_18 : decode cX1_thingSaidMost 18 = .ok (.iload_n 2, 1) := by decide +kernel
theorem dX1_thingSaidMost_19 : decode cX1_thingSaidMost 19 = .ok (.if_icmp .le 12, 3) := by decide +kernel
theorem dX1_thingSaidMost_22 : decode cX1_thingSaidMost 22 = .ok (.aload_n 0, 1) := by decide +kernel
theorem dX1_thingSaidMost_23 : decode cX1_thingSaidMost 23 = .ok (.getfield 21, 3) := by decide +kernel
theorem dX1_thingSaidMost_26 : decode cX1_thingSaidMost 26 = .ok (.iload_n 3, 1) := by decide +kernel
theorem dX1_thingSaidMost_27 : decode cX1_thingSaidMost 27 = .ok (.iaload, 1) := by decide +kernel
theorem dX1_thingSaidMost_28 : decode cX1_thingSaidMost 28 = .ok (.istore_n 2, 1) := by decide +kernel
theorem dX1_thingSaidMost_29 : decode cX1_thingSaidMost 29 = .ok (.iload_n 3, 1) := by decide +kernel
theorem dX1_thingSaidMost_30 : decode cX1_thingSaidMost 30 = .ok (.istore_n 1, 1) := by decide +kernel
theorem dX1_thingSaidMost_31 : decode cX1_thingSaidMost 31 = .ok (.iinc 3 1, 3) := by decide +kernel
theorem dX1_thingSaidMost_34 : decode cX1_thingSaidMost 34 = .ok (.goto (-28), 3) := by decide +kernel
theorem dX1_thingSaidMost_37 : decode cX1_thingSaidMost 37 = .ok (.iload_n 1, 1) := by decide +kernel
theorem dX1_thingSaidMost_38 : decode cX1_thingSaidMost 38 = .ok (.ireturn, 1) := by decide +kernel
theorem dX1_eveningAnswer_0 : decode cX1_eveningAnswer 0 = .ok (.iload_n 2, 1) := by decide +kernel
theorem dX1_eveningAnswer_1 : decode cX1_eveningAnswer 1 = .ok (.tableswitch 48 0 2 #[27, 34, 41], 27) := by decide +kernel
theorem dX1_eveningAnswer_28 : decode cX1_eveningAnswer 28 = .ok (.aload_n 0, 1) := by decide +kernel
theorem dX1_eveningAnswer_29 : decode cX1_eveningAnswer 29 = .ok (.getfield 33, 3) := by decide +kernel
theorem dX1_eveningAnswer_32 : decode cX1_eveningAnswer 32 = .ok (.iload_n 1, 1) := by decide +kernel
theorem dX1_eveningAnswer_33 : decode cX1_eveningAnswer 33 = .ok (.iaload, 1) := by decide +kernel
theorem dX1_eveningAnswer_34 : decode cX1_eveningAnswer 34 = .ok (.ireturn, 1) := by decide +kernel
theorem dX1_eveningAnswer_35 : decode cX1_eveningAnswer 35 = .ok (.aload_n 0, 1) := by decide +kernel
theorem dX1_eveningAnswer_36 : decode cX1_eveningAnswer 36 = .ok (.getfield 36, 3) := by decide +kernel
theorem dX1_eveningAnswer_39 : decode cX1_eveningAnswer 39 = .ok (.iload_n 1, 1) := by decide +kernel
theorem dX1_eveningAnswer_40 : decode cX1_eveningAnswer 40 = .ok (.iaload, 1) := by decide +kernel
theorem dX1_eveningAnswer_41 : decode cX1_eveningAnswer 41 = .ok (.ireturn, 1) := by decide +kernel
theorem dX1_eveningAnswer_42 : decode cX1_eveningAnswer 42 = .ok (.aload_n 0, 1) := by decide +kernel
theorem dX1_eveningAnswer_43 : decode cX1_eveningAnswer 43 = .ok (.getfield 39, 3) := by decide +kernel
theorem dX1_eveningAnswer_46 : decode cX1_eveningAnswer 46 = .ok (.iload_n 1, 1) := by decide +kernel
theorem dX1_eveningAnswer_47 : decode cX1_eveningAnswer 47 = .ok (.iaload, 1) := by decide +kernel
theorem dX1_eveningAnswer_48 : decode cX1_eveningAnswer 48 = .ok (.ireturn, 1) := by decide +kernel
theorem dX1_eveningAnswer_49 : decode cX1_eveningAnswer 49 = .ok (.aload_n 0, 1) := by decide +kernel
theorem dX1_eveningAnswer_50 : decode cX1_eveningAnswer 50 = .ok (.getfield 42, 3) := by decide +kernel
theorem dX1_eveningAnswer_53 : decode cX1_eveningAnswer 53 = .ok (.iload_n 1, 1) := by decide +kernel
theorem dX1_eveningAnswer_54 : decode cX1_eveningAnswer 54 = .ok (.iaload, 1) := by decide +kernel
theorem dX1_eveningAnswer_55 : decode cX1_eveningAnswer 55 = .ok (.ireturn, 1) := by decide +kernel
theorem dX1_sumAnswer_0 : decode cX1_sumAnswer 0 = .ok (.iload_n 1, 1) := by decide +kernel
theorem dX1_sumAnswer_1 : decode cX1_sumAnswer 1 = .ok (.tableswitch 48 0 2 #[27, 32, 40], 27) := by decide +kernel
theorem dX1_sumAnswer_28 : decode cX1_sumAnswer 28 = .ok (.aload_n 0, 1) := by decide +kernel
theorem dX1_sumAnswer_29 : decode cX1_sumAnswer 29 = .ok (.getfield 45, 3) := by decide +kernel
theorem dX1_sumAnswer_32 : decode cX1_sumAnswer 32 = .ok (.ireturn, 1) := by decide +kernel
theorem dX1_sumAnswer_33 : decode cX1_sumAnswer 33 = .ok (.aload_n 0, 1) := by decide +kernel
theorem dX1_sumAnswer_34 : decode cX1_sumAnswer 34 = .ok (.getfield 33, 3) := by decide +kernel
theorem dX1_sumAnswer_37 : decode cX1_sumAnswer 37 = .ok (.invokestatic 118, 3) := by decide +kernel
theorem dX1_sumAnswer_40 : decode cX1_sumAnswer 40 = .ok (.ireturn, 1) := by decide +kernel
theorem dX1_sumAnswer_41 : decode cX1_sumAnswer 41 = .ok (.aload_n 0, 1) := by decide +kernel
theorem dX1_sumAnswer_42 : decode cX1_sumAnswer 42 = .ok (.getfield 36, 3) := by decide +kernel
theorem dX1_sumAnswer_45 : decode cX1_sumAnswer 45 = .ok (.invokestatic 118, 3) := by decide +kernel
theorem dX1_sumAnswer_48 : decode cX1_sumAnswer 48 = .ok (.ireturn, 1) := by decide +kernel
theorem dX1_sumAnswer_49 : decode cX1_sumAnswer 49 = .ok (.aload_n 0, 1) := by decide +kernel
theorem dX1_sumAnswer_50 : decode cX1_sumAnswer 50 = .ok (.getfield 39, 3) := by decide +kernel
theorem dX1_sumAnswer_53 : decode cX1_sumAnswer 53 = .ok (.invokestatic 118, 3) := by decide +kernel
theorem dX1_sumAnswer_56 : decode cX1_sumAnswer 56 = .ok (.ireturn, 1) := by decide +kernel
theorem dX2_init_0 : decode cX2_init 0 = .ok (.aload_n 0, 1) := by decide +kernel
theorem dX2_init_1 : decode cX2_init 1 = .ok (.invokespecial 3, 3) := by decide +kernel
theorem dX2_init_4 : decode cX2_init 4 = .ok (.aload_n 0, 1) := by decide +kernel
theorem dX2_init_5 : decode cX2_init 5 = .ok (.iconst 0, 1) := by decide +kernel
theorem dX2_init_6 : decode cX2_init 6 = .ok (.putfield 9, 3) := by decide +kernel
theorem dX2_init_9 : decode cX2_init 9 = .ok (.aload_n 0, 1) := by decide +kernel
theorem dX2_init_10 : decode cX2_init 10 = .ok (.bipush 120, 2) := by decide +kernel
theorem dX2_init_12 : decode cX2_init 12 = .ok (.newarray .int, 2) := by decide +kernel
theorem dX2_init_14 : decode cX2_init 14 = .ok (.putfield 15, 3) := by decide +kernel
theorem dX2_init_17 : decode cX2_init 17 = .ok (.return_, 1) := by decide +kernel
theorem dX2_eveningToAsk_0 : decode cX2_eveningToAsk 0 = .ok (.iconst 0, 1) := by decide +kernel
theorem dX2_eveningToAsk_1 : decode cX2_eveningToAsk 1 = .ok (.istore_n 1, 1) := by decide +kernel
theorem dX2_eveningToAsk_2 : decode cX2_eveningToAsk 2 = .ok (.aload_n 0, 1) := by decide +kernel
theorem dX2_eveningToAsk_3 : decode cX2_eveningToAsk 3 = .ok (.iconst 0, 1) := by decide +kernel
theorem dX2_eveningToAsk_4 : decode cX2_eveningToAsk 4 = .ok (.invokevirtual 19, 3) := by decide +kernel
theorem dX2_eveningToAsk_7 : decode cX2_eveningToAsk 7 = .ok (.istore_n 2, 1) := by decide +kernel
theorem dX2_eveningToAsk_8 : decode cX2_eveningToAsk 8 = .ok (.iconst 1, 1) := by decide +kernel
theorem dX2_eveningToAsk_9 : decode cX2_eveningToAsk 9 = .ok (.istore_n 3, 1) := by decide +kernel
theorem dX2_eveningToAsk_10 : decode cX2_eveningToAsk 10 = .ok (.iload_n 3, 1) := by decide +kernel
theorem dX2_eveningToAsk_11 : decode cX2_eveningToAsk 11 = .ok (.bipush 12, 2) := by decide +kernel
theorem dX2_eveningToAsk_13 : decode cX2_eveningToAsk 13 = .ok (.if_icmp .ge 27, 3) := by decide +kernel
theorem dX2_eveningToAsk_16 : decode cX2_eveningToAsk 16 = .ok (.aload_n 0, 1) := by decide +kernel
theorem dX2_eveningToAsk_17 : decode cX2_eveningToAsk 17 = .ok (.iload_n 3, 1) := by decide +kernel
theorem dX2_eveningToAsk_18 : decode cX2_eveningToAsk 18 = .ok (.invokevirtual 19, 3) := by decide +kernel
theorem dX2_eveningToAsk_21 : decode cX2_eveningToAsk 21 = .ok (.istore 4, 2) := by decide +kernel
theorem dX2_eveningToAsk_23 : decode cX2_eveningToAsk 23 = .ok (.iload 4, 2) := by decide +kernel
theorem dX2_eveningToAsk_25 : decode cX2_eveningToAsk 25 = .ok (.iload_n 2, 1) := by decide +kernel
theorem dX2_eveningToAsk_26 : decode cX2_eveningToAsk 26 = .ok (.if_icmp .ge 8, 3) := by decide +kernel
theorem dX2_eveningToAsk_29 : decode cX2_eveningToAsk 29 = .ok (.iload 4, 2) := by decide +kernel
theorem dX2_eveningToAsk_31 : decode cX2_eveningToAsk 31 = .ok (.istore_n 2, 1) := by decide +kernel
theorem dX2_eveningToAsk_32 : decode cX2_eveningToAsk 32 = .ok (.iload_n 3, 1) := by decide +kernel
theorem dX2_eveningToAsk_33 : decode cX2_eveningToAsk 33 = .ok (.istore_n 1, 1) := by decide +kernel
theorem dX2_eveningToAsk_34 : decode cX2_eveningToAsk 34 = .ok (.iinc 3 1, 3) := by decide +kernel
theorem dX2_eveningToAsk_37 : decode cX2_eveningToAsk 37 = .ok (.goto (-27), 3) := by decide +kernel
theorem dX2_eveningToAsk_40 : decode cX2_eveningToAsk 40 = .ok (.iload_n 1, 1) := by decide +kernel
theorem dX2_eveningToAsk_41 : decode cX2_eveningToAsk 41 = .ok (.ireturn, 1) := by decide +kernel
theorem dX2_greatestLikeness_0 : decode cX2_greatestLikeness 0 = .ok (.iconst 0, 1) := by decide +kernel
theorem dX2_greatestLikeness_1 : decode cX2_greatestLikeness 1 = .ok (.istore_n 2, 1) := by decide +kernel
theorem dX2_greatestLikeness_2 : decode cX2_greatestLikeness 2 = .ok (.iconst 1, 1) := by decide +kernel
theorem dX2_greatestLikeness_3 : decode cX2_greatestLikeness 3 = .ok (.istore_n 3, 1) := by decide +kernel
theorem dX2_greatestLikeness_4 : decode cX2_greatestLikeness 4 = .ok (.iload_n 3, 1) := by decide +kernel
theorem dX2_greatestLikeness_5 : decode cX2_greatestLikeness 5 = .ok (.bipush 9, 2) := by decide +kernel
theorem dX2_greatestLikeness_7 : decode cX2_greatestLikeness 7 = .ok (.if_icmp .gt 32, 3) := by decide +kernel
theorem dX2_greatestLikeness_10 : decode cX2_greatestLikeness 10 = .ok (.aload_n 0, 1) := by decide +kernel
theorem dX2_greatestLikeness_11 : decode cX2_greatestLikeness 11 = .ok (.getfield 9, 3) := by decide +kernel
theorem dX2_greatestLikeness_14 : decode cX2_greatestLikeness 14 = .ok (.iload_n 3, 1) := by decide +kernel
theorem dX2_greatestLikeness_15 : decode cX2_greatestLikeness 15 = .ok (.ishr, 1) := by decide +kernel
theorem dX2_greatestLikeness_16 : decode cX2_greatestLikeness 16 = .ok (.iconst 1, 1) := by decide +kernel
theorem dX2_greatestLikeness_17 : decode cX2_greatestLikeness 17 = .ok (.iand, 1) := by decide +kernel
theorem dX2_greatestLikeness_18 : decode cX2_greatestLikeness 18 = .ok (.iconst 1, 1) := by decide +kernel
theorem dX2_greatestLikeness_19 : decode cX2_greatestLikeness 19 = .ok (.if_icmp .ne 14, 3) := by decide +kernel
theorem dX2_greatestLikeness_22 : decode cX2_greatestLikeness 22 = .ok (.iload_n 2, 1) := by decide +kernel
theorem dX2_greatestLikeness_23 : decode cX2_greatestLikeness 23 = .ok (.aload_n 0, 1) := by decide +kernel
theorem dX2_greatestLikeness_24 : decode cX2_greatestLikeness 24 = .ok (.iload_n 3, 1) := by decide +kernel
theorem dX2_greatestLikeness_25 : decode cX2_greatestLikeness 25 = .ok (.iload_n 1, 1) := by decide +kernel
theorem dX2_greatestLikeness_26 : decode cX2_greatestLikeness 26 = .ok (.invokevirtual 23, 3) := by decide +kernel
theorem dX2_greatestLikeness_29 : decode cX2_greatestLikeness 29 = .ok (.invokestatic 27, 3) := by decide +kernel
theorem dX2_greatestLikeness_32 : decode cX2_greatestLikeness 32 = .ok (.istore_n 2, 1) := by decide +kernel
theorem dX2_greatestLikeness_33 : decode cX2_greatestLikeness 33 = .ok (.iinc 3 1, 3) := by decide +kernel
theorem dX2_greatestLikeness_36 : decode cX2_greatestLikeness 36 = .ok (.goto (-32), 3) := by decide +kernel
theorem dX2_greatestLikeness_39 : decode cX2_greatestLikeness 39 = .ok (.iload_n 2, 1) := by decide +kernel
theorem dX2_greatestLikeness_40 : decode cX2_greatestLikeness 40 = .ok (.ireturn, 1) := by decide +kernel
theorem dX2_likenessOf_0 : decode cX2_likenessOf 0 = .ok (.iconst 0, 1) := by decide +kernel
theorem dX2_likenessOf_1 : decode cX2_likenessOf 1 = .ok (.istore_n 3, 1) := by decide +kernel
theorem dX2_likenessOf_2 : decode cX2_likenessOf 2 = .ok (.aload_n 0, 1) := by decide +kernel
theorem dX2_likenessOf_3 : decode cX2_likenessOf 3 = .ok (.getfield 15, 3) := by decide +kernel
theorem dX2_likenessOf_6 : decode cX2_likenessOf 6 = .ok (.iload_n 1, 1) := by decide +kernel
theorem dX2_likenessOf_7 : decode cX2_likenessOf 7 = .ok (.bipush 12, 2) := by decide +kernel
theorem dX2_likenessOf_9 : decode cX2_likenessOf 9 = .ok (.imul, 1) := by decide +kernel
theorem dX2_likenessOf_10 : decode cX2_likenessOf 10 = .ok (.iload_n 2, 1) := by decide +kernel
theorem dX2_likenessOf_11 : decode cX2_likenessOf 11 = .ok (.iadd, 1) := by decide +kernel
theorem dX2_likenessOf_12 : decode cX2_likenessOf 12 = .ok (.iaload, 1) := by decide +kernel
theorem dX2_likenessOf_13 : decode cX2_likenessOf 13 = .ok (.istore 4, 2) := by decide +kernel
theorem dX2_likenessOf_15 : decode cX2_likenessOf 15 = .ok (.iconst 1, 1) := by decide +kernel
theorem dX2_likenessOf_16 : decode cX2_likenessOf 16 = .ok (.istore 5, 2) := by decide +kernel
theorem dX2_likenessOf_18 : decode cX2_likenessOf 18 = .ok (.iload 5, 2) := by decide +kernel
theorem dX2_likenessOf_20 : decode cX2_likenessOf 20 = .ok (.bipush 9, 2) := by decide +kernel
theorem dX2_likenessOf_22 : decode cX2_likenessOf 22 = .ok (.if_icmp .gt 42, 3) := by decide +kernel
theorem dX2_likenessOf_25 : decode cX2_likenessOf 25 = .ok (.aload_n 0, 1) := by decide +kernel
theorem dX2_likenessOf_26 : decode cX2_likenessOf 26 = .ok (.getfield 9, 3) := by decide +kernel
theorem dX2_likenessOf_29 : decode cX2_likenessOf 29 = .ok (.iload 5, 2) := by decide +kernel
theorem dX2_likenessOf_31 : decode cX2_likenessOf 31 = .ok (.ishr, 1) := by decide +kernel
theorem dX2_likenessOf_32 : decode cX2_likenessOf 32 = .ok (.iconst 1, 1) := by decide +kernel
theorem dX2_likenessOf_33 : decode cX2_likenessOf 33 = .ok (.iand, 1) := by decide +kernel
theorem dX2_likenessOf_34 : decode cX2_likenessOf 34 = .ok (.iconst 1, 1) := by decide +kernel
theorem dX2_likenessOf_35 : decode cX2_likenessOf 35 = .ok (.if_icmp .ne 23, 3) := by decide +kernel
theorem dX2_likenessOf_38 : decode cX2_likenessOf 38 = .ok (.aload_n 0, 1) := by decide +kernel
theorem dX2_likenessOf_39 : decode cX2_likenessOf 39 = .ok (.getfield 15, 3) := by decide +kernel
theorem dX2_likenessOf_42 : decode cX2_likenessOf 42 = .ok (.iload 5, 2) := by decide +kernel
theorem dX2_likenessOf_44 : decode cX2_likenessOf 44 = .ok (.bipush 12, 2) := by decide +kernel
theorem dX2_likenessOf_46 : decode cX2_likenessOf 46 = .ok (.imul, 1) := by decide +kernel
theorem dX2_likenessOf_47 : decode cX2_likenessOf 47 = .ok (.iload_n 2, 1) := by decide +kernel
theorem dX2_likenessOf_48 : decode cX2_likenessOf 48 = .ok (.iadd, 1) := by decide +kernel
theorem dX2_likenessOf_49 : decode cX2_likenessOf 49 = .ok (.iaload, 1) := by decide +kernel
theorem dX2_likenessOf_50 : decode cX2_likenessOf 50 = .ok (.iload 4, 2) := by decide +kernel
theorem dX2_likenessOf_52 : decode cX2_likenessOf 52 = .ok (.if_icmp .ne 6, 3) := by decide +kernel
theorem dX2_likenessOf_55 : decode cX2_likenessOf 55 = .ok (.iinc 3 1, 3) := by decide +kernel
theorem dX2_likenessOf_58 : decode cX2_likenessOf 58 = .ok (.iinc 5 1, 3) := by decide +kernel
theorem dX2_likenessOf_61 : decode cX2_likenessOf 61 = .ok (.goto (-43), 3) := by decide +kernel
theorem dX2_likenessOf_64 : decode cX2_likenessOf 64 = .ok (.iload_n 3, 1) := by decide +kernel
theorem dX2_likenessOf_65 : decode cX2_likenessOf 65 = .ok (.ireturn, 1) := by decide +kernel
theorem dX3_init_0 : decode cX3_init 0 = .ok (.aload_n 0, 1) := by decide +kernel
theorem dX3_init_1 : decode cX3_init 1 = .ok (.invokespecial 1, 3) := by decide +kernel
theorem dX3_init_4 : decode cX3_init 4 = .ok (.aload_n 0, 1) := by decide +kernel
theorem dX3_init_5 : decode cX3_init 5 = .ok (.iconst 0, 1) := by decide +kernel
theorem dX3_init_6 : decode cX3_init 6 = .ok (.putfield 7, 3) := by decide +kernel
theorem dX3_init_9 : decode cX3_init 9 = .ok (.return_, 1) := by decide +kernel
theorem dX3_draw_0 : decode cX3_draw 0 = .ok (.aload_n 0, 1) := by decide +kernel
theorem dX3_draw_1 : decode cX3_draw 1 = .ok (.ldc 13, 2) := by decide +kernel
theorem dX3_draw_3 : decode cX3_draw 3 = .ok (.aload_n 0, 1) := by decide +kernel
theorem dX3_draw_4 : decode cX3_draw 4 = .ok (.getfield 7, 3) := by decide +kernel
theorem dX3_draw_7 : decode cX3_draw 7 = .ok (.imul, 1) := by decide +kernel
theorem dX3_draw_8 : decode cX3_draw 8 = .ok (.sipush 12345, 3) := by decide +kernel
theorem dX3_draw_11 : decode cX3_draw 11 = .ok (.iadd, 1) := by decide +kernel
theorem dX3_draw_12 : decode cX3_draw 12 = .ok (.putfield 7, 3) := by decide +kernel
theorem dX3_draw_15 : decode cX3_draw 15 = .ok (.iload_n 1, 1) := by decide +kernel
theorem dX3_draw_16 : decode cX3_draw 16 = .ok (.ifCond .le 15, 3) := by decide +kernel
theorem dX3_draw_19 : decode cX3_draw 19 = .ok (.aload_n 0, 1) := by decide +kernel
theorem dX3_draw_20 : decode cX3_draw 20 = .ok (.getfield 7, 3) := by decide +kernel
theorem dX3_draw_23 : decode cX3_draw 23 = .ok (.bipush 16, 2) := by decide +kernel
theorem dX3_draw_25 : decode cX3_draw 25 = .ok (.iushr, 1) := by decide +kernel
theorem dX3_draw_26 : decode cX3_draw 26 = .ok (.iload_n 1, 1) := by decide +kernel
theorem dX3_draw_27 : decode cX3_draw 27 = .ok (.irem, 1) := by decide +kernel
theorem dX3_draw_28 : decode cX3_draw 28 = .ok (.goto 4, 3) := by decide +kernel
theorem dX3_draw_31 : decode cX3_draw 31 = .ok (.iconst 0, 1) := by decide +kernel
theorem dX3_draw_32 : decode cX3_draw 32 = .ok (.ireturn, 1) := by decide +kernel
theorem dX4_init_0 : decode cX4_init 0 = .ok (.aload_n 0, 1) := by decide +kernel
theorem dX4_init_1 : decode cX4_init 1 = .ok (.invokespecial 3, 3) := by decide +kernel
theorem dX4_init_4 : decode cX4_init 4 = .ok (.aload_n 0, 1) := by decide +kernel
theorem dX4_init_5 : decode cX4_init 5 = .ok (.iconst 0, 1) := by decide +kernel
theorem dX4_init_6 : decode cX4_init 6 = .ok (.putfield 9, 3) := by decide +kernel
theorem dX4_init_9 : decode cX4_init 9 = .ok (.aload_n 0, 1) := by decide +kernel
theorem dX4_init_10 : decode cX4_init 10 = .ok (.iconst 0, 1) := by decide +kernel
theorem dX4_init_11 : decode cX4_init 11 = .ok (.putfield 15, 3) := by decide +kernel
theorem dX4_init_14 : decode cX4_init 14 = .ok (.aload_n 0, 1) := by decide +kernel
theorem dX4_init_15 : decode cX4_init 15 = .ok (.bipush 12, 2) := by decide +kernel
theorem dX4_init_17 : decode cX4_init 17 = .ok (.newarray .int, 2) := by decide +kernel
theorem dX4_init_19 : decode cX4_init 19 = .ok (.putfield 18, 3) := by decide +kernel
theorem dX4_init_22 : decode cX4_init 22 = .ok (.aload_n 0, 1) := by decide +kernel
theorem dX4_init_23 : decode cX4_init 23 = .ok (.bipush 8, 2) := by decide +kernel
theorem dX4_init_25 : decode cX4_init 25 = .ok (.newarray .int, 2) := by decide +kernel
theorem dX4_init_27 : decode cX4_init 27 = .ok (.putfield 22, 3) := by decide +kernel
theorem dX4_init_30 : decode cX4_init 30 = .ok (.aload_n 0, 1) := by decide +kernel
theorem dX4_init_31 : decode cX4_init 31 = .ok (.bipush 8, 2) := by decide +kernel
theorem dX4_init_33 : decode cX4_init 33 = .ok (.newarray .int, 2) := by decide +kernel
theorem dX4_init_35 : decode cX4_init 35 = .ok (.putfield 25, 3) := by decide +kernel
theorem dX4_init_38 : decode cX4_init 38 = .ok (.aload_n 0, 1) := by decide +kernel
theorem dX4_init_39 : decode cX4_init 39 = .ok (.bipush 8, 2) := by decide +kernel
theorem dX4_init_41 : decode cX4_init 41 = .ok (.newarray .int, 2) := by decide +kernel
theorem dX4_init_43 : decode cX4_init 43 = .ok (.putfield 28, 3) := by decide +kernel
theorem dX4_init_46 : decode cX4_init 46 = .ok (.aload_n 0, 1) := by decide +kernel
theorem dX4_init_47 : decode cX4_init 47 = .ok (.bipush 12, 2) := by decide +kernel
theorem dX4_init_49 : decode cX4_init 49 = .ok (.newarray .int, 2) := by decide +kernel
theorem dX4_init_51 : decode cX4_init 51 = .ok (.putfield 31, 3) := by decide +kernel
theorem dX4_init_54 : decode cX4_init 54 = .ok (.aload_n 0, 1) := by decide +kernel
theorem dX4_init_55 : decode cX4_init 55 = .ok (.bipush 12, 2) := by decide +kernel
theorem dX4_init_57 : decode cX4_init 57 = .ok (.newarray .int, 2) := by decide +kernel
theorem dX4_init_59 : decode cX4_init 59 = .ok (.putfield 34, 3) := by decide +kernel
theorem dX4_init_62 : decode cX4_init 62 = .ok (.return_, 1) := by decide +kernel
theorem dX4_takeHooks_0 : decode cX4_takeHooks 0 = .ok (.aload_n 0, 1) := by decide +kernel
theorem dX4_takeHooks_1 : decode cX4_takeHooks 1 = .ok (.aload_n 1, 1) := by decide +kernel
theorem dX4_takeHooks_2 : decode cX4_takeHooks 2 = .ok (.invokevirtual 37, 3) := by decide +kernel
theorem dX4_takeHooks_5 : decode cX4_takeHooks 5 = .ok (.iconst (-1), 1) := by decide +kernel
theorem dX4_takeHooks_6 : decode cX4_takeHooks 6 = .ok (.if_icmp .ne 10, 3) := by decide +kernel
theorem dX4_takeHooks_9 : decode cX4_takeHooks 9 = .ok (.aload_n 1, 1) := by decide +kernel
theorem dX4_takeHooks_10 : decode cX4_takeHooks 10 = .ok (.getfield 43, 3) := by decide +kernel
theorem dX4_takeHooks_13 : decode cX4_takeHooks 13 = .ok (.goto 4, 3) := by decide +kernel
theorem dX4_takeHooks_16 : decode cX4_takeHooks 16 = .ok (.iconst 0, 1) := by decide +kernel
theorem dX4_takeHooks_17 : decode cX4_takeHooks 17 = .ok (.putfield 9, 3) := by decide +kernel
theorem dX4_takeHooks_20 : decode cX4_takeHooks 20 = .ok (.iconst 0, 1) := by decide +kernel
theorem dX4_takeHooks_21 : decode cX4_takeHooks 21 = .ok (.istore_n 2, 1) := by decide +kernel
theorem dX4_takeHooks_22 : decode cX4_takeHooks 22 = .ok (.iload_n 2, 1) := by decide +kernel
theorem dX4_takeHooks_23 : decode cX4_takeHooks 23 = .ok (.aload_n 0, 1) := by decide +kernel
theorem dX4_takeHooks_24 : decode cX4_takeHooks 24 = .ok (.getfield 9, 3) := by decide +kernel
theorem dX4_takeHooks_27 : decode cX4_takeHooks 27 = .ok (.if_icmp .ge 24, 3) := by decide +kernel
theorem dX4_takeHooks_30 : decode cX4_takeHooks 30 = .ok (.aload_n 0, 1) := by decide +kernel
theorem dX4_takeHooks_31 : decode cX4_takeHooks 31 = .ok (.getfield 18, 3) := by decide +kernel
theorem dX4_takeHooks_34 : decode cX4_takeHooks 34 = .ok (.iload_n 2, 1) := by decide +kernel
theorem dX4_takeHooks_35 : decode cX4_takeHooks 35 = .ok (.aload_n 1, 1) := by decide +kernel
theorem dX4_takeHooks_36 : decode cX4_takeHooks 36 = .ok (.getfield 46, 3) := by decide +kernel
theorem dX4_takeHooks_39 : decode cX4_takeHooks 39 = .ok (.iload_n 2, 1) := by decide +kernel
theorem dX4_takeHooks_40 : decode cX4_takeHooks 40 = .ok (.iaload, 1) := by decide +kernel
theorem dX4_takeHooks_41 : decode cX4_takeHooks 41 = .ok (.invokestatic 49, 3) := by decide +kernel
theorem dX4_takeHooks_44 : decode cX4_takeHooks 44 = .ok (.iastore, 1) := by decide +kernel
theorem dX4_takeHooks_45 : decode cX4_takeHooks 45 = .ok (.iinc 2 1, 3) := by decide +kernel
theorem dX4_takeHooks_48 : decode cX4_takeHooks 48 = .ok (.goto (-26), 3) := by decide +kernel
theorem dX4_takeHooks_51 : decode cX4_takeHooks 51 = .ok (.return_, 1) := by decide +kernel
theorem dX4_takeThings_0 : decode cX4_takeThings 0 = .ok (.aload_n 0, 1) := by decide +kernel
theorem dX4_takeThings_1 : decode cX4_takeThings 1 = .ok (.aload_n 1, 1) := by decide +kernel
theorem dX4_takeThings_2 : decode cX4_takeThings 2 = .ok (.invokevirtual 53, 3) := by decide +kernel
theorem dX4_takeThings_5 : decode cX4_takeThings 5 = .ok (.iconst (-1), 1) := by decide +kernel
theorem dX4_takeThings_6 : decode cX4_takeThings 6 = .ok (.if_icmp .ne 14, 3) := by decide +kernel
theorem dX4_takeThings_9 : decode cX4_takeThings 9 = .ok (.aload_n 1, 1) := by decide +kernel
theorem dX4_takeThings_10 : decode cX4_takeThings 10 = .ok (.getfield 43, 3) := by decide +kernel
theorem dX4_takeThings_13 : decode cX4_takeThings 13 = .ok (.iconst 1, 1) := by decide +kernel
theorem dX4_takeThings_14 : decode cX4_takeThings 14 = .ok (.iadd, 1) := by decide +kernel
theorem dX4_takeThings_15 : decode cX4_takeThings 15 = .ok (.iconst 4, 1) := by decide +kernel
theorem dX4_takeThings_16 : decode cX4_takeThings 16 = .ok (.idiv, 1) := by decide +kernel
theorem dX4_takeThings_17 : decode cX4_takeThings 17 = .ok (.goto 4, 3) := by decide +kernel
theorem dX4_takeThings_20 : decode cX4_takeThings 20 = .ok (.iconst 0, 1) := by decide +kernel
theorem dX4_takeThings_21 : decode cX4_takeThings 21 = .ok (.putfield 15, 3) := by decide +kernel
theorem dX4_takeThings_24 : decode cX4_takeThings 24 = .ok (.iconst 0, 1) := by decide +kernel
theorem dX4_takeThings_25 : decode cX4_takeThings 25 = .ok (.istore_n 2, 1) := by decide +kernel
theorem dX4_takeThings_26 : decode cX4_takeThings 26 = .ok (.iload_n 2, 1) := by decide +kernel
theorem dX4_takeThings_27 : decode cX4_takeThings 27 = .ok (.aload_n 0, 1) := by decide +kernel
theorem dX4_takeThings_28 : decode cX4_takeThings 28 = .ok (.getfield 15, 3) := by decide +kernel
theorem dX4_takeThings_31 : decode cX4_takeThings 31 = .ok (.if_icmp .ge 64, 3) := by decide +kernel
theorem dX4_takeThings_34 : decode cX4_takeThings 34 = .ok (.aload_n 0, 1) := by decide +kernel
theorem dX4_takeThings_35 : decode cX4_takeThings 35 = .ok (.getfield 22, 3) := by decide +kernel
theorem dX4_takeThings_38 : decode cX4_takeThings 38 = .ok (.iload_n 2, 1) := by decide +kernel
theorem dX4_takeThings_39 : decode cX4_takeThings 39 = .ok (.aload_n 1, 1) := by decide +kernel
theorem dX4_takeThings_40 : decode cX4_takeThings 40 = .ok (.getfield 46, 3) := by decide +kernel
theorem dX4_takeThings_43 : decode cX4_takeThings 43 = .ok (.iconst 4, 1) := by decide +kernel
theorem dX4_takeThings_44 : decode cX4_takeThings 44 = .ok (.iload_n 2, 1) := by decide +kernel
theorem dX4_takeThings_45 : decode cX4_takeThings 45 = .ok (.imul, 1) := by decide +kernel
theorem dX4_takeThings_46 : decode cX4_takeThings 46 = .ok (.iaload, 1) := by decide +kernel
theorem dX4_takeThings_47 : decode cX4_takeThings 47 = .ok (.invokestatic 56, 3) := by decide +kernel
theorem dX4_takeThings_50 : decode cX4_takeThings 50 = .ok (.iastore, 1) := by decide +kernel
theorem dX4_takeThings_51 : decode cX4_takeThings 51 = .ok (.aload_n 0, 1) := by decide +kernel
theorem dX4_takeThings_52 : decode cX4_takeThings 52 = .ok (.getfield 25, 3) := by decide +kernel
theorem dX4_takeThings_55 : decode cX4_takeThings 55 = .ok (.iload_n 2, 1) := by decide +kernel
theorem dX4_takeThings_56 : decode cX4_takeThings 56 = .ok (.aload_n 1, 1) := by decide +kernel
theorem dX4_takeThings_57 : decode cX4_takeThings 57 = .ok (.getfield 46, 3) := by decide +kernel
theorem dX4_takeThings_60 : decode cX4_takeThings 60 = .ok (.iconst 4, 1) := by decide +kernel
theorem dX4_takeThings_61 : decode cX4_takeThings 61 = .ok (.iload_n 2, 1) := by decide +kernel
theorem dX4_takeThings_62 : decode cX4_takeThings 62 = .ok (.imul, 1) := by decide +kernel
theorem dX4_takeThings_63 : decode cX4_takeThings 63 = .ok (.iconst 1, 1) := by decide +kernel
theorem dX4_takeThings_64 : decode cX4_takeThings 64 = .ok (.iadd, 1) := by decide +kernel
theorem dX4_takeThings_65 : decode cX4_takeThings 65 = .ok (.iaload, 1) := by decide +kernel
theorem dX4_takeThings_66 : decode cX4_takeThings 66 = .ok (.bipush 48, 2) := by decide +kernel
theorem dX4_takeThings_68 : decode cX4_takeThings 68 = .ok (.isub, 1) := by decide +kernel
theorem dX4_takeThings_69 : decode cX4_takeThings 69 = .ok (.iastore, 1) := by decide +kernel
theorem dX4_takeThings_70 : decode cX4_takeThings 70 = .ok (.aload_n 0, 1) := by decide +kernel
theorem dX4_takeThings_71 : decode cX4_takeThings 71 = .ok (.getfield 28, 3) := by decide +kernel
theorem dX4_takeThings_74 : decode cX4_takeThings 74 = .ok (.iload_n 2, 1) := by decide +kernel
theorem dX4_takeThings_75 : decode cX4_takeThings 75 = .ok (.aload_n 1, 1) := by decide +kernel
theorem dX4_takeThings_76 : decode cX4_takeThings 76 = .ok (.getfield 46, 3) := by decide +kernel
theorem dX4_takeThings_79 : decode cX4_takeThings 79 = .ok (.iconst 4, 1) := by decide +kernel
theorem dX4_takeThings_80 : decode cX4_takeThings 80 = .ok (.iload_n 2, 1) := by decide +kernel
theorem dX4_takeThings_81 : decode cX4_takeThings 81 = .ok (.imul, 1) := by decide +kernel
theorem dX4_takeThings_82 : decode cX4_takeThings 82 = .ok (.iconst 2, 1) := by decide +kernel
theorem dX4_takeThings_83 : decode cX4_takeThings 83 = .ok (.iadd, 1) := by decide +kernel
theorem dX4_takeThings_84 : decode cX4_takeThings 84 = .ok (.iaload, 1) := by decide +kernel
theorem dX4_takeThings_85 : decode cX4_takeThings 85 = .ok (.bipush 48, 2) := by decide +kernel
theorem dX4_takeThings_87 : decode cX4_takeThings 87 = .ok (.isub, 1) := by decide +kernel
theorem dX4_takeThings_88 : decode cX4_takeThings 88 = .ok (.iastore, 1) := by decide +kernel
theorem dX4_takeThings_89 : decode cX4_takeThings 89 = .ok (.iinc 2 1, 3) := by decide +kernel
theorem dX4_takeThings_92 : decode cX4_takeThings 92 = .ok (.goto (-66), 3) := by decide +kernel
theorem dX4_takeThings_95 : decode cX4_takeThings 95 = .ok (.return_, 1) := by decide +kernel
theorem dX4_takeEvents_0 : decode cX4_takeEvents 0 = .ok (.aload_n 0, 1) := by decide +kernel
theorem dX4_takeEvents_1 : decode cX4_takeEvents 1 = .ok (.getfield 31, 3) := by decide +kernel
theorem dX4_takeEvents_4 : decode cX4_takeEvents 4 = .ok (.iconst 0, 1) := by decide +kernel
theorem dX4_takeEvents_5 : decode cX4_takeEvents 5 = .ok (.invokestatic 59, 3) := by decide +kernel
theorem dX4_takeEvents_8 : decode cX4_takeEvents 8 = .ok (.aload_n 0, 1) := by decide +kernel
theorem dX4_takeEvents_9 : decode cX4_takeEvents 9 = .ok (.getfield 34, 3) := by decide +kernel
theorem dX4_takeEvents_12 : decode cX4_takeEvents 12 = .ok (.iconst 0, 1) := by decide +kernel
theorem dX4_takeEvents_13 : decode cX4_takeEvents 13 = .ok (.invokestatic 59, 3) := by decide +kernel
theorem dX4_takeEvents_16 : decode cX4_takeEvents 16 = .ok (.iconst 0, 1) := by decide +kernel
theorem dX4_takeEvents_17 : decode cX4_takeEvents 17 = .ok (.istore_n 3, 1) := by decide +kernel
theorem dX4_takeEvents_18 : decode cX4_takeEvents 18 = .ok (.iload_n 3, 1) := by decide +kernel
theorem dX4_takeEvents_19 : decode cX4_takeEvents 19 = .ok (.aload_n 1, 1) := by decide +kernel
theorem dX4_takeEvents_20 : decode cX4_takeEvents 20 = .ok (.getfield 65, 3) := by decide +kernel
theorem dX4_takeEvents_23 : decode cX4_takeEvents 23 = .ok (.if_icmp .ge 40, 3) := by decide +kernel
theorem dX4_takeEvents_26 : decode cX4_takeEvents 26 = .ok (.iload_n 2, 1) := by decide +kernel
theorem dX4_takeEvents_27 : decode cX4_takeEvents 27 = .ok (.iload_n 3, 1) := by decide +kernel
theorem dX4_takeEvents_28 : decode cX4_takeEvents 28 = .ok (.ishr, 1) := by decide +kernel
theorem dX4_takeEvents_29 : decode cX4_takeEvents 29 = .ok (.iconst 1, 1) := by decide +kernel
theorem dX4_takeEvents_30 : decode cX4_takeEvents 30 = .ok (.iand, 1) := by decide +kernel
theorem dX4_takeEvents_31 : decode cX4_takeEvents 31 = .ok (.iconst 1, 1) := by decide +kernel
theorem dX4_takeEvents_32 : decode cX4_takeEvents 32 = .ok (.if_icmp .ne 25, 3) := by decide +kernel
theorem dX4_takeEvents_35 : decode cX4_takeEvents 35 = .ok (.aload_n 0, 1) := by decide +kernel
theorem dX4_takeEvents_36 : decode cX4_takeEvents 36 = .ok (.aload_n 1, 1) := by decide +kernel
theorem dX4_takeEvents_37 : decode cX4_takeEvents 37 = .ok (.getfield 70, 3) := by decide +kernel
theorem dX4_takeEvents_40 : decode cX4_takeEvents 40 = .ok (.iload_n 3, 1) := by decide +kernel
theorem dX4_takeEvents_41 : decode cX4_takeEvents 41 = .ok (.iaload, 1) := by decide +kernel
theorem dX4_takeEvents_42 : decode cX4_takeEvents 42 = .ok (.aload_n 1, 1) := by decide +kernel
theorem dX4_takeEvents_43 : decode cX4_takeEvents 43 = .ok (.getfield 73, 3) := by decide +kernel
theorem dX4_takeEvents_46 : decode cX4_takeEvents 46 = .ok (.iload_n 3, 1) := by decide +kernel
theorem dX4_takeEvents_47 : decode cX4_takeEvents 47 = .ok (.iaload, 1) := by decide +kernel
theorem dX4_takeEvents_48 : decode cX4_takeEvents 48 = .ok (.aload_n 1, 1) := by decide +kernel
theorem dX4_takeEvents_49 : decode cX4_takeEvents 49 = .ok (.getfield 76, 3) := by decide +kernel
theorem dX4_takeEvents_52 : decode cX4_takeEvents 52 = .ok (.iload_n 3, 1) := by decide +kernel
theorem dX4_takeEvents_53 : decode cX4_takeEvents 53 = .ok (.iaload, 1) := by decide +kernel
theorem dX4_takeEvents_54 : decode cX4_takeEvents 54 = .ok (.invokevirtual 79, 3) := by decide +kernel
theorem dX4_takeEvents_57 : decode cX4_takeEvents 57 = .ok (.iinc 3 1, 3) := by decide +kernel
theorem dX4_takeEvents_60 : decode cX4_takeEvents 60 = .ok (.goto (-42), 3) := by decide +kernel
theorem dX4_takeEvents_63 : decode cX4_takeEvents 63 = .ok (.return_, 1) := by decide +kernel
theorem dX4_takeEvent_0 : decode cX4_takeEvent 0 = .ok (.iload_n 1, 1) := by decide +kernel
theorem dX4_takeEvent_1 : decode cX4_takeEvent 1 = .ok (.ifCond .eq 8, 3) := by decide +kernel
theorem dX4_takeEvent_4 : decode cX4_takeEvent 4 = .ok (.iload_n 1, 1) := by decide +kernel
theorem dX4_takeEvent_5 : decode cX4_takeEvent 5 = .ok (.iconst 1, 1) := by decide +kernel
theorem dX4_takeEvent_6 : decode cX4_takeEvent 6 = .ok (.if_icmp .ne 18, 3) := by decide +kernel
theorem dX4_takeEvent_9 : decode cX4_takeEvent 9 = .ok (.aload_n 0, 1) := by decide +kernel
theorem dX4_takeEvent_10 : decode cX4_takeEvent 10 = .ok (.getfield 34, 3) := by decide +kernel
theorem dX4_takeEvent_13 : decode cX4_takeEvent 13 = .ok (.iload_n 2, 1) := by decide +kernel
theorem dX4_takeEvent_14 : decode cX4_takeEvent 14 = .ok (.dup2, 1) := by decide +kernel
theorem dX4_takeEvent_15 : decode cX4_takeEvent 15 = .ok (.iaload, 1) := by decide +kernel
theorem dX4_takeEvent_16 : decode cX4_takeEvent 16 = .ok (.iconst 1, 1) := by decide +kernel
theorem dX4_takeEvent_17 : decode cX4_takeEvent 17 = .ok (.iload_n 1, 1) := by decide +kernel
theorem dX4_takeEvent_18 : decode cX4_takeEvent 18 = .ok (.ishl, 1) := by decide +kernel
theorem dX4_takeEvent_19 : decode cX4_takeEvent 19 = .ok (.ior, 1) := by decide +kernel
theorem dX4_takeEvent_20 : decode cX4_takeEvent 20 = .ok (.iastore, 1) := by decide +kernel
theorem dX4_takeEvent_21 : decode cX4_takeEvent 21 = .ok (.goto 15, 3) := by decide +kernel
theorem dX4_takeEvent_24 : decode cX4_takeEvent 24 = .ok (.aload_n 0, 1) := by decide +kernel
theorem dX4_takeEvent_25 : decode cX4_takeEvent 25 = .ok (.getfield 31, 3) := by decide +kernel
theorem dX4_takeEvent_28 : decode cX4_takeEvent 28 = .ok (.iload_n 2, 1) := by decide +kernel
theorem dX4_takeEvent_29 : decode cX4_takeEvent 29 = .ok (.dup2, 1) := by decide +kernel
theorem dX4_takeEvent_30 : decode cX4_takeEvent 30 = .ok (.iaload, 1) := by decide +kernel
theorem dX4_takeEvent_31 : decode cX4_takeEvent 31 = .ok (.iconst 1, 1) := by decide +kernel
theorem dX4_takeEvent_32 : decode cX4_takeEvent 32 = .ok (.iload_n 3, 1) := by decide +kernel
theorem dX4_takeEvent_33 : decode cX4_takeEvent 33 = .ok (.ishl, 1) := by decide +kernel
theorem dX4_takeEvent_34 : decode cX4_takeEvent 34 = .ok (.ior, 1) := by decide +kernel
theorem dX4_takeEvent_35 : decode cX4_takeEvent 35 = .ok (.iastore, 1) := by decide +kernel
theorem dX4_takeEvent_36 : decode cX4_takeEvent 36 = .ok (.return_, 1) := by decide +kernel
theorem dX4_copyFrom_0 : decode cX4_copyFrom 0 = .ok (.aload_n 0, 1) := by decide +kernel
theorem dX4_copyFrom_1 : decode cX4_copyFrom 1 = .ok (.aload_n 1, 1) := by decide +kernel
theorem dX4_copyFrom_2 : decode cX4_copyFrom 2 = .ok (.getfield 9, 3) := by decide +kernel
theorem dX4_copyFrom_5 : decode cX4_copyFrom 5 = .ok (.putfield 9, 3) := by decide +kernel
theorem dX4_copyFrom_8 : decode cX4_copyFrom 8 = .ok (.aload_n 0, 1) := by decide +kernel
theorem dX4_copyFrom_9 : decode cX4_copyFrom 9 = .ok (.aload_n 1, 1) := by decide +kernel
theorem dX4_copyFrom_10 : decode cX4_copyFrom 10 = .ok (.getfield 15, 3) := by decide +kernel
theorem dX4_copyFrom_13 : decode cX4_copyFrom 13 = .ok (.putfield 15, 3) := by decide +kernel
theorem dX4_copyFrom_16 : decode cX4_copyFrom 16 = .ok (.aload_n 1, 1) := by decide +kernel
theorem dX4_copyFrom_17 : decode cX4_copyFrom 17 = .ok (.getfield 18, 3) := by decide +kernel
theorem dX4_copyFrom_20 : decode cX4_copyFrom 20 = .ok (.iconst 0, 1) := by decide +kernel
theorem dX4_copyFrom_21 : decode cX4_copyFrom 21 = .ok (.aload_n 0, 1) := by decide +kernel
theorem dX4_copyFrom_22 : decode cX4_copyFrom 22 = .ok (.getfield 18, 3) := by decide +kernel
theorem dX4_copyFrom_25 : decode cX4_copyFrom 25 = .ok (.iconst 0, 1) := by decide +kernel
theorem dX4_copyFrom_26 : decode cX4_copyFrom 26 = .ok (.bipush 12, 2) := by decide +kernel
theorem dX4_copyFrom_28 : decode cX4_copyFrom 28 = .ok (.invokestatic 83, 3) := by decide +kernel
theorem dX4_copyFrom_31 : decode cX4_copyFrom 31 = .ok (.aload_n 1, 1) := by decide +kernel
theorem dX4_copyFrom_32 : decode cX4_copyFrom 32 = .ok (.getfield 22, 3) := by decide +kernel
theorem dX4_copyFrom_35 : decode cX4_copyFrom 35 = .ok (.iconst 0, 1) := by decide +kernel
theorem dX4_copyFrom_36 : decode cX4_copyFrom 36 = .ok (.aload_n 0, 1) := by decide +kernel
theorem dX4_copyFrom_37 : decode cX4_copyFrom 37 = .ok (.getfield 22, 3) := by decide +kernel
theorem dX4_copyFrom_40 : decode cX4_copyFrom 40 = .ok (.iconst 0, 1) := by decide +kernel
theorem dX4_copyFrom_41 : decode cX4_copyFrom 41 = .ok (.bipush 8, 2) := by decide +kernel
theorem dX4_copyFrom_43 : decode cX4_copyFrom 43 = .ok (.invokestatic 83, 3) := by decide +kernel
theorem dX4_copyFrom_46 : decode cX4_copyFrom 46 = .ok (.aload_n 1, 1) := by decide +kernel
theorem dX4_copyFrom_47 : decode cX4_copyFrom 47 = .ok (.getfield 25, 3) := by decide +kernel
theorem dX4_copyFrom_50 : decode cX4_copyFrom 50 = .ok (.iconst 0, 1) := by decide +kernel
theorem dX4_copyFrom_51 : decode cX4_copyFrom 51 = .ok (.aload_n 0, 1) := by decide +kernel
theorem dX4_copyFrom_52 : decode cX4_copyFrom 52 = .ok (.getfield 25, 3) := by decide +kernel
theorem dX4_copyFrom_55 : decode cX4_copyFrom 55 = .ok (.iconst 0, 1) := by decide +kernel
theorem dX4_copyFrom_56 : decode cX4_copyFrom 56 = .ok (.bipush 8, 2) := by decide +kernel
theorem dX4_copyFrom_58 : decode cX4_copyFrom 58 = .ok (.invokestatic 83, 3) := by decide +kernel
theorem dX4_copyFrom_61 : decode cX4_copyFrom 61 = .ok (.aload_n 1, 1) := by decide +kernel
theorem dX4_copyFrom_62 : decode cX4_copyFrom 62 = .ok (.getfield 28, 3) := by decide +kernel
theorem dX4_copyFrom_65 : decode cX4_copyFrom 65 = .ok (.iconst 0, 1) := by decide +kernel
theorem dX4_copyFrom_66 : decode cX4_copyFrom 66 = .ok (.aload_n 0, 1) := by decide +kernel
theorem dX4_copyFrom_67 : decode cX4_copyFrom 67 = .ok (.getfield 28, 3) := by decide +kernel
theorem dX4_copyFrom_70 : decode cX4_copyFrom 70 = .ok (.iconst 0, 1) := by decide +kernel
theorem dX4_copyFrom_71 : decode cX4_copyFrom 71 = .ok (.bipush 8, 2) := by decide +kernel
theorem dX4_copyFrom_73 : decode cX4_copyFrom 73 = .ok (.invokestatic 83, 3) := by decide +kernel
theorem dX4_copyFrom_76 : decode cX4_copyFrom 76 = .ok (.aload_n 1, 1) := by decide +kernel
theorem dX4_copyFrom_77 : decode cX4_copyFrom 77 = .ok (.getfield 31, 3) := by decide +kernel
theorem dX4_copyFrom_80 : decode cX4_copyFrom 80 = .ok (.iconst 0, 1) := by decide +kernel
theorem dX4_copyFrom_81 : decode cX4_copyFrom 81 = .ok (.aload_n 0, 1) := by decide +kernel
theorem dX4_copyFrom_82 : decode cX4_copyFrom 82 = .ok (.getfield 31, 3) := by decide +kernel
theorem dX4_copyFrom_85 : decode cX4_copyFrom 85 = .ok (.iconst 0, 1) := by decide +kernel
theorem dX4_copyFrom_86 : decode cX4_copyFrom 86 = .ok (.bipush 12, 2) := by decide +kernel
theorem dX4_copyFrom_88 : decode cX4_copyFrom 88 = .ok (.invokestatic 83, 3) := by decide +kernel
theorem dX4_copyFrom_91 : decode cX4_copyFrom 91 = .ok (.aload_n 1, 1) := by decide +kernel
theorem dX4_copyFrom_92 : decode cX4_copyFrom 92 = .ok (.getfield 34, 3) := by decide +kernel
theorem dX4_copyFrom_95 : decode cX4_copyFrom 95 = .ok (.iconst 0, 1) := by decide +kernel
theorem dX4_copyFrom_96 : decode cX4_copyFrom 96 = .ok (.aload_n 0, 1) := by decide +kernel
theorem dX4_copyFrom_97 : decode cX4_copyFrom 97 = .ok (.getfield 34, 3) := by decide +kernel
theorem dX4_copyFrom_100 : decode cX4_copyFrom 100 = .ok (.iconst 0, 1) := by decide +kernel
theorem dX4_copyFrom_101 : decode cX4_copyFrom 101 = .ok (.bipush 12, 2) := by decide +kernel
theorem dX4_copyFrom_103 : decode cX4_copyFrom 103 = .ok (.invokestatic 83, 3) := by decide +kernel
theorem dX4_copyFrom_106 : decode cX4_copyFrom 106 = .ok (.return_, 1) := by decide +kernel
theorem dX4_allThings_0 : decode cX4_allThings 0 = .ok (.iconst 1, 1) := by decide +kernel
theorem dX4_allThings_1 : decode cX4_allThings 1 = .ok (.aload_n 0, 1) := by decide +kernel
theorem dX4_allThings_2 : decode cX4_allThings 2 = .ok (.getfield 15, 3) := by decide +kernel
theorem dX4_allThings_5 : decode cX4_allThings 5 = .ok (.ishl, 1) := by decide +kernel
theorem dX4_allThings_6 : decode cX4_allThings 6 = .ok (.iconst 1, 1) := by decide +kernel
theorem dX4_allThings_7 : decode cX4_allThings 7 = .ok (.isub, 1) := by decide +kernel
theorem dX4_allThings_8 : decode cX4_allThings 8 = .ok (.ireturn, 1) := by decide +kernel
theorem dX4_exchange_0 : decode cX4_exchange 0 = .ok (.aload_n 0, 1) := by decide +kernel
theorem dX4_exchange_1 : decode cX4_exchange 1 = .ok (.getfield 22, 3) := by decide +kernel
theorem dX4_exchange_4 : decode cX4_exchange 4 = .ok (.iload_n 1, 1) := by decide +kernel
theorem dX4_exchange_5 : decode cX4_exchange 5 = .ok (.iload_n 2, 1) := by decide +kernel
theorem dX4_exchange_6 : decode cX4_exchange 6 = .ok (.invokestatic 89, 3) := by decide +kernel
theorem dX4_exchange_9 : decode cX4_exchange 9 = .ok (.aload_n 0, 1) := by decide +kernel
theorem dX4_exchange_10 : decode cX4_exchange 10 = .ok (.getfield 25, 3) := by decide +kernel
theorem dX4_exchange_13 : decode cX4_exchange 13 = .ok (.iload_n 1, 1) := by decide +kernel
theorem dX4_exchange_14 : decode cX4_exchange 14 = .ok (.iload_n 2, 1) := by decide +kernel
theorem dX4_exchange_15 : decode cX4_exchange 15 = .ok (.invokestatic 89, 3) := by decide +kernel
theorem dX4_exchange_18 : decode cX4_exchange 18 = .ok (.aload_n 0, 1) := by decide +kernel
theorem dX4_exchange_19 : decode cX4_exchange 19 = .ok (.getfield 28, 3) := by decide +kernel
theorem dX4_exchange_22 : decode cX4_exchange 22 = .ok (.iload_n 1, 1) := by decide +kernel
theorem dX4_exchange_23 : decode cX4_exchange 23 = .ok (.iload_n 2, 1) := by decide +kernel
theorem dX4_exchange_24 : decode cX4_exchange 24 = .ok (.invokestatic 89, 3) := by decide +kernel
theorem dX4_exchange_27 : decode cX4_exchange 27 = .ok (.return_, 1) := by decide +kernel
theorem dX4_exchangeIn_0 : decode cX4_exchangeIn 0 = .ok (.aload_n 0, 1) := by decide +kernel
theorem dX4_exchangeIn_1 : decode cX4_exchangeIn 1 = .ok (.iload_n 1, 1) := by decide +kernel
theorem dX4_exchangeIn_2 : decode cX4_exchangeIn 2 = .ok (.iaload, 1) := by decide +kernel
theorem dX4_exchangeIn_3 : decode cX4_exchangeIn 3 = .ok (.istore_n 3, 1) := by decide +kernel
theorem dX4_exchangeIn_4 : decode cX4_exchangeIn 4 = .ok (.aload_n 0, 1) := by decide +kernel
theorem dX4_exchangeIn_5 : decode cX4_exchangeIn 5 = .ok (.iload_n 1, 1) := by decide +kernel
theorem dX4_exchangeIn_6 : decode cX4_exchangeIn 6 = .ok (.aload_n 0, 1) := by decide +kernel
theorem dX4_exchangeIn_7 : decode cX4_exchangeIn 7 = .ok (.iload_n 2, 1) := by decide +kernel
theorem dX4_exchangeIn_8 : decode cX4_exchangeIn 8 = .ok (.iaload, 1) := by decide +kernel
theorem dX4_exchangeIn_9 : decode cX4_exchangeIn 9 = .ok (.iastore, 1) := by decide +kernel
theorem dX4_exchangeIn_10 : decode cX4_exchangeIn 10 = .ok (.aload_n 0, 1) := by decide +kernel
theorem dX4_exchangeIn_11 : decode cX4_exchangeIn 11 = .ok (.iload_n 2, 1) := by decide +kernel
theorem dX4_exchangeIn_12 : decode cX4_exchangeIn 12 = .ok (.iload_n 3, 1) := by decide +kernel
theorem dX4_exchangeIn_13 : decode cX4_exchangeIn 13 = .ok (.iastore, 1) := by decide +kernel
theorem dX4_exchangeIn_14 : decode cX4_exchangeIn 14 = .ok (.return_, 1) := by decide +kernel
theorem dX5_init_0 : decode cX5_init 0 = .ok (.aload_n 0, 1) := by decide +kernel
theorem dX5_init_1 : decode cX5_init 1 = .ok (.invokespecial 3, 3) := by decide +kernel
theorem dX5_init_4 : decode cX5_init 4 = .ok (.aload_n 0, 1) := by decide +kernel
theorem dX5_init_5 : decode cX5_init 5 = .ok (.iconst 0, 1) := by decide +kernel
theorem dX5_init_6 : decode cX5_init 6 = .ok (.putfield 9, 3) := by decide +kernel
theorem dX5_init_9 : decode cX5_init 9 = .ok (.aload_n 0, 1) := by decide +kernel
theorem dX5_init_10 : decode cX5_init 10 = .ok (.iconst (-1), 1) := by decide +kernel
theorem dX5_init_11 : decode cX5_init 11 = .ok (.putfield 15, 3) := by decide +kernel
theorem dX5_init_14 : decode cX5_init 14 = .ok (.aload_n 0, 1) := by decide +kernel
theorem dX5_init_15 : decode cX5_init 15 = .ok (.bipush 60, 2) := by decide +kernel
theorem dX5_init_17 : decode cX5_init 17 = .ok (.newarray .int, 2) := by decide +kernel
theorem dX5_init_19 : decode cX5_init 19 = .ok (.putfield 18, 3) := by decide +kernel
theorem dX5_init_22 : decode cX5_init 22 = .ok (.return_, 1) := by decide +kernel
theorem dX5_isLost_0 : decode cX5_isLost 0 = .ok (.aload_n 0, 1) := by decide +kernel
theorem dX5_isLost_1 : decode cX5_isLost 1 = .ok (.getfield 15, 3) := by decide +kernel
theorem dX5_isLost_4 : decode cX5_isLost 4 = .ok (.ifCond .ge 7, 3) := by decide +kernel
theorem dX5_isLost_7 : decode cX5_isLost 7 = .ok (.iconst 1, 1) := by decide +kernel
theorem dX5_isLost_8 : decode cX5_isLost 8 = .ok (.goto 4, 3) := by decide +kernel
theorem dX5_isLost_11 : decode cX5_isLost 11 = .ok (.iconst 0, 1) := by decide +kernel
theorem dX5_isLost_12 : decode cX5_isLost 12 = .ok (.ireturn, 1) := by decide +kernel
theorem dX5_lay_0 : decode cX5_lay 0 = .ok (.aload_n 0, 1) := by decide +kernel
theorem dX5_lay_1 : decode cX5_lay 1 = .ok (.iload_n 1, 1) := by decide +kernel
theorem dX5_lay_2 : decode cX5_lay 2 = .ok (.putfield 9, 3) := by decide +kernel
theorem dX5_lay_5 : decode cX5_lay 5 = .ok (.aload_n 0, 1) := by decide +kernel
theorem dX5_lay_6 : decode cX5_lay 6 = .ok (.iload_n 2, 1) := by decide +kernel
theorem dX5_lay_7 : decode cX5_lay 7 = .ok (.putfield 15, 3) := by decide +kernel
theorem dX5_lay_10 : decode cX5_lay 10 = .ok (.aload_n 0, 1) := by decide +kernel
theorem dX5_lay_11 : decode cX5_lay 11 = .ok (.getfield 18, 3) := by decide +kernel
theorem dX5_lay_14 : decode cX5_lay 14 = .ok (.iconst 0, 1) := by decide +kernel
theorem dX5_lay_15 : decode cX5_lay 15 = .ok (.invokestatic 22, 3) := by decide +kernel
theorem dX5_lay_18 : decode cX5_lay 18 = .ok (.return_, 1) := by decide +kernel
theorem dX5_findingAt_0 : decode cX5_findingAt 0 = .ok (.aload_n 0, 1) := by decide +kernel
theorem dX5_findingAt_1 : decode cX5_findingAt 1 = .ok (.invokevirtual 28, 3) := by decide +kernel
theorem dX5_findingAt_4 : decode cX5_findingAt 4 = .ok (.ifCond .eq 5, 3) := by decide +kernel
theorem dX5_findingAt_7 : decode cX5_findingAt 7 = .ok (.iconst 1, 1) := by decide +kernel
theorem dX5_findingAt_8 : decode cX5_findingAt 8 = .ok (.ireturn, 1) := by decide +kernel
theorem dX5_findingAt_9 : decode cX5_findingAt 9 = .ok (.aload_n 0, 1) := by decide +kernel
theorem dX5_findingAt_10 : decode cX5_findingAt 10 = .ok (.getfield 9, 3) := by decide +kernel
theorem dX5_findingAt_13 : decode cX5_findingAt 13 = .ok (.iload_n 1, 1) := by decide +kernel
theorem dX5_findingAt_14 : decode cX5_findingAt 14 = .ok (.if_icmp .eq 5, 3) := by decide +kernel
theorem dX5_findingAt_17 : decode cX5_findingAt 17 = .ok (.iconst 3, 1) := by decide +kernel
theorem dX5_findingAt_18 : decode cX5_findingAt 18 = .ok (.ireturn, 1) := by decide +kernel
theorem dX5_findingAt_19 : decode cX5_findingAt 19 = .ok (.iload_n 2, 1) := by decide +kernel
theorem dX5_findingAt_20 : decode cX5_findingAt 20 = .ok (.aload_n 0, 1) := by decide +kernel
theorem dX5_findingAt_21 : decode cX5_findingAt 21 = .ok (.getfield 15, 3) := by decide +kernel
theorem dX5_findingAt_24 : decode cX5_findingAt 24 = .ok (.invokestatic 32, 3) := by decide +kernel
theorem dX5_findingAt_27 : decode cX5_findingAt 27 = .ok (.ifCond .eq 7, 3) := by decide +kernel
theorem dX5_findingAt_30 : decode cX5_findingAt 30 = .ok (.iconst 0, 1) := by decide +kernel
theorem dX5_findingAt_31 : decode cX5_findingAt 31 = .ok (.goto 4, 3) := by decide +kernel
theorem dX5_findingAt_34 : decode cX5_findingAt 34 = .ok (.iconst 2, 1) := by decide +kernel
theorem dX5_findingAt_35 : decode cX5_findingAt 35 = .ok (.ireturn, 1) := by decide +kernel
theorem dX5_hasStretch_0 : decode cX5_hasStretch 0 = .ok (.iload_n 1, 1) := by decide +kernel
theorem dX5_hasStretch_1 : decode cX5_hasStretch 1 = .ok (.ifCond .lt 29, 3) := by decide +kernel
theorem dX5_hasStretch_4 : decode cX5_hasStretch 4 = .ok (.iload_n 2, 1) := by decide +kernel
theorem dX5_hasStretch_5 : decode cX5_hasStretch 5 = .ok (.ifCond .lt 25, 3) := by decide +kernel
theorem dX5_hasStretch_8 : decode cX5_hasStretch 8 = .ok (.iload_n 1, 1) := by decide +kernel
theorem dX5_hasStretch_9 : decode cX5_hasStretch 9 = .ok (.aload_n 0, 1) := by decide +kernel
theorem dX5_hasStretch_10 : decode cX5_hasStretch 10 = .ok (.getfield 15, 3) := by decide +kernel
theorem dX5_hasStretch_13 : decode cX5_hasStretch 13 = .ok (.if_icmp .gt 17, 3) := by decide +kernel
theorem dX5_hasStretch_16 : decode cX5_hasStretch 16 = .ok (.iload_n 2, 1) := by decide +kernel
theorem dX5_hasStretch_17 : decode cX5_hasStretch 17 = .ok (.aload_n 0, 1) := by decide +kernel
theorem dX5_hasStretch_18 : decode cX5_hasStretch 18 = .ok (.getfield 15, 3) := by decide +kernel
theorem dX5_hasStretch_21 : decode cX5_hasStretch 21 = .ok (.iload_n 1, 1) := by decide +kernel
theorem dX5_hasStretch_22 : decode cX5_hasStretch 22 = .ok (.isub, 1) := by decide +kernel
theorem dX5_hasStretch_23 : decode cX5_hasStretch 23 = .ok (.if_icmp .gt 7, 3) := by decide +kernel
theorem dX5_hasStretch_26 : decode cX5_hasStretch 26 = .ok (.iconst 1, 1) := by decide +kernel
theorem dX5_hasStretch_27 : decode cX5_hasStretch 27 = .ok (.goto 4, 3) := by decide +kernel
theorem dX5_hasStretch_30 : decode cX5_hasStretch 30 = .ok (.iconst 0, 1) := by decide +kernel
theorem dX5_hasStretch_31 : decode cX5_hasStretch 31 = .ok (.ireturn, 1) := by decide +kernel
theorem dX5_lowestBits_0 : decode cX5_lowestBits 0 = .ok (.aload_n 0, 1) := by decide +kernel
theorem dX5_lowestBits_1 : decode cX5_lowestBits 1 = .ok (.getfield 9, 3) := by decide +kernel
theorem dX5_lowestBits_4 : decode cX5_lowestBits 4 = .ok (.ifCond .ne 6, 3) := by decide +kernel
theorem dX5_lowestBits_7 : decode cX5_lowestBits 7 = .ok (.iload_n 1, 1) := by decide +kernel
theorem dX5_lowestBits_8 : decode cX5_lowestBits 8 = .ok (.i2b, 1) := by decide +kernel
theorem dX5_lowestBits_9 : decode cX5_lowestBits 9 = .ok (.ireturn, 1) := by decide +kernel
theorem dX5_lowestBits_10 : decode cX5_lowestBits 10 = .ok (.aload_n 0, 1) := by decide +kernel
theorem dX5_lowestBits_11 : decode cX5_lowestBits 11 = .ok (.getfield 9, 3) := by decide +kernel
theorem dX5_lowestBits_14 : decode cX5_lowestBits 14 = .ok (.iconst 1, 1) := by decide +kernel
theorem dX5_lowestBits_15 : decode cX5_lowestBits 15 = .ok (.if_icmp .ne 8, 3) := by decide +kernel
theorem dX5_lowestBits_18 : decode cX5_lowestBits 18 = .ok (.iload_n 1, 1) := by decide +kernel
theorem dX5_lowestBits_19 : decode cX5_lowestBits 19 = .ok (.i2s, 1) := by decide +kernel
theorem dX5_lowestBits_20 : decode cX5_lowestBits 20 = .ok (.goto 4, 3) := by decide +kernel
theorem dX5_lowestBits_23 : decode cX5_lowestBits 23 = .ok (.iload_n 1, 1) := by decide +kernel
theorem dX5_lowestBits_24 : decode cX5_lowestBits 24 = .ok (.ireturn, 1) := by decide +kernel
theorem dX6_init_0 : decode cX6_init 0 = .ok (.aload_n 0, 1) := by decide +kernel
theorem dX6_init_1 : decode cX6_init 1 = .ok (.invokespecial 3, 3) := by decide +kernel
theorem dX6_init_4 : decode cX6_init 4 = .ok (.aload_n 0, 1) := by decide +kernel
theorem dX6_init_5 : decode cX6_init 5 = .ok (.bipush 31, 2) := by decide +kernel
theorem dX6_init_7 : decode cX6_init 7 = .ok (.newarray .int, 2) := by decide +kernel
theorem dX6_init_9 : decode cX6_init 9 = .ok (.putfield 9, 3) := by decide +kernel
theorem dX6_init_12 : decode cX6_init 12 = .ok (.aload_n 0, 1) := by decide +kernel
theorem dX6_init_13 : decode cX6_init 13 = .ok (.iconst 0, 1) := by decide +kernel
theorem dX6_init_14 : decode cX6_init 14 = .ok (.putfield 15, 3) := by decide +kernel
theorem dX6_init_17 : decode cX6_init 17 = .ok (.aload_n 0, 1) := by decide +kernel
theorem dX6_init_18 : decode cX6_init 18 = .ok (.iload_n 1, 1) := by decide +kernel
theorem dX6_init_19 : decode cX6_init 19 = .ok (.bipush 31, 2) := by decide +kernel
theorem dX6_init_21 : decode cX6_init 21 = .ok (.invokestatic 19, 3) := by decide +kernel
theorem dX6_init_24 : decode cX6_init 24 = .ok (.putfield 25, 3) := by decide +kernel
theorem dX6_init_27 : decode cX6_init 27 = .ok (.return_, 1) := by decide +kernel
theorem dX6_faultOfHooks_0 : decode cX6_faultOfHooks 0 = .ok (.iconst 0, 1) := by decide +kernel
theorem dX6_faultOfHooks_1 : decode cX6_faultOfHooks 1 = .ok (.istore_n 1, 1) := by decide +kernel
theorem dX6_faultOfHooks_2 : decode cX6_faultOfHooks 2 = .ok (.iload_n 1, 1) := by decide +kernel
theorem dX6_faultOfHooks_3 : decode cX6_faultOfHooks 3 = .ok (.aload_n 0, 1) := by decide +kernel
theorem dX6_faultOfHooks_4 : decode cX6_faultOfHooks 4 = .ok (.getfield 15, 3) := by decide +kernel
theorem dX6_faultOfHooks_7 : decode cX6_faultOfHooks 7 = .ok (.if_icmp .ge 24, 3) := by decide +kernel
theorem dX6_faultOfHooks_10 : decode cX6_faultOfHooks 10 = .ok (.aload_n 0, 1) := by decide +kernel
theorem dX6_faultOfHooks_11 : decode cX6_faultOfHooks 11 = .ok (.getfield 9, 3) := by decide +kernel
theorem dX6_faultOfHooks_14 : decode cX6_faultOfHooks 14 = .ok (.iload_n 1, 1) := by decide +kernel
theorem dX6_faultOfHooks_15 : decode cX6_faultOfHooks 15 = .ok (.iaload, 1) := by decide +kernel
theorem dX6_faultOfHooks_16 : decode cX6_faultOfHooks 16 = .ok (.invokestatic 28, 3) := by decide +kernel
theorem dX6_faultOfHooks_19 : decode cX6_faultOfHooks 19 = .ok (.iconst (-1), 1) := by decide +kernel
theorem dX6_faultOfHooks_20 : decode cX6_faultOfHooks 20 = .ok (.if_icmp .ne 5, 3) := by decide +kernel
theorem dX6_faultOfHooks_23 : decode cX6_faultOfHooks 23 = .ok (.iload_n 1, 1) := by decide +kernel
theorem dX6_faultOfHooks_24 : decode cX6_faultOfHooks 24 = .ok (.ireturn, 1) := by decide +kernel
theorem dX6_faultOfHooks_25 : decode cX6_faultOfHooks 25 = .ok (.iinc 1 1, 3) := by decide +kernel
theorem dX6_faultOfHooks_28 : decode cX6_faultOfHooks 28 = .ok (.goto (-26), 3) := by decide +kernel
theorem dX6_faultOfHooks_31 : decode cX6_faultOfHooks 31 = .ok (.iconst (-1), 1) := by decide +kernel
theorem dX6_faultOfHooks_32 : decode cX6_faultOfHooks 32 = .ok (.ireturn, 1) := by decide +kernel
theorem dX6_faultOfThings_0 : decode cX6_faultOfThings 0 = .ok (.iconst 0, 1) := by decide +kernel
theorem dX6_faultOfThings_1 : decode cX6_faultOfThings 1 = .ok (.istore_n 1, 1) := by decide +kernel
theorem dX6_faultOfThings_2 : decode cX6_faultOfThings 2 = .ok (.iload_n 1, 1) := by decide +kernel
theorem dX6_faultOfThings_3 : decode cX6_faultOfThings 3 = .ok (.aload_n 0, 1) := by decide +kernel
theorem dX6_faultOfThings_4 : decode cX6_faultOfThings 4 = .ok (.getfield 15, 3) := by decide +kernel
theorem dX6_faultOfThings_7 : decode cX6_faultOfThings 7 = .ok (.if_icmp .ge 24, 3) := by decide +kernel
theorem dX6_faultOfThings_10 : decode cX6_faultOfThings 10 = .ok (.iload_n 1, 1) := by decide +kernel
theorem dX6_faultOfThings_11 : decode cX6_faultOfThings 11 = .ok (.aload_n 0, 1) := by decide +kernel
theorem dX6_faultOfThings_12 : decode cX6_faultOfThings 12 = .ok (.getfield 9, 3) := by decide +kernel
theorem dX6_faultOfThings_15 : decode cX6_faultOfThings 15 = .ok (.iload_n 1, 1) := by decide +kernel
theorem dX6_faultOfThings_16 : decode cX6_faultOfThings 16 = .ok (.iaload, 1) := by decide +kernel
theorem dX6_faultOfThings_17 : decode cX6_faultOfThings 17 = .ok (.invokestatic 32, 3) := by decide +kernel
theorem dX6_faultOfThings_20 : decode cX6_faultOfThings 20 = .ok (.ifCond .ne 5, 3) := by decide +kernel
theorem dX6_faultOfThings_23 : decode cX6_faultOfThings 23 = .ok (.iload_n 1, 1) := by decide +kernel
theorem dX6_faultOfThings_24 : decode cX6_faultOfThings 24 = .ok (.ireturn, 1) := by decide +kernel
theorem dX6_faultOfThings_25 : decode cX6_faultOfThings 25 = .ok (.iinc 1 1, 3) := by decide +kernel
theorem dX6_faultOfThings_28 : decode cX6_faultOfThings 28 = .ok (.goto (-26), 3) := by decide +kernel
theorem dX6_faultOfThings_31 : decode cX6_faultOfThings 31 = .ok (.aload_n 0, 1) := by decide +kernel
theorem dX6_faultOfThings_32 : decode cX6_faultOfThings 32 = .ok (.getfield 15, 3) := by decide +kernel
theorem dX6_faultOfThings_35 : decode cX6_faultOfThings 35 = .ok (.ifCond .eq 13, 3) := by decide +kernel
theorem dX6_faultOfThings_38 : decode cX6_faultOfThings 38 = .ok (.aload_n 0, 1) := by decide +kernel
theorem dX6_faultOfThings_39 : decode cX6_faultOfThings 39 = .ok (.getfield 15, 3) := by decide +kernel
theorem dX6_faultOfThings_42 : decode cX6_faultOfThings 42 = .ok (.iconst 4, 1) := by decide +kernel
theorem dX6_faultOfThings_43 : decode cX6_faultOfThings 43 = .ok (.irem, 1) := by decide +kernel
theorem dX6_faultOfThings_44 : decode cX6_faultOfThings 44 = .ok (.iconst 3, 1) := by decide +kernel
theorem dX6_faultOfThings_45 : decode cX6_faultOfThings 45 = .ok (.if_icmp .ne 7, 3) := by decide +kernel
theorem dX6_faultOfThings_48 : decode cX6_faultOfThings 48 = .ok (.iconst (-1), 1) := by decide +kernel
theorem dX6_faultOfThings_49 : decode cX6_faultOfThings 49 = .ok (.goto 7, 3) := by decide +kernel
theorem dX6_faultOfThings_52 : decode cX6_faultOfThings 52 = .ok (.aload_n 0, 1) := by decide +kernel
theorem dX6_faultOfThings_53 : decode cX6_faultOfThings 53 = .ok (.getfield 15, 3) := by decide +kernel
theorem dX6_faultOfThings_56 : decode cX6_faultOfThings 56 = .ok (.ireturn, 1) := by decide +kernel
theorem dX6_mayStand_0 : decode cX6_mayStand 0 = .ok (.iload_n 0, 1) := by decide +kernel
theorem dX6_mayStand_1 : decode cX6_mayStand 1 = .ok (.iconst 4, 1) := by decide +kernel
theorem dX6_mayStand_2 : decode cX6_mayStand 2 = .ok (.irem, 1) := by decide +kernel
theorem dX6_mayStand_3 : decode cX6_mayStand 3 = .ok (.tableswitch 75 0 2 #[25, 39, 57], 25) := by decide +kernel
theorem dX6_mayStand_28 : decode cX6_mayStand 28 = .ok (.iload_n 1, 1) := by decide +kernel
theorem dX6_mayStand_29 : decode cX6_mayStand 29 = .ok (.invokestatic 36, 3) := by decide +kernel
theorem dX6_mayStand_32 : decode cX6_mayStand 32 = .ok (.iconst (-1), 1) := by decide +kernel
theorem dX6_mayStand_33 : decode cX6_mayStand 33 = .ok (.if_icmp .eq 7, 3) := by decide +kernel
theorem dX6_mayStand_36 : decode cX6_mayStand 36 = .ok (.iconst 1, 1) := by decide +kernel
theorem dX6_mayStand_37 : decode cX6_mayStand 37 = .ok (.goto 4, 3) := by decide +kernel
theorem dX6_mayStand_40 : decode cX6_mayStand 40 = .ok (.iconst 0, 1) := by decide +kernel
theorem dX6_mayStand_41 : decode cX6_mayStand 41 = .ok (.ireturn, 1) := by decide +kernel
theorem dX6_mayStand_42 : decode cX6_mayStand 42 = .ok (.iload_n 1, 1) := by decide +kernel
theorem dX6_mayStand_43 : decode cX6_mayStand 43 = .ok (.bipush 49, 2) := by decide +kernel
theorem dX6_mayStand_45 : decode cX6_mayStand 45 = .ok (.if_icmp .lt 13, 3) := by decide +kernel
theorem dX6_mayStand_48 : decode cX6_mayStand 48 = .ok (.iload_n 1, 1) := by decide +kernel
theorem dX6_mayStand_49 : decode cX6_mayStand 49 = .ok (.bipush 57, 2) := by decide +kernel
theorem dX6_mayStand_51 : decode cX6_mayStand 51 = .ok (.if_icmp .gt 7, 3) := by decide +kernel
theorem dX6_mayStand_54 : decode cX6_mayStand 54 = .ok (.iconst 1, 1) := by decide +kernel
theorem dX6_mayStand_55 : decode cX6_mayStand 55 = .ok (.goto 4, 3) := by decide +kernel
theorem dX6_mayStand_58 : decode cX6_mayStand 58 = .ok (.iconst 0, 1) := by decide +kernel
theorem dX6_mayStand_59 : decode cX6_mayStand 59 = .ok (.ireturn, 1) := by decide +kernel
theorem dX6_mayStand_60 : decode cX6_mayStand 60 = .ok (.iload_n 1, 1) := by decide +kernel
theorem dX6_mayStand_61 : decode cX6_mayStand 61 = .ok (.bipush 48, 2) := by decide +kernel
theorem dX6_mayStand_63 : decode cX6_mayStand 63 = .ok (.if_icmp .lt 13, 3) := by decide +kernel
theorem dX6_mayStand_66 : decode cX6_mayStand 66 = .ok (.iload_n 1, 1) := by decide +kernel
theorem dX6_mayStand_67 : decode cX6_mayStand 67 = .ok (.bipush 57, 2) := by decide +kernel
theorem dX6_mayStand_69 : decode cX6_mayStand 69 = .ok (.if_icmp .gt 7, 3) := by decide +kernel
theorem dX6_mayStand_72 : decode cX6_mayStand 72 = .ok (.iconst 1, 1) := by decide +kernel
theorem dX6_mayStand_73 : decode cX6_mayStand 73 = .ok (.goto 4, 3) := by decide +kernel
theorem dX6_mayStand_76 : decode cX6_mayStand 76 = .ok (.iconst 0, 1) := by decide +kernel
theorem dX6_mayStand_77 : decode cX6_mayStand 77 = .ok (.ireturn, 1) := by decide +kernel
theorem dX6_mayStand_78 : decode cX6_mayStand 78 = .ok (.iload_n 1, 1) := by decide +kernel
theorem dX6_mayStand_79 : decode cX6_mayStand 79 = .ok (.bipush 59, 2) := by decide +kernel
theorem dX6_mayStand_81 : decode cX6_mayStand 81 = .ok (.if_icmp .ne 7, 3) := by decide +kernel
theorem dX6_mayStand_84 : decode cX6_mayStand 84 = .ok (.iconst 1, 1) := by decide +kernel
theorem dX6_mayStand_85 : decode cX6_mayStand 85 = .ok (.goto 4, 3) := by decide +kernel
theorem dX6_mayStand_88 : decode cX6_mayStand 88 = .ok (.iconst 0, 1) := by decide +kernel
theorem dX6_mayStand_89 : decode cX6_mayStand 89 = .ok (.ireturn, 1) := by decide +kernel
theorem dX6_minutesOf_0 : decode cX6_minutesOf 0 = .ok (.iload_n 0, 1) := by decide +kernel
theorem dX6_minutesOf_1 : decode cX6_minutesOf 1 = .ok (.lookupswitch 41 #[(103, 35), (104, 37), (115, 39)], 35) := by decide +kernel
theorem dX6_minutesOf_36 : decode cX6_minutesOf 36 = .ok (.iconst 0, 1) := by decide +kernel
theorem dX6_minutesOf_37 : decode cX6_minutesOf 37 = .ok (.ireturn, 1) := by decide +kernel
theorem dX6_minutesOf_38 : decode cX6_minutesOf 38 = .ok (.iconst 1, 1) := by decide +kernel
theorem dX6_minutesOf_39 : decode cX6_minutesOf 39 = .ok (.ireturn, 1) := by decide +kernel
theorem dX6_minutesOf_40 : decode cX6_minutesOf 40 = .ok (.iconst 2, 1) := by decide +kernel
theorem dX6_minutesOf_41 : decode cX6_minutesOf 41 = .ok (.ireturn, 1) := by decide +kernel
theorem dX6_minutesOf_42 : decode cX6_minutesOf 42 = .ok (.iconst (-1), 1) := by decide +kernel
theorem dX6_minutesOf_43 : decode cX6_minutesOf 43 = .ok (.ireturn, 1) := by decide +kernel
theorem dX6_sortOf_0 : decode cX6_sortOf 0 = .ok (.iload_n 0, 1) := by decide +kernel
theorem dX6_sortOf_1 : decode cX6_sortOf 1 = .ok (.lookupswitch 41 #[(109, 35), (113, 39), (119, 37)], 35) := by decide +kernel
theorem dX6_sortOf_36 : decode cX6_sortOf 36 = .ok (.iconst 0, 1) := by decide +kernel
theorem dX6_sortOf_37 : decode cX6_sortOf 37 = .ok (.ireturn, 1) := by decide +kernel
theorem dX6_sortOf_38 : decode cX6_sortOf 38 = .ok (.iconst 1, 1) := by decide +kernel
theorem dX6_sortOf_39 : decode cX6_sortOf 39 = .ok (.ireturn, 1) := by decide +kernel
theorem dX6_sortOf_40 : decode cX6_sortOf 40 = .ok (.iconst 2, 1) := by decide +kernel
theorem dX6_sortOf_41 : decode cX6_sortOf 41 = .ok (.ireturn, 1) := by decide +kernel
theorem dX6_sortOf_42 : decode cX6_sortOf 42 = .ok (.iconst (-1), 1) := by decide +kernel
theorem dX6_sortOf_43 : decode cX6_sortOf 43 = .ok (.ireturn, 1) := by decide +kernel
theorem dX7_init_0 : decode cX7_init 0 = .ok (.aload_n 0, 1) := by decide +kernel
theorem dX7_init_1 : decode cX7_init 1 = .ok (.invokespecial 3, 3) := by decide +kernel
theorem dX7_init_4 : decode cX7_init 4 = .ok (.aload_n 0, 1) := by decide +kernel
theorem dX7_init_5 : decode cX7_init 5 = .ok (.bipush 8, 2) := by decide +kernel
theorem dX7_init_7 : decode cX7_init 7 = .ok (.newarray .int, 2) := by decide +kernel
theorem dX7_init_9 : decode cX7_init 9 = .ok (.putfield 9, 3) := by decide +kernel
theorem dX7_init_12 : decode cX7_init 12 = .ok (.aload_n 0, 1) := by decide +kernel
theorem dX7_init_13 : decode cX7_init 13 = .ok (.bipush 8, 2) := by decide +kernel
theorem dX7_init_15 : decode cX7_init 15 = .ok (.newarray .int, 2) := by decide +kernel
theorem dX7_init_17 : decode cX7_init 17 = .ok (.putfield 15, 3) := by decide +kernel
theorem dX7_init_20 : decode cX7_init 20 = .ok (.aload_n 0, 1) := by decide +kernel
theorem dX7_init_21 : decode cX7_init 21 = .ok (.bipush 8, 2) := by decide +kernel
theorem dX7_init_23 : decode cX7_init 23 = .ok (.newarray .int, 2) := by decide +kernel
theorem dX7_init_25 : decode cX7_init 25 = .ok (.putfield 18, 3) := by decide +kernel
theorem dX7_init_28 : decode cX7_init 28 = .ok (.aload_n 0, 1) := by decide +kernel
theorem dX7_init_29 : decode cX7_init 29 = .ok (.iconst 0, 1) := by decide +kernel
theorem dX7_init_30 : decode cX7_init 30 = .ok (.putfield 21, 3) := by decide +kernel
theorem dX7_init_33 : decode cX7_init 33 = .ok (.return_, 1) := by decide +kernel
theorem dX7_isFull_0 : decode cX7_isFull 0 = .ok (.aload_n 0, 1) := by decide +kernel
theorem dX7_isFull_1 : decode cX7_isFull 1 = .ok (.getfield 21, 3) := by decide +kernel
theorem dX7_isFull_4 : decode cX7_isFull 4 = .ok (.bipush 8, 2) := by decide +kernel
theorem dX7_isFull_6 : decode cX7_isFull 6 = .ok (.if_icmp .lt 7, 3) := by decide +kernel
theorem dX7_isFull_9 : decode cX7_isFull 9 = .ok (.iconst 1, 1) := by decide +kernel
theorem dX7_isFull_10 : decode cX7_isFull 10 = .ok (.goto 4, 3) := by decide +kernel
theorem dX7_isFull_13 : decode cX7_isFull 13 = .ok (.iconst 0, 1) := by decide +kernel
theorem dX7_isFull_14 : decode cX7_isFull 14 = .ok (.ireturn, 1) := by decide +kernel
theorem dX7_append_0 : decode cX7_append 0 = .ok (.aload_n 0, 1) := by decide +kernel
theorem dX7_append_1 : decode cX7_append 1 = .ok (.invokevirtual 25, 3) := by decide +kernel
theorem dX7_append_4 : decode cX7_append 4 = .ok (.ifCond .eq 4, 3) := by decide +kernel
theorem dX7_append_7 : decode cX7_append 7 = .ok (.return_, 1) := by decide +kernel
theorem dX7_append_8 : decode cX7_append 8 = .ok (.aload_n 0, 1) := by decide +kernel
theorem dX7_append_9 : decode cX7_append 9 = .ok (.getfield 9, 3) := by decide +kernel
theorem dX7_append_12 : decode cX7_append 12 = .ok (.aload_n 0, 1) := by decide +kernel
theorem dX7_append_13 : decode cX7_append 13 = .ok (.getfield 21, 3) := by decide +kernel
theorem dX7_append_16 : decode cX7_append 16 = .ok (.iload_n 1, 1) := by decide +kernel
theorem dX7_append_17 : decode cX7_append 17 = .ok (.iastore, 1) := by decide +kernel
theorem dX7_append_18 : decode cX7_append 18 = .ok (.aload_n 0, 1) := by decide +kernel
theorem dX7_append_19 : decode cX7_append 19 = .ok (.getfield 15, 3) := by decide +kernel
theorem dX7_append_22 : decode cX7_append 22 = .ok (.aload_n 0, 1) := by decide +kernel
theorem dX7_append_23 : decode cX7_append 23 = .ok (.getfield 21, 3) := by decide +kernel
theorem dX7_append_26 : decode cX7_append 26 = .ok (.iload_n 2, 1) := by decide +kernel
theorem dX7_append_27 : decode cX7_append 27 = .ok (.iastore, 1) := by decide +kernel
theorem dX7_append_28 : decode cX7_append 28 = .ok (.aload_n 0, 1) := by decide +kernel
theorem dX7_append_29 : decode cX7_append 29 = .ok (.getfield 18, 3) := by decide +kernel
theorem dX7_append_32 : decode cX7_append 32 = .ok (.aload_n 0, 1) := by decide +kernel
theorem dX7_append_33 : decode cX7_append 33 = .ok (.getfield 21, 3) := by decide +kernel
theorem dX7_append_36 : decode cX7_append 36 = .ok (.iload_n 3, 1) := by decide +kernel
theorem dX7_append_37 : decode cX7_append 37 = .ok (.iastore, 1) := by decide +kernel
theorem dX7_append_38 : decode cX7_append 38 = .ok (.aload_n 0, 1) := by decide +kernel
theorem dX7_append_39 : decode cX7_append 39 = .ok (.dup, 1) := by decide +kernel
theorem dX7_append_40 : decode cX7_append 40 = .ok (.getfield 21, 3) := by decide +kernel
theorem dX7_append_43 : decode cX7_append 43 = .ok (.iconst 1, 1) := by decide +kernel
theorem dX7_append_44 : decode cX7_append 44 = .ok (.iadd, 1) := by decide +kernel
theorem dX7_append_45 : decode cX7_append 45 = .ok (.putfield 21, 3) := by decide +kernel
theorem dX7_append_48 : decode cX7_append 48 = .ok (.return_, 1) := by decide +kernel
theorem dJ_fill_0 : decode cJ_fill 0 = .ok (.iconst 0, 1) := by decide +kernel
theorem dJ_fill_1 : decode cJ_fill 1 = .ok (.istore_n 2, 1) := by decide +kernel
theorem dJ_fill_2 : decode cJ_fill 2 = .ok (.aload_n 0, 1) := by decide +kernel
theorem dJ_fill_3 : decode cJ_fill 3 = .ok (.arraylength, 1) := by decide +kernel
theorem dJ_fill_4 : decode cJ_fill 4 = .ok (.istore_n 3, 1) := by decide +kernel
theorem dJ_fill_5 : decode cJ_fill 5 = .ok (.iload_n 2, 1) := by decide +kernel
theorem dJ_fill_6 : decode cJ_fill 6 = .ok (.iload_n 3, 1) := by decide +kernel
theorem dJ_fill_7 : decode cJ_fill 7 = .ok (.if_icmp .ge 13, 3) := by decide +kernel
theorem dJ_fill_10 : decode cJ_fill 10 = .ok (.aload_n 0, 1) := by decide +kernel
theorem dJ_fill_11 : decode cJ_fill 11 = .ok (.iload_n 2, 1) := by decide +kernel
theorem dJ_fill_12 : decode cJ_fill 12 = .ok (.iload_n 1, 1) := by decide +kernel
theorem dJ_fill_13 : decode cJ_fill 13 = .ok (.iastore, 1) := by decide +kernel
theorem dJ_fill_14 : decode cJ_fill 14 = .ok (.iinc 2 1, 3) := by decide +kernel
theorem dJ_fill_17 : decode cJ_fill 17 = .ok (.goto (-12), 3) := by decide +kernel
theorem dJ_fill_20 : decode cJ_fill 20 = .ok (.return_, 1) := by decide +kernel
end
section
theorem dX8_init_0 : decode cX8_init 0 = .ok (.aload_n 0, 1) := by decide +kernel
theorem dX8_init_1 : decode cX8_init 1 = .ok (.invokespecial 3, 3) := by decide +kernel
theorem dX8_init_4 : decode cX8_init 4 = .ok (.aload_n 0, 1) := by decide +kernel
theorem dX8_init_5 : decode cX8_init 5 = .ok (.new 9, 3) := by decide +kernel
theorem dX8_init_8 : decode cX8_init 8 = .ok (.dup, 1) := by decide +kernel
theorem dX8_init_9 : decode cX8_init 9 = .ok (.bipush 12, 2) := by decide +kernel
theorem dX8_init_11 : decode cX8_init 11 = .ok (.invokespecial 11, 3) := by decide +kernel
theorem dX8_init_14 : decode cX8_init 14 = .ok (.putfield 14, 3) := by decide +kernel
theorem dX8_init_17 : decode cX8_init 17 = .ok (.aload_n 0, 1) := by decide +kernel
theorem dX8_init_18 : decode cX8_init 18 = .ok (.new 9, 3) := by decide +kernel
theorem dX8_init_21 : decode cX8_init 21 = .ok (.dup, 1) := by decide +kernel
theorem dX8_init_22 : decode cX8_init 22 = .ok (.bipush 31, 2) := by decide +kernel
theorem dX8_init_24 : decode cX8_init 24 = .ok (.invokespecial 11, 3) := by decide +kernel
theorem dX8_init_27 : decode cX8_init 27 = .ok (.putfield 18, 3) := by decide +kernel
theorem dX8_init_30 : decode cX8_init 30 = .ok (.aload_n 0, 1) := by decide +kernel
theorem dX8_init_31 : decode cX8_init 31 = .ok (.new 21, 3) := by decide +kernel
theorem dX8_init_34 : decode cX8_init 34 = .ok (.dup, 1) := by decide +kernel
theorem dX8_init_35 : decode cX8_init 35 = .ok (.invokespecial 23, 3) := by decide +kernel
theorem dX8_init_38 : decode cX8_init 38 = .ok (.putfield 24, 3) := by decide +kernel
theorem dX8_init_41 : decode cX8_init 41 = .ok (.aload_n 0, 1) := by decide +kernel
theorem dX8_init_42 : decode cX8_init 42 = .ok (.new 21, 3) := by decide +kernel
theorem dX8_init_45 : decode cX8_init 45 = .ok (.dup, 1) := by decide +kernel
theorem dX8_init_46 : decode cX8_init 46 = .ok (.invokespecial 23, 3) := by decide +kernel
theorem dX8_init_49 : decode cX8_init 49 = .ok (.putfield 28, 3) := by decide +kernel
theorem dX8_init_52 : decode cX8_init 52 = .ok (.aload_n 0, 1) := by decide +kernel
theorem dX8_init_53 : decode cX8_init 53 = .ok (.iconst 4, 1) := by decide +kernel
theorem dX8_init_54 : decode cX8_init 54 = .ok (.anewarray 31, 3) := by decide +kernel
theorem dX8_init_57 : decode cX8_init 57 = .ok (.putfield 33, 3) := by decide +kernel
theorem dX8_init_60 : decode cX8_init 60 = .ok (.aload_n 0, 1) := by decide +kernel
theorem dX8_init_61 : decode cX8_init 61 = .ok (.new 37, 3) := by decide +kernel
theorem dX8_init_64 : decode cX8_init 64 = .ok (.dup, 1) := by decide +kernel
theorem dX8_init_65 : decode cX8_init 65 = .ok (.invokespecial 39, 3) := by decide +kernel
theorem dX8_init_68 : decode cX8_init 68 = .ok (.putfield 40, 3) := by decide +kernel
theorem dX8_init_71 : decode cX8_init 71 = .ok (.aload_n 0, 1) := by decide +kernel
theorem dX8_init_72 : decode cX8_init 72 = .ok (.new 37, 3) := by decide +kernel
theorem dX8_init_75 : decode cX8_init 75 = .ok (.dup, 1) := by decide +kernel
theorem dX8_init_76 : decode cX8_init 76 = .ok (.invokespecial 39, 3) := by decide +kernel
theorem dX8_init_79 : decode cX8_init 79 = .ok (.putfield 44, 3) := by decide +kernel
theorem dX8_init_82 : decode cX8_init 82 = .ok (.aload_n 0, 1) := by decide +kernel
theorem dX8_init_83 : decode cX8_init 83 = .ok (.new 47, 3) := by decide +kernel
theorem dX8_init_86 : decode cX8_init 86 = .ok (.dup, 1) := by decide +kernel
theorem dX8_init_87 : decode cX8_init 87 = .ok (.invokespecial 49, 3) := by decide +kernel
theorem dX8_init_90 : decode cX8_init 90 = .ok (.putfield 50, 3) := by decide +kernel
theorem dX8_init_93 : decode cX8_init 93 = .ok (.aload_n 0, 1) := by decide +kernel
theorem dX8_init_94 : decode cX8_init 94 = .ok (.new 47, 3) := by decide +kernel
theorem dX8_init_97 : decode cX8_init 97 = .ok (.dup, 1) := by decide +kernel
theorem dX8_init_98 : decode cX8_init 98 = .ok (.invokespecial 49, 3) := by decide +kernel
theorem dX8_init_101 : decode cX8_init 101 = .ok (.putfield 54, 3) := by decide +kernel
theorem dX8_init_104 : decode cX8_init 104 = .ok (.aload_n 0, 1) := by decide +kernel
theorem dX8_init_105 : decode cX8_init 105 = .ok (.new 57, 3) := by decide +kernel
theorem dX8_init_108 : decode cX8_init 108 = .ok (.dup, 1) := by decide +kernel
theorem dX8_init_109 : decode cX8_init 109 = .ok (.invokespecial 59, 3) := by decide +kernel
theorem dX8_init_112 : decode cX8_init 112 = .ok (.putfield 60, 3) := by decide +kernel
theorem dX8_init_115 : decode cX8_init 115 = .ok (.aload_n 0, 1) := by decide +kernel
theorem dX8_init_116 : decode cX8_init 116 = .ok (.new 64, 3) := by decide +kernel
theorem dX8_init_119 : decode cX8_init 119 = .ok (.dup, 1) := by decide +kernel
theorem dX8_init_120 : decode cX8_init 120 = .ok (.invokespecial 66, 3) := by decide +kernel
theorem dX8_init_123 : decode cX8_init 123 = .ok (.putfield 67, 3) := by decide +kernel
theorem dX8_init_126 : decode cX8_init 126 = .ok (.aload_n 0, 1) := by decide +kernel
theorem dX8_init_127 : decode cX8_init 127 = .ok (.new 71, 3) := by decide +kernel
theorem dX8_init_130 : decode cX8_init 130 = .ok (.dup, 1) := by decide +kernel
theorem dX8_init_131 : decode cX8_init 131 = .ok (.invokespecial 73, 3) := by decide +kernel
theorem dX8_init_134 : decode cX8_init 134 = .ok (.putfield 74, 3) := by decide +kernel
theorem dX8_init_137 : decode cX8_init 137 = .ok (.aload_n 0, 1) := by decide +kernel
theorem dX8_init_138 : decode cX8_init 138 = .ok (.sipush 256, 3) := by decide +kernel
theorem dX8_init_141 : decode cX8_init 141 = .ok (.newarray .int, 2) := by decide +kernel
theorem dX8_init_143 : decode cX8_init 143 = .ok (.putfield 78, 3) := by decide +kernel
theorem dX8_init_146 : decode cX8_init 146 = .ok (.aload_n 0, 1) := by decide +kernel
theorem dX8_init_147 : decode cX8_init 147 = .ok (.iconst 1, 1) := by decide +kernel
theorem dX8_init_148 : decode cX8_init 148 = .ok (.putfield 82, 3) := by decide +kernel
theorem dX8_init_151 : decode cX8_init 151 = .ok (.aload_n 0, 1) := by decide +kernel
theorem dX8_init_152 : decode cX8_init 152 = .ok (.iconst 1, 1) := by decide +kernel
theorem dX8_init_153 : decode cX8_init 153 = .ok (.putfield 86, 3) := by decide +kernel
theorem dX8_init_156 : decode cX8_init 156 = .ok (.aload_n 0, 1) := by decide +kernel
theorem dX8_init_157 : decode cX8_init 157 = .ok (.iconst 0, 1) := by decide +kernel
theorem dX8_init_158 : decode cX8_init 158 = .ok (.putfield 89, 3) := by decide +kernel
theorem dX8_init_161 : decode cX8_init 161 = .ok (.iconst 0, 1) := by decide +kernel
theorem dX8_init_162 : decode cX8_init 162 = .ok (.istore_n 1, 1) := by decide +kernel
theorem dX8_init_163 : decode cX8_init 163 = .ok (.iload_n 1, 1) := by decide +kernel
theorem dX8_init_164 : decode cX8_init 164 = .ok (.iconst 4, 1) := by decide +kernel
theorem dX8_init_165 : decode cX8_init 165 = .ok (.if_icmp .ge 22, 3) := by decide +kernel
theorem dX8_init_168 : decode cX8_init 168 = .ok (.aload_n 0, 1) := by decide +kernel
theorem dX8_init_169 : decode cX8_init 169 = .ok (.getfield 33, 3) := by decide +kernel
theorem dX8_init_172 : decode cX8_init 172 = .ok (.iload_n 1, 1) := by decide +kernel
theorem dX8_init_173 : decode cX8_init 173 = .ok (.new 31, 3) := by decide +kernel
theorem dX8_init_176 : decode cX8_init 176 = .ok (.dup, 1) := by decide +kernel
theorem dX8_init_177 : decode cX8_init 177 = .ok (.invokespecial 93, 3) := by decide +kernel
theorem dX8_init_180 : decode cX8_init 180 = .ok (.aastore, 1) := by decide +kernel
theorem dX8_init_181 : decode cX8_init 181 = .ok (.iinc 1 1, 3) := by decide +kernel
theorem dX8_init_184 : decode cX8_init 184 = .ok (.goto (-21), 3) := by decide +kernel
theorem dX8_init_187 : decode cX8_init 187 = .ok (.return_, 1) := by decide +kernel
theorem dX8_type_0 : decode cX8_type 0 = .ok (.iload_n 1, 1) := by decide +kernel
theorem dX8_type_1 : decode cX8_type 1 = .ok (.invokestatic 94, 3) := by decide +kernel
theorem dX8_type_4 : decode cX8_type 4 = .ok (.ifCond .eq 14, 3) := by decide +kernel
theorem dX8_type_7 : decode cX8_type 7 = .ok (.iload_n 2, 1) := by decide +kernel
theorem dX8_type_8 : decode cX8_type 8 = .ok (.ifCond .lt 10, 3) := by decide +kernel
theorem dX8_type_11 : decode cX8_type 11 = .ok (.iload_n 2, 1) := by decide +kernel
theorem dX8_type_12 : decode cX8_type 12 = .ok (.sipush 255, 3) := by decide +kernel
theorem dX8_type_15 : decode cX8_type 15 = .ok (.if_icmp .le 6, 3) := by decide +kernel
theorem dX8_type_18 : decode cX8_type 18 = .ok (.bipush (-2), 2) := by decide +kernel
theorem dX8_type_20 : decode cX8_type 20 = .ok (.ireturn, 1) := by decide +kernel
theorem dX8_type_21 : decode cX8_type 21 = .ok (.aload_n 0, 1) := by decide +kernel
theorem dX8_type_22 : decode cX8_type 22 = .ok (.iload_n 1, 1) := by decide +kernel
theorem dX8_type_23 : decode cX8_type 23 = .ok (.invokevirtual 98, 3) := by decide +kernel
theorem dX8_type_26 : decode cX8_type 26 = .ok (.astore_n 3, 1) := by decide +kernel
theorem dX8_type_27 : decode cX8_type 27 = .ok (.aload_n 3, 1) := by decide +kernel
theorem dX8_type_28 : decode cX8_type 28 = .ok (.getfield 102, 3) := by decide +kernel
theorem dX8_type_31 : decode cX8_type 31 = .ok (.aload_n 3, 1) := by decide +kernel
theorem dX8_type_32 : decode cX8_type 32 = .ok (.getfield 105, 3) := by decide +kernel
theorem dX8_type_35 : decode cX8_type 35 = .ok (.if_icmp .lt 6, 3) := by decide +kernel
theorem dX8_type_38 : decode cX8_type 38 = .ok (.bipush (-4), 2) := by decide +kernel
theorem dX8_type_40 : decode cX8_type 40 = .ok (.ireturn, 1) := by decide +kernel
theorem dX8_type_41 : decode cX8_type 41 = .ok (.aload_n 3, 1) := by decide +kernel
theorem dX8_type_42 : decode cX8_type 42 = .ok (.getfield 108, 3) := by decide +kernel
theorem dX8_type_45 : decode cX8_type 45 = .ok (.aload_n 3, 1) := by decide +kernel
theorem dX8_type_46 : decode cX8_type 46 = .ok (.getfield 102, 3) := by decide +kernel
theorem dX8_type_49 : decode cX8_type 49 = .ok (.iload_n 2, 1) := by decide +kernel
theorem dX8_type_50 : decode cX8_type 50 = .ok (.iastore, 1) := by decide +kernel
theorem dX8_type_51 : decode cX8_type 51 = .ok (.aload_n 3, 1) := by decide +kernel
theorem dX8_type_52 : decode cX8_type 52 = .ok (.dup, 1) := by decide +kernel
theorem dX8_type_53 : decode cX8_type 53 = .ok (.getfield 102, 3) := by decide +kernel
theorem dX8_type_56 : decode cX8_type 56 = .ok (.iconst 1, 1) := by decide +kernel
theorem dX8_type_57 : decode cX8_type 57 = .ok (.iadd, 1) := by decide +kernel
theorem dX8_type_58 : decode cX8_type 58 = .ok (.putfield 102, 3) := by decide +kernel
theorem dX8_type_61 : decode cX8_type 61 = .ok (.aload_n 0, 1) := by decide +kernel
theorem dX8_type_62 : decode cX8_type 62 = .ok (.invokevirtual 111, 3) := by decide +kernel
theorem dX8_type_65 : decode cX8_type 65 = .ok (.aload_n 3, 1) := by decide +kernel
theorem dX8_type_66 : decode cX8_type 66 = .ok (.getfield 102, 3) := by decide +kernel
theorem dX8_type_69 : decode cX8_type 69 = .ok (.ireturn, 1) := by decide +kernel
theorem dX8_wipe_0 : decode cX8_wipe 0 = .ok (.iload_n 1, 1) := by decide +kernel
theorem dX8_wipe_1 : decode cX8_wipe 1 = .ok (.invokestatic 94, 3) := by decide +kernel
theorem dX8_wipe_4 : decode cX8_wipe 4 = .ok (.ifCond .ne 6, 3) := by decide +kernel
theorem dX8_wipe_7 : decode cX8_wipe 7 = .ok (.bipush (-2), 2) := by decide +kernel
theorem dX8_wipe_9 : decode cX8_wipe 9 = .ok (.ireturn, 1) := by decide +kernel
theorem dX8_wipe_10 : decode cX8_wipe 10 = .ok (.aload_n 0, 1) := by decide +kernel
theorem dX8_wipe_11 : decode cX8_wipe 11 = .ok (.iload_n 1, 1) := by decide +kernel
theorem dX8_wipe_12 : decode cX8_wipe 12 = .ok (.invokevirtual 98, 3) := by decide +kernel
theorem dX8_wipe_15 : decode cX8_wipe 15 = .ok (.astore_n 2, 1) := by decide +kernel
theorem dX8_wipe_16 : decode cX8_wipe 16 = .ok (.aload_n 2, 1) := by decide +kernel
theorem dX8_wipe_17 : decode cX8_wipe 17 = .ok (.getfield 102, 3) := by decide +kernel
theorem dX8_wipe_20 : decode cX8_wipe 20 = .ok (.istore_n 3, 1) := by decide +kernel
theorem dX8_wipe_21 : decode cX8_wipe 21 = .ok (.aload_n 2, 1) := by decide +kernel
theorem dX8_wipe_22 : decode cX8_wipe 22 = .ok (.iconst 0, 1) := by decide +kernel
theorem dX8_wipe_23 : decode cX8_wipe 23 = .ok (.putfield 102, 3) := by decide +kernel
theorem dX8_wipe_26 : decode cX8_wipe 26 = .ok (.aload_n 0, 1) := by decide +kernel
theorem dX8_wipe_27 : decode cX8_wipe 27 = .ok (.invokevirtual 111, 3) := by decide +kernel
theorem dX8_wipe_30 : decode cX8_wipe 30 = .ok (.iload_n 3, 1) := by decide +kernel
theorem dX8_wipe_31 : decode cX8_wipe 31 = .ok (.ireturn, 1) := by decide +kernel
theorem dX8_undo_0 : decode cX8_undo 0 = .ok (.iload_n 1, 1) := by decide +kernel
theorem dX8_undo_1 : decode cX8_undo 1 = .ok (.invokestatic 94, 3) := by decide +kernel
theorem dX8_undo_4 : decode cX8_undo 4 = .ok (.ifCond .ne 6, 3) := by decide +kernel
theorem dX8_undo_7 : decode cX8_undo 7 = .ok (.bipush (-2), 2) := by decide +kernel
theorem dX8_undo_9 : decode cX8_undo 9 = .ok (.ireturn, 1) := by decide +kernel
theorem dX8_undo_10 : decode cX8_undo 10 = .ok (.aload_n 0, 1) := by decide +kernel
theorem dX8_undo_11 : decode cX8_undo 11 = .ok (.iload_n 1, 1) := by decide +kernel
theorem dX8_undo_12 : decode cX8_undo 12 = .ok (.invokevirtual 98, 3) := by decide +kernel
theorem dX8_undo_15 : decode cX8_undo 15 = .ok (.astore_n 2, 1) := by decide +kernel
theorem dX8_undo_16 : decode cX8_undo 16 = .ok (.aload_n 2, 1) := by decide +kernel
theorem dX8_undo_17 : decode cX8_undo 17 = .ok (.getfield 102, 3) := by decide +kernel
theorem dX8_undo_20 : decode cX8_undo 20 = .ok (.ifCond .ne 6, 3) := by decide +kernel
theorem dX8_undo_23 : decode cX8_undo 23 = .ok (.bipush (-3), 2) := by decide +kernel
theorem dX8_undo_25 : decode cX8_undo 25 = .ok (.ireturn, 1) := by decide +kernel
theorem dX8_undo_26 : decode cX8_undo 26 = .ok (.aload_n 2, 1) := by decide +kernel
theorem dX8_undo_27 : decode cX8_undo 27 = .ok (.dup, 1) := by decide +kernel
theorem dX8_undo_28 : decode cX8_undo 28 = .ok (.getfield 102, 3) := by decide +kernel
theorem dX8_undo_31 : decode cX8_undo 31 = .ok (.iconst 1, 1) := by decide +kernel
theorem dX8_undo_32 : decode cX8_undo 32 = .ok (.isub, 1) := by decide +kernel
theorem dX8_undo_33 : decode cX8_undo 33 = .ok (.putfield 102, 3) := by decide +kernel
theorem dX8_undo_36 : decode cX8_undo 36 = .ok (.aload_n 0, 1) := by decide +kernel
theorem dX8_undo_37 : decode cX8_undo 37 = .ok (.invokevirtual 111, 3) := by decide +kernel
theorem dX8_undo_40 : decode cX8_undo 40 = .ok (.aload_n 2, 1) := by decide +kernel
theorem dX8_undo_41 : decode cX8_undo 41 = .ok (.getfield 102, 3) := by decide +kernel
theorem dX8_undo_44 : decode cX8_undo 44 = .ok (.ireturn, 1) := by decide +kernel
theorem dX8_fault_0 : decode cX8_fault 0 = .ok (.iload_n 1, 1) := by decide +kernel
theorem dX8_fault_1 : decode cX8_fault 1 = .ok (.invokestatic 94, 3) := by decide +kernel
theorem dX8_fault_4 : decode cX8_fault 4 = .ok (.ifCond .ne 6, 3) := by decide +kernel
theorem dX8_fault_7 : decode cX8_fault 7 = .ok (.bipush (-2), 2) := by decide +kernel
theorem dX8_fault_9 : decode cX8_fault 9 = .ok (.ireturn, 1) := by decide +kernel
theorem dX8_fault_10 : decode cX8_fault 10 = .ok (.iload_n 1, 1) := by decide +kernel
theorem dX8_fault_11 : decode cX8_fault 11 = .ok (.ifCond .ne 13, 3) := by decide +kernel
theorem dX8_fault_14 : decode cX8_fault 14 = .ok (.aload_n 0, 1) := by decide +kernel
theorem dX8_fault_15 : decode cX8_fault 15 = .ok (.getfield 14, 3) := by decide +kernel
theorem dX8_fault_18 : decode cX8_fault 18 = .ok (.invokevirtual 114, 3) := by decide +kernel
theorem dX8_fault_21 : decode cX8_fault 21 = .ok (.goto 10, 3) := by decide +kernel
theorem dX8_fault_24 : decode cX8_fault 24 = .ok (.aload_n 0, 1) := by decide +kernel
theorem dX8_fault_25 : decode cX8_fault 25 = .ok (.getfield 18, 3) := by decide +kernel
theorem dX8_fault_28 : decode cX8_fault 28 = .ok (.invokevirtual 118, 3) := by decide +kernel
theorem dX8_fault_31 : decode cX8_fault 31 = .ok (.ireturn, 1) := by decide +kernel
theorem dX8_hook_0 : decode cX8_hook 0 = .ok (.aload_n 0, 1) := by decide +kernel
theorem dX8_hook_1 : decode cX8_hook 1 = .ok (.invokevirtual 121, 3) := by decide +kernel
theorem dX8_hook_4 : decode cX8_hook 4 = .ok (.aload_n 0, 1) := by decide +kernel
theorem dX8_hook_5 : decode cX8_hook 5 = .ok (.iload_n 1, 1) := by decide +kernel
theorem dX8_hook_6 : decode cX8_hook 6 = .ok (.invokevirtual 124, 3) := by decide +kernel
theorem dX8_hook_9 : decode cX8_hook 9 = .ok (.ifCond .eq 15, 3) := by decide +kernel
theorem dX8_hook_12 : decode cX8_hook 12 = .ok (.aload_n 0, 1) := by decide +kernel
theorem dX8_hook_13 : decode cX8_hook 13 = .ok (.getfield 40, 3) := by decide +kernel
theorem dX8_hook_16 : decode cX8_hook 16 = .ok (.getfield 127, 3) := by decide +kernel
theorem dX8_hook_19 : decode cX8_hook 19 = .ok (.iload_n 1, 1) := by decide +kernel
theorem dX8_hook_20 : decode cX8_hook 20 = .ok (.iaload, 1) := by decide +kernel
theorem dX8_hook_21 : decode cX8_hook 21 = .ok (.goto 5, 3) := by decide +kernel
theorem dX8_hook_24 : decode cX8_hook 24 = .ok (.bipush (-2), 2) := by decide +kernel
theorem dX8_hook_26 : decode cX8_hook 26 = .ok (.ireturn, 1) := by decide +kernel
theorem dX8_thing_0 : decode cX8_thing 0 = .ok (.aload_n 0, 1) := by decide +kernel
theorem dX8_thing_1 : decode cX8_thing 1 = .ok (.invokevirtual 121, 3) := by decide +kernel
theorem dX8_thing_4 : decode cX8_thing 4 = .ok (.aload_n 0, 1) := by decide +kernel
theorem dX8_thing_5 : decode cX8_thing 5 = .ok (.iload_n 1, 1) := by decide +kernel
theorem dX8_thing_6 : decode cX8_thing 6 = .ok (.invokevirtual 130, 3) := by decide +kernel
theorem dX8_thing_9 : decode cX8_thing 9 = .ok (.ifCond .eq 11, 3) := by decide +kernel
theorem dX8_thing_12 : decode cX8_thing 12 = .ok (.iload_n 2, 1) := by decide +kernel
theorem dX8_thing_13 : decode cX8_thing 13 = .ok (.iconst 3, 1) := by decide +kernel
theorem dX8_thing_14 : decode cX8_thing 14 = .ok (.invokestatic 133, 3) := by decide +kernel
theorem dX8_thing_17 : decode cX8_thing 17 = .ok (.ifCond .ne 6, 3) := by decide +kernel
theorem dX8_thing_20 : decode cX8_thing 20 = .ok (.bipush (-2), 2) := by decide +kernel
theorem dX8_thing_22 : decode cX8_thing 22 = .ok (.ireturn, 1) := by decide +kernel
theorem dX8_thing_23 : decode cX8_thing 23 = .ok (.iload_n 2, 1) := by decide +kernel
theorem dX8_thing_24 : decode cX8_thing 24 = .ok (.ifCond .ne 13, 3) := by decide +kernel
theorem dX8_thing_27 : decode cX8_thing 27 = .ok (.aload_n 0, 1) := by decide +kernel
theorem dX8_thing_28 : decode cX8_thing 28 = .ok (.getfield 40, 3) := by decide +kernel
theorem dX8_thing_31 : decode cX8_thing 31 = .ok (.getfield 137, 3) := by decide +kernel
theorem dX8_thing_34 : decode cX8_thing 34 = .ok (.iload_n 1, 1) := by decide +kernel
theorem dX8_thing_35 : decode cX8_thing 35 = .ok (.iaload, 1) := by decide +kernel
theorem dX8_thing_36 : decode cX8_thing 36 = .ok (.ireturn, 1) := by decide +kernel
theorem dX8_thing_37 : decode cX8_thing 37 = .ok (.iload_n 2, 1) := by decide +kernel
theorem dX8_thing_38 : decode cX8_thing 38 = .ok (.iconst 1, 1) := by decide +kernel
theorem dX8_thing_39 : decode cX8_thing 39 = .ok (.if_icmp .ne 15, 3) := by decide +kernel
theorem dX8_thing_42 : decode cX8_thing 42 = .ok (.aload_n 0, 1) := by decide +kernel
theorem dX8_thing_43 : decode cX8_thing 43 = .ok (.getfield 40, 3) := by decide +kernel
theorem dX8_thing_46 : decode cX8_thing 46 = .ok (.getfield 140, 3) := by decide +kernel
theorem dX8_thing_49 : decode cX8_thing 49 = .ok (.iload_n 1, 1) := by decide +kernel
theorem dX8_thing_50 : decode cX8_thing 50 = .ok (.iaload, 1) := by decide +kernel
theorem dX8_thing_51 : decode cX8_thing 51 = .ok (.goto 12, 3) := by decide +kernel
theorem dX8_thing_54 : decode cX8_thing 54 = .ok (.aload_n 0, 1) := by decide +kernel
theorem dX8_thing_55 : decode cX8_thing 55 = .ok (.getfield 40, 3) := by decide +kernel
theorem dX8_thing_58 : decode cX8_thing 58 = .ok (.getfield 143, 3) := by decide +kernel
theorem dX8_thing_61 : decode cX8_thing 61 = .ok (.iload_n 1, 1) := by decide +kernel
theorem dX8_thing_62 : decode cX8_thing 62 = .ok (.iaload, 1) := by decide +kernel
theorem dX8_thing_63 : decode cX8_thing 63 = .ok (.ireturn, 1) := by decide +kernel
theorem dX8_event_0 : decode cX8_event 0 = .ok (.iload_n 1, 1) := by decide +kernel
theorem dX8_event_1 : decode cX8_event 1 = .ok (.iload_n 2, 1) := by decide +kernel
theorem dX8_event_2 : decode cX8_event 2 = .ok (.iload_n 3, 1) := by decide +kernel
theorem dX8_event_3 : decode cX8_event 3 = .ok (.invokestatic 146, 3) := by decide +kernel
theorem dX8_event_6 : decode cX8_event 6 = .ok (.ifCond .ne 6, 3) := by decide +kernel
theorem dX8_event_9 : decode cX8_event 9 = .ok (.bipush (-2), 2) := by decide +kernel
theorem dX8_event_11 : decode cX8_event 11 = .ok (.ireturn, 1) := by decide +kernel
theorem dX8_event_12 : decode cX8_event 12 = .ok (.aload_n 0, 1) := by decide +kernel
theorem dX8_event_13 : decode cX8_event 13 = .ok (.getfield 24, 3) := by decide +kernel
theorem dX8_event_16 : decode cX8_event 16 = .ok (.invokevirtual 150, 3) := by decide +kernel
theorem dX8_event_19 : decode cX8_event 19 = .ok (.ifCond .eq 6, 3) := by decide +kernel
theorem dX8_event_22 : decode cX8_event 22 = .ok (.bipush (-4), 2) := by decide +kernel
theorem dX8_event_24 : decode cX8_event 24 = .ok (.ireturn, 1) := by decide +kernel
theorem dX8_event_25 : decode cX8_event 25 = .ok (.aload_n 0, 1) := by decide +kernel
theorem dX8_event_26 : decode cX8_event 26 = .ok (.getfield 24, 3) := by decide +kernel
theorem dX8_event_29 : decode cX8_event 29 = .ok (.iload_n 1, 1) := by decide +kernel
theorem dX8_event_30 : decode cX8_event 30 = .ok (.iload_n 2, 1) := by decide +kernel
theorem dX8_event_31 : decode cX8_event 31 = .ok (.iload_n 3, 1) := by decide +kernel
theorem dX8_event_32 : decode cX8_event 32 = .ok (.invokevirtual 154, 3) := by decide +kernel
theorem dX8_event_35 : decode cX8_event 35 = .ok (.aload_n 0, 1) := by decide +kernel
theorem dX8_event_36 : decode cX8_event 36 = .ok (.invokevirtual 111, 3) := by decide +kernel
theorem dX8_event_39 : decode cX8_event 39 = .ok (.aload_n 0, 1) := by decide +kernel
theorem dX8_event_40 : decode cX8_event 40 = .ok (.getfield 24, 3) := by decide +kernel
theorem dX8_event_43 : decode cX8_event 43 = .ok (.getfield 158, 3) := by decide +kernel
theorem dX8_event_46 : decode cX8_event 46 = .ok (.ireturn, 1) := by decide +kernel
theorem dX8_back_0 : decode cX8_back 0 = .ok (.aload_n 0, 1) := by decide +kernel
theorem dX8_back_1 : decode cX8_back 1 = .ok (.getfield 24, 3) := by decide +kernel
theorem dX8_back_4 : decode cX8_back 4 = .ok (.getfield 158, 3) := by decide +kernel
theorem dX8_back_7 : decode cX8_back 7 = .ok (.ifCond .ne 6, 3) := by decide +kernel
theorem dX8_back_10 : decode cX8_back 10 = .ok (.bipush (-3), 2) := by decide +kernel
theorem dX8_back_12 : decode cX8_back 12 = .ok (.ireturn, 1) := by decide +kernel
theorem dX8_back_13 : decode cX8_back 13 = .ok (.aload_n 0, 1) := by decide +kernel
theorem dX8_back_14 : decode cX8_back 14 = .ok (.getfield 24, 3) := by decide +kernel
theorem dX8_back_17 : decode cX8_back 17 = .ok (.dup, 1) := by decide +kernel
theorem dX8_back_18 : decode cX8_back 18 = .ok (.getfield 158, 3) := by decide +kernel
theorem dX8_back_21 : decode cX8_back 21 = .ok (.iconst 1, 1) := by decide +kernel
theorem dX8_back_22 : decode cX8_back 22 = .ok (.isub, 1) := by decide +kernel
theorem dX8_back_23 : decode cX8_back 23 = .ok (.putfield 158, 3) := by decide +kernel
theorem dX8_back_26 : decode cX8_back 26 = .ok (.aload_n 0, 1) := by decide +kernel
theorem dX8_back_27 : decode cX8_back 27 = .ok (.invokevirtual 111, 3) := by decide +kernel
theorem dX8_back_30 : decode cX8_back 30 = .ok (.aload_n 0, 1) := by decide +kernel
theorem dX8_back_31 : decode cX8_back 31 = .ok (.getfield 24, 3) := by decide +kernel
theorem dX8_back_34 : decode cX8_back 34 = .ok (.getfield 158, 3) := by decide +kernel
theorem dX8_back_37 : decode cX8_back 37 = .ok (.ireturn, 1) := by decide +kernel
theorem dX8_read_0 : decode cX8_read 0 = .ok (.iload_n 1, 1) := by decide +kernel
theorem dX8_read_1 : decode cX8_read 1 = .ok (.invokestatic 161, 3) := by decide +kernel
theorem dX8_read_4 : decode cX8_read 4 = .ok (.ifCond .ne 6, 3) := by decide +kernel
theorem dX8_read_7 : decode cX8_read 7 = .ok (.bipush (-2), 2) := by decide +kernel
theorem dX8_read_9 : decode cX8_read 9 = .ok (.ireturn, 1) := by decide +kernel
theorem dX8_read_10 : decode cX8_read 10 = .ok (.aload_n 0, 1) := by decide +kernel
theorem dX8_read_11 : decode cX8_read 11 = .ok (.getfield 33, 3) := by decide +kernel
theorem dX8_read_14 : decode cX8_read 14 = .ok (.iload_n 1, 1) := by decide +kernel
theorem dX8_read_15 : decode cX8_read 15 = .ok (.aaload, 1) := by decide +kernel
theorem dX8_read_16 : decode cX8_read 16 = .ok (.astore_n 2, 1) := by decide +kernel
theorem dX8_read_17 : decode cX8_read 17 = .ok (.aload_n 2, 1) := by decide +kernel
theorem dX8_read_18 : decode cX8_read 18 = .ok (.invokevirtual 164, 3) := by decide +kernel
theorem dX8_read_21 : decode cX8_read 21 = .ok (.ifCond .eq 9, 3) := by decide +kernel
theorem dX8_read_24 : decode cX8_read 24 = .ok (.aload_n 0, 1) := by decide +kernel
theorem dX8_read_25 : decode cX8_read 25 = .ok (.iconst 1, 1) := by decide +kernel
theorem dX8_read_26 : decode cX8_read 26 = .ok (.invokevirtual 167, 3) := by decide +kernel
theorem dX8_read_29 : decode cX8_read 29 = .ok (.ireturn, 1) := by decide +kernel
theorem dX8_read_30 : decode cX8_read 30 = .ok (.iconst 0, 1) := by decide +kernel
theorem dX8_read_31 : decode cX8_read 31 = .ok (.istore_n 3, 1) := by decide +kernel
theorem dX8_read_32 : decode cX8_read 32 = .ok (.iconst 0, 1) := by decide +kernel
theorem dX8_read_33 : decode cX8_read 33 = .ok (.istore 4, 2) := by decide +kernel
theorem dX8_read_35 : decode cX8_read 35 = .ok (.iload 4, 2) := by decide +kernel
theorem dX8_read_37 : decode cX8_read 37 = .ok (.iconst 2, 1) := by decide +kernel
theorem dX8_read_38 : decode cX8_read 38 = .ok (.iadd, 1) := by decide +kernel
theorem dX8_read_39 : decode cX8_read 39 = .ok (.aload_n 2, 1) := by decide +kernel
theorem dX8_read_40 : decode cX8_read 40 = .ok (.getfield 171, 3) := by decide +kernel
theorem dX8_read_43 : decode cX8_read 43 = .ok (.if_icmp .ge 47, 3) := by decide +kernel
theorem dX8_read_46 : decode cX8_read 46 = .ok (.aload_n 0, 1) := by decide +kernel
theorem dX8_read_47 : decode cX8_read 47 = .ok (.aload_n 2, 1) := by decide +kernel
theorem dX8_read_48 : decode cX8_read 48 = .ok (.getfield 172, 3) := by decide +kernel
theorem dX8_read_51 : decode cX8_read 51 = .ok (.iload 4, 2) := by decide +kernel
theorem dX8_read_53 : decode cX8_read 53 = .ok (.iaload, 1) := by decide +kernel
theorem dX8_read_54 : decode cX8_read 54 = .ok (.aload_n 2, 1) := by decide +kernel
theorem dX8_read_55 : decode cX8_read 55 = .ok (.getfield 172, 3) := by decide +kernel
theorem dX8_read_58 : decode cX8_read 58 = .ok (.iload 4, 2) := by decide +kernel
theorem dX8_read_60 : decode cX8_read 60 = .ok (.iconst 1, 1) := by decide +kernel
theorem dX8_read_61 : decode cX8_read 61 = .ok (.iadd, 1) := by decide +kernel
theorem dX8_read_62 : decode cX8_read 62 = .ok (.iaload, 1) := by decide +kernel
theorem dX8_read_63 : decode cX8_read 63 = .ok (.aload_n 2, 1) := by decide +kernel
theorem dX8_read_64 : decode cX8_read 64 = .ok (.getfield 172, 3) := by decide +kernel
theorem dX8_read_67 : decode cX8_read 67 = .ok (.iload 4, 2) := by decide +kernel
theorem dX8_read_69 : decode cX8_read 69 = .ok (.iconst 2, 1) := by decide +kernel
theorem dX8_read_70 : decode cX8_read 70 = .ok (.iadd, 1) := by decide +kernel
theorem dX8_read_71 : decode cX8_read 71 = .ok (.iaload, 1) := by decide +kernel
theorem dX8_read_72 : decode cX8_read 72 = .ok (.invokevirtual 175, 3) := by decide +kernel
theorem dX8_read_75 : decode cX8_read 75 = .ok (.ifCond .ge 6, 3) := by decide +kernel
theorem dX8_read_78 : decode cX8_read 78 = .ok (.goto 12, 3) := by decide +kernel
theorem dX8_read_81 : decode cX8_read 81 = .ok (.iinc 3 1, 3) := by decide +kernel
theorem dX8_read_84 : decode cX8_read 84 = .ok (.iinc 4 3, 3) := by decide +kernel
theorem dX8_read_87 : decode cX8_read 87 = .ok (.goto (-52), 3) := by decide +kernel
theorem dX8_read_90 : decode cX8_read 90 = .ok (.iload_n 3, 1) := by decide +kernel
theorem dX8_read_91 : decode cX8_read 91 = .ok (.ireturn, 1) := by decide +kernel
theorem dX8_heat_0 : decode cX8_heat 0 = .ok (.aload_n 0, 1) := by decide +kernel
theorem dX8_heat_1 : decode cX8_heat 1 = .ok (.invokevirtual 121, 3) := by decide +kernel
theorem dX8_heat_4 : decode cX8_heat 4 = .ok (.iload_n 1, 1) := by decide +kernel
theorem dX8_heat_5 : decode cX8_heat 5 = .ok (.invokestatic 179, 3) := by decide +kernel
theorem dX8_heat_8 : decode cX8_heat 8 = .ok (.ifCond .eq 19, 3) := by decide +kernel
theorem dX8_heat_11 : decode cX8_heat 11 = .ok (.aload_n 0, 1) := by decide +kernel
theorem dX8_heat_12 : decode cX8_heat 12 = .ok (.iload_n 2, 1) := by decide +kernel
theorem dX8_heat_13 : decode cX8_heat 13 = .ok (.invokevirtual 130, 3) := by decide +kernel
theorem dX8_heat_16 : decode cX8_heat 16 = .ok (.ifCond .eq 11, 3) := by decide +kernel
theorem dX8_heat_19 : decode cX8_heat 19 = .ok (.iload_n 3, 1) := by decide +kernel
theorem dX8_heat_20 : decode cX8_heat 20 = .ok (.iconst 2, 1) := by decide +kernel
theorem dX8_heat_21 : decode cX8_heat 21 = .ok (.invokestatic 133, 3) := by decide +kernel
theorem dX8_heat_24 : decode cX8_heat 24 = .ok (.ifCond .ne 6, 3) := by decide +kernel
theorem dX8_heat_27 : decode cX8_heat 27 = .ok (.bipush (-2), 2) := by decide +kernel
theorem dX8_heat_29 : decode cX8_heat 29 = .ok (.ireturn, 1) := by decide +kernel
theorem dX8_heat_30 : decode cX8_heat 30 = .ok (.iload_n 1, 1) := by decide +kernel
theorem dX8_heat_31 : decode cX8_heat 31 = .ok (.bipush 8, 2) := by decide +kernel
theorem dX8_heat_33 : decode cX8_heat 33 = .ok (.imul, 1) := by decide +kernel
theorem dX8_heat_34 : decode cX8_heat 34 = .ok (.iload_n 2, 1) := by decide +kernel
theorem dX8_heat_35 : decode cX8_heat 35 = .ok (.iadd, 1) := by decide +kernel
theorem dX8_heat_36 : decode cX8_heat 36 = .ok (.istore 4, 2) := by decide +kernel
theorem dX8_heat_38 : decode cX8_heat 38 = .ok (.iload_n 3, 1) := by decide +kernel
theorem dX8_heat_39 : decode cX8_heat 39 = .ok (.ifCond .ne 16, 3) := by decide +kernel
theorem dX8_heat_42 : decode cX8_heat 42 = .ok (.aload_n 0, 1) := by decide +kernel
theorem dX8_heat_43 : decode cX8_heat 43 = .ok (.getfield 50, 3) := by decide +kernel
theorem dX8_heat_46 : decode cX8_heat 46 = .ok (.getfield 182, 3) := by decide +kernel
theorem dX8_heat_49 : decode cX8_heat 49 = .ok (.iload 4, 2) := by decide +kernel
theorem dX8_heat_51 : decode cX8_heat 51 = .ok (.iaload, 1) := by decide +kernel
theorem dX8_heat_52 : decode cX8_heat 52 = .ok (.goto 13, 3) := by decide +kernel
theorem dX8_heat_55 : decode cX8_heat 55 = .ok (.aload_n 0, 1) := by decide +kernel
theorem dX8_heat_56 : decode cX8_heat 56 = .ok (.getfield 50, 3) := by decide +kernel
theorem dX8_heat_59 : decode cX8_heat 59 = .ok (.getfield 185, 3) := by decide +kernel
theorem dX8_heat_62 : decode cX8_heat 62 = .ok (.iload 4, 2) := by decide +kernel
theorem dX8_heat_64 : decode cX8_heat 64 = .ok (.iaload, 1) := by decide +kernel
theorem dX8_heat_65 : decode cX8_heat 65 = .ok (.ireturn, 1) := by decide +kernel
theorem dX8_said_0 : decode cX8_said 0 = .ok (.aload_n 0, 1) := by decide +kernel
theorem dX8_said_1 : decode cX8_said 1 = .ok (.invokevirtual 121, 3) := by decide +kernel
theorem dX8_said_4 : decode cX8_said 4 = .ok (.iload_n 1, 1) := by decide +kernel
theorem dX8_said_5 : decode cX8_said 5 = .ok (.invokestatic 179, 3) := by decide +kernel
theorem dX8_said_8 : decode cX8_said 8 = .ok (.ifCond .eq 11, 3) := by decide +kernel
theorem dX8_said_11 : decode cX8_said 11 = .ok (.aload_n 0, 1) := by decide +kernel
theorem dX8_said_12 : decode cX8_said 12 = .ok (.iload_n 2, 1) := by decide +kernel
theorem dX8_said_13 : decode cX8_said 13 = .ok (.invokevirtual 124, 3) := by decide +kernel
theorem dX8_said_16 : decode cX8_said 16 = .ok (.ifCond .ne 6, 3) := by decide +kernel
theorem dX8_said_19 : decode cX8_said 19 = .ok (.bipush (-2), 2) := by decide +kernel
theorem dX8_said_21 : decode cX8_said 21 = .ok (.ireturn, 1) := by decide +kernel
theorem dX8_said_22 : decode cX8_said 22 = .ok (.aload_n 0, 1) := by decide +kernel
theorem dX8_said_23 : decode cX8_said 23 = .ok (.getfield 50, 3) := by decide +kernel
theorem dX8_said_26 : decode cX8_said 26 = .ok (.getfield 188, 3) := by decide +kernel
theorem dX8_said_29 : decode cX8_said 29 = .ok (.iload_n 1, 1) := by decide +kernel
theorem dX8_said_30 : decode cX8_said 30 = .ok (.bipush 12, 2) := by decide +kernel
theorem dX8_said_32 : decode cX8_said 32 = .ok (.imul, 1) := by decide +kernel
theorem dX8_said_33 : decode cX8_said 33 = .ok (.iload_n 2, 1) := by decide +kernel
theorem dX8_said_34 : decode cX8_said 34 = .ok (.iadd, 1) := by decide +kernel
theorem dX8_said_35 : decode cX8_said 35 = .ok (.iaload, 1) := by decide +kernel
theorem dX8_said_36 : decode cX8_said 36 = .ok (.ireturn, 1) := by decide +kernel
theorem dX8_at_0 : decode cX8_at 0 = .ok (.aload_n 0, 1) := by decide +kernel
theorem dX8_at_1 : decode cX8_at 1 = .ok (.invokevirtual 121, 3) := by decide +kernel
theorem dX8_at_4 : decode cX8_at 4 = .ok (.iload_n 1, 1) := by decide +kernel
theorem dX8_at_5 : decode cX8_at 5 = .ok (.invokestatic 179, 3) := by decide +kernel
theorem dX8_at_8 : decode cX8_at 8 = .ok (.ifCond .eq 11, 3) := by decide +kernel
theorem dX8_at_11 : decode cX8_at 11 = .ok (.iload_n 2, 1) := by decide +kernel
theorem dX8_at_12 : decode cX8_at 12 = .ok (.iconst 4, 1) := by decide +kernel
theorem dX8_at_13 : decode cX8_at 13 = .ok (.invokestatic 133, 3) := by decide +kernel
theorem dX8_at_16 : decode cX8_at 16 = .ok (.ifCond .ne 6, 3) := by decide +kernel
theorem dX8_at_19 : decode cX8_at 19 = .ok (.bipush (-2), 2) := by decide +kernel
theorem dX8_at_21 : decode cX8_at 21 = .ok (.ireturn, 1) := by decide +kernel
theorem dX8_at_22 : decode cX8_at 22 = .ok (.aload_n 0, 1) := by decide +kernel
theorem dX8_at_23 : decode cX8_at 23 = .ok (.getfield 50, 3) := by decide +kernel
theorem dX8_at_26 : decode cX8_at 26 = .ok (.iload_n 1, 1) := by decide +kernel
theorem dX8_at_27 : decode cX8_at 27 = .ok (.iload_n 2, 1) := by decide +kernel
theorem dX8_at_28 : decode cX8_at 28 = .ok (.invokevirtual 191, 3) := by decide +kernel
theorem dX8_at_31 : decode cX8_at 31 = .ok (.ireturn, 1) := by decide +kernel
theorem dX8_settled_0 : decode cX8_settled 0 = .ok (.aload_n 0, 1) := by decide +kernel
theorem dX8_settled_1 : decode cX8_settled 1 = .ok (.invokevirtual 121, 3) := by decide +kernel
theorem dX8_settled_4 : decode cX8_settled 4 = .ok (.aload_n 0, 1) := by decide +kernel
theorem dX8_settled_5 : decode cX8_settled 5 = .ok (.iload_n 1, 1) := by decide +kernel
theorem dX8_settled_6 : decode cX8_settled 6 = .ok (.invokevirtual 130, 3) := by decide +kernel
theorem dX8_settled_9 : decode cX8_settled 9 = .ok (.ifCond .eq 15, 3) := by decide +kernel
theorem dX8_settled_12 : decode cX8_settled 12 = .ok (.aload_n 0, 1) := by decide +kernel
theorem dX8_settled_13 : decode cX8_settled 13 = .ok (.getfield 50, 3) := by decide +kernel
theorem dX8_settled_16 : decode cX8_settled 16 = .ok (.getfield 195, 3) := by decide +kernel
theorem dX8_settled_19 : decode cX8_settled 19 = .ok (.iload_n 1, 1) := by decide +kernel
theorem dX8_settled_20 : decode cX8_settled 20 = .ok (.iaload, 1) := by decide +kernel
theorem dX8_settled_21 : decode cX8_settled 21 = .ok (.goto 5, 3) := by decide +kernel
theorem dX8_settled_24 : decode cX8_settled 24 = .ok (.bipush (-2), 2) := by decide +kernel
theorem dX8_settled_26 : decode cX8_settled 26 = .ok (.ireturn, 1) := by decide +kernel
theorem dX8_sum_0 : decode cX8_sum 0 = .ok (.aload_n 0, 1) := by decide +kernel
theorem dX8_sum_1 : decode cX8_sum 1 = .ok (.invokevirtual 121, 3) := by decide +kernel
theorem dX8_sum_4 : decode cX8_sum 4 = .ok (.iload_n 1, 1) := by decide +kernel
theorem dX8_sum_5 : decode cX8_sum 5 = .ok (.iconst 4, 1) := by decide +kernel
theorem dX8_sum_6 : decode cX8_sum 6 = .ok (.invokestatic 133, 3) := by decide +kernel
theorem dX8_sum_9 : decode cX8_sum 9 = .ok (.ifCond .eq 14, 3) := by decide +kernel
theorem dX8_sum_12 : decode cX8_sum 12 = .ok (.aload_n 0, 1) := by decide +kernel
theorem dX8_sum_13 : decode cX8_sum 13 = .ok (.getfield 50, 3) := by decide +kernel
theorem dX8_sum_16 : decode cX8_sum 16 = .ok (.iload_n 1, 1) := by decide +kernel
theorem dX8_sum_17 : decode cX8_sum 17 = .ok (.invokevirtual 198, 3) := by decide +kernel
theorem dX8_sum_20 : decode cX8_sum 20 = .ok (.goto 5, 3) := by decide +kernel
theorem dX8_sum_23 : decode cX8_sum 23 = .ok (.bipush (-2), 2) := by decide +kernel
theorem dX8_sum_25 : decode cX8_sum 25 = .ok (.ireturn, 1) := by decide +kernel
theorem dX8_peace_0 : decode cX8_peace 0 = .ok (.aload_n 0, 1) := by decide +kernel
theorem dX8_peace_1 : decode cX8_peace 1 = .ok (.invokevirtual 121, 3) := by decide +kernel
theorem dX8_peace_4 : decode cX8_peace 4 = .ok (.aload_n 0, 1) := by decide +kernel
theorem dX8_peace_5 : decode cX8_peace 5 = .ok (.getfield 50, 3) := by decide +kernel
theorem dX8_peace_8 : decode cX8_peace 8 = .ok (.aload_n 0, 1) := by decide +kernel
theorem dX8_peace_9 : decode cX8_peace 9 = .ok (.getfield 40, 3) := by decide +kernel
theorem dX8_peace_12 : decode cX8_peace 12 = .ok (.invokevirtual 201, 3) := by decide +kernel
theorem dX8_peace_15 : decode cX8_peace 15 = .ok (.invokevirtual 204, 3) := by decide +kernel
theorem dX8_peace_18 : decode cX8_peace 18 = .ok (.ireturn, 1) := by decide +kernel
theorem dX8_longest_0 : decode cX8_longest 0 = .ok (.aload_n 0, 1) := by decide +kernel
theorem dX8_longest_1 : decode cX8_longest 1 = .ok (.invokevirtual 121, 3) := by decide +kernel
theorem dX8_longest_4 : decode cX8_longest 4 = .ok (.aload_n 0, 1) := by decide +kernel
theorem dX8_longest_5 : decode cX8_longest 5 = .ok (.getfield 50, 3) := by decide +kernel
theorem dX8_longest_8 : decode cX8_longest 8 = .ok (.invokevirtual 207, 3) := by decide +kernel
theorem dX8_longest_11 : decode cX8_longest 11 = .ok (.ireturn, 1) := by decide +kernel
theorem dX8_highest_0 : decode cX8_highest 0 = .ok (.aload_n 0, 1) := by decide +kernel
theorem dX8_highest_1 : decode cX8_highest 1 = .ok (.invokevirtual 121, 3) := by decide +kernel
theorem dX8_highest_4 : decode cX8_highest 4 = .ok (.aload_n 0, 1) := by decide +kernel
theorem dX8_highest_5 : decode cX8_highest 5 = .ok (.iload_n 1, 1) := by decide +kernel
theorem dX8_highest_6 : decode cX8_highest 6 = .ok (.invokevirtual 130, 3) := by decide +kernel
theorem dX8_highest_9 : decode cX8_highest 9 = .ok (.ifCond .eq 15, 3) := by decide +kernel
theorem dX8_highest_12 : decode cX8_highest 12 = .ok (.aload_n 0, 1) := by decide +kernel
theorem dX8_highest_13 : decode cX8_highest 13 = .ok (.getfield 50, 3) := by decide +kernel
theorem dX8_highest_16 : decode cX8_highest 16 = .ok (.getfield 210, 3) := by decide +kernel
theorem dX8_highest_19 : decode cX8_highest 19 = .ok (.iload_n 1, 1) := by decide +kernel
theorem dX8_highest_20 : decode cX8_highest 20 = .ok (.iaload, 1) := by decide +kernel
theorem dX8_highest_21 : decode cX8_highest 21 = .ok (.goto 5, 3) := by decide +kernel
theorem dX8_highest_24 : decode cX8_highest 24 = .ok (.bipush (-2), 2) := by decide +kernel
theorem dX8_highest_26 : decode cX8_highest 26 = .ok (.ireturn, 1) := by decide +kernel
theorem dX8_sore_0 : decode cX8_sore 0 = .ok (.aload_n 0, 1) := by decide +kernel
theorem dX8_sore_1 : decode cX8_sore 1 = .ok (.invokevirtual 121, 3) := by decide +kernel
theorem dX8_sore_4 : decode cX8_sore 4 = .ok (.aload_n 0, 1) := by decide +kernel
theorem dX8_sore_5 : decode cX8_sore 5 = .ok (.invokevirtual 213, 3) := by decide +kernel
theorem dX8_sore_8 : decode cX8_sore 8 = .ok (.ireturn, 1) := by decide +kernel
theorem dX8_swap_0 : decode cX8_swap 0 = .ok (.iload_n 1, 1) := by decide +kernel
theorem dX8_swap_1 : decode cX8_swap 1 = .ok (.iconst 4, 1) := by decide +kernel
theorem dX8_swap_2 : decode cX8_swap 2 = .ok (.invokestatic 133, 3) := by decide +kernel
theorem dX8_swap_5 : decode cX8_swap 5 = .ok (.ifCond .ne 6, 3) := by decide +kernel
theorem dX8_swap_8 : decode cX8_swap 8 = .ok (.bipush (-2), 2) := by decide +kernel
theorem dX8_swap_10 : decode cX8_swap 10 = .ok (.ireturn, 1) := by decide +kernel
theorem dX8_swap_11 : decode cX8_swap 11 = .ok (.aload_n 0, 1) := by decide +kernel
theorem dX8_swap_12 : decode cX8_swap 12 = .ok (.invokevirtual 121, 3) := by decide +kernel
theorem dX8_swap_15 : decode cX8_swap 15 = .ok (.aload_n 0, 1) := by decide +kernel
theorem dX8_swap_16 : decode cX8_swap 16 = .ok (.invokevirtual 216, 3) := by decide +kernel
theorem dX8_swap_19 : decode cX8_swap 19 = .ok (.aload_n 0, 1) := by decide +kernel
theorem dX8_swap_20 : decode cX8_swap 20 = .ok (.getfield 60, 3) := by decide +kernel
theorem dX8_swap_23 : decode cX8_swap 23 = .ok (.iload_n 1, 1) := by decide +kernel
theorem dX8_swap_24 : decode cX8_swap 24 = .ok (.invokevirtual 219, 3) := by decide +kernel
theorem dX8_swap_27 : decode cX8_swap 27 = .ok (.ireturn, 1) := by decide +kernel
theorem dX8_fit_0 : decode cX8_fit 0 = .ok (.aload_n 0, 1) := by decide +kernel
theorem dX8_fit_1 : decode cX8_fit 1 = .ok (.invokevirtual 121, 3) := by decide +kernel
theorem dX8_fit_4 : decode cX8_fit 4 = .ok (.aload_n 0, 1) := by decide +kernel
theorem dX8_fit_5 : decode cX8_fit 5 = .ok (.invokevirtual 222, 3) := by decide +kernel
theorem dX8_fit_8 : decode cX8_fit 8 = .ok (.ireturn, 1) := by decide +kernel
theorem dX8_leave_0 : decode cX8_leave 0 = .ok (.iload_n 1, 1) := by decide +kernel
theorem dX8_leave_1 : decode cX8_leave 1 = .ok (.invokestatic 179, 3) := by decide +kernel
theorem dX8_leave_4 : decode cX8_leave 4 = .ok (.ifCond .eq 11, 3) := by decide +kernel
theorem dX8_leave_7 : decode cX8_leave 7 = .ok (.iload_n 2, 1) := by decide +kernel
theorem dX8_leave_8 : decode cX8_leave 8 = .ok (.iconst 3, 1) := by decide +kernel
theorem dX8_leave_9 : decode cX8_leave 9 = .ok (.invokestatic 133, 3) := by decide +kernel
theorem dX8_leave_12 : decode cX8_leave 12 = .ok (.ifCond .ne 6, 3) := by decide +kernel
theorem dX8_leave_15 : decode cX8_leave 15 = .ok (.bipush (-2), 2) := by decide +kernel
theorem dX8_leave_17 : decode cX8_leave 17 = .ok (.ireturn, 1) := by decide +kernel
theorem dX8_leave_18 : decode cX8_leave 18 = .ok (.aload_n 0, 1) := by decide +kernel
theorem dX8_leave_19 : decode cX8_leave 19 = .ok (.invokevirtual 121, 3) := by decide +kernel
theorem dX8_leave_22 : decode cX8_leave 22 = .ok (.aload_n 0, 1) := by decide +kernel
theorem dX8_leave_23 : decode cX8_leave 23 = .ok (.iload_n 1, 1) := by decide +kernel
theorem dX8_leave_24 : decode cX8_leave 24 = .ok (.invokevirtual 225, 3) := by decide +kernel
theorem dX8_leave_27 : decode cX8_leave 27 = .ok (.aload_n 0, 1) := by decide +kernel
theorem dX8_leave_28 : decode cX8_leave 28 = .ok (.getfield 60, 3) := by decide +kernel
theorem dX8_leave_31 : decode cX8_leave 31 = .ok (.iload_n 2, 1) := by decide +kernel
theorem dX8_leave_32 : decode cX8_leave 32 = .ok (.invokevirtual 228, 3) := by decide +kernel
theorem dX8_leave_35 : decode cX8_leave 35 = .ok (.ireturn, 1) := by decide +kernel
theorem dX8_spare_0 : decode cX8_spare 0 = .ok (.iload_n 1, 1) := by decide +kernel
theorem dX8_spare_1 : decode cX8_spare 1 = .ok (.iconst (-1), 1) := by decide +kernel
theorem dX8_spare_2 : decode cX8_spare 2 = .ok (.if_icmp .lt 8, 3) := by decide +kernel
theorem dX8_spare_5 : decode cX8_spare 5 = .ok (.iload_n 1, 1) := by decide +kernel
theorem dX8_spare_6 : decode cX8_spare 6 = .ok (.iconst 1, 1) := by decide +kernel
theorem dX8_spare_7 : decode cX8_spare 7 = .ok (.if_icmp .le 6, 3) := by decide +kernel
theorem dX8_spare_10 : decode cX8_spare 10 = .ok (.bipush (-2), 2) := by decide +kernel
theorem dX8_spare_12 : decode cX8_spare 12 = .ok (.ireturn, 1) := by decide +kernel
theorem dX8_spare_13 : decode cX8_spare 13 = .ok (.aload_n 0, 1) := by decide +kernel
theorem dX8_spare_14 : decode cX8_spare 14 = .ok (.invokevirtual 121, 3) := by decide +kernel
theorem dX8_spare_17 : decode cX8_spare 17 = .ok (.aload_n 0, 1) := by decide +kernel
theorem dX8_spare_18 : decode cX8_spare 18 = .ok (.invokevirtual 231, 3) := by decide +kernel
theorem dX8_spare_21 : decode cX8_spare 21 = .ok (.aload_n 0, 1) := by decide +kernel
theorem dX8_spare_22 : decode cX8_spare 22 = .ok (.invokevirtual 234, 3) := by decide +kernel
theorem dX8_spare_25 : decode cX8_spare 25 = .ok (.aload_n 0, 1) := by decide +kernel
theorem dX8_spare_26 : decode cX8_spare 26 = .ok (.getfield 60, 3) := by decide +kernel
theorem dX8_spare_29 : decode cX8_spare 29 = .ok (.iload_n 1, 1) := by decide +kernel
theorem dX8_spare_30 : decode cX8_spare 30 = .ok (.invokevirtual 237, 3) := by decide +kernel
theorem dX8_spare_33 : decode cX8_spare 33 = .ok (.ireturn, 1) := by decide +kernel
theorem dX8_seen_0 : decode cX8_seen 0 = .ok (.iload_n 1, 1) := by decide +kernel
theorem dX8_seen_1 : decode cX8_seen 1 = .ok (.invokestatic 179, 3) := by decide +kernel
theorem dX8_seen_4 : decode cX8_seen 4 = .ok (.ifCond .eq 20, 3) := by decide +kernel
theorem dX8_seen_7 : decode cX8_seen 7 = .ok (.iload_n 2, 1) := by decide +kernel
theorem dX8_seen_8 : decode cX8_seen 8 = .ok (.bipush 8, 2) := by decide +kernel
theorem dX8_seen_10 : decode cX8_seen 10 = .ok (.invokestatic 133, 3) := by decide +kernel
theorem dX8_seen_13 : decode cX8_seen 13 = .ok (.ifCond .eq 11, 3) := by decide +kernel
theorem dX8_seen_16 : decode cX8_seen 16 = .ok (.iload_n 3, 1) := by decide +kernel
theorem dX8_seen_17 : decode cX8_seen 17 = .ok (.iconst 2, 1) := by decide +kernel
theorem dX8_seen_18 : decode cX8_seen 18 = .ok (.invokestatic 133, 3) := by decide +kernel
theorem dX8_seen_21 : decode cX8_seen 21 = .ok (.ifCond .ne 6, 3) := by decide +kernel
theorem dX8_seen_24 : decode cX8_seen 24 = .ok (.bipush (-2), 2) := by decide +kernel
theorem dX8_seen_26 : decode cX8_seen 26 = .ok (.ireturn, 1) := by decide +kernel
theorem dX8_seen_27 : decode cX8_seen 27 = .ok (.aload_n 0, 1) := by decide +kernel
theorem dX8_seen_28 : decode cX8_seen 28 = .ok (.getfield 28, 3) := by decide +kernel
theorem dX8_seen_31 : decode cX8_seen 31 = .ok (.invokevirtual 150, 3) := by decide +kernel
theorem dX8_seen_34 : decode cX8_seen 34 = .ok (.ifCond .eq 6, 3) := by decide +kernel
theorem dX8_seen_37 : decode cX8_seen 37 = .ok (.bipush (-4), 2) := by decide +kernel
theorem dX8_seen_39 : decode cX8_seen 39 = .ok (.ireturn, 1) := by decide +kernel
theorem dX8_seen_40 : decode cX8_seen 40 = .ok (.aload_n 0, 1) := by decide +kernel
theorem dX8_seen_41 : decode cX8_seen 41 = .ok (.getfield 28, 3) := by decide +kernel
theorem dX8_seen_44 : decode cX8_seen 44 = .ok (.iload_n 1, 1) := by decide +kernel
theorem dX8_seen_45 : decode cX8_seen 45 = .ok (.iload_n 2, 1) := by decide +kernel
theorem dX8_seen_46 : decode cX8_seen 46 = .ok (.iload_n 3, 1) := by decide +kernel
theorem dX8_seen_47 : decode cX8_seen 47 = .ok (.invokevirtual 154, 3) := by decide +kernel
theorem dX8_seen_50 : decode cX8_seen 50 = .ok (.aload_n 0, 1) := by decide +kernel
theorem dX8_seen_51 : decode cX8_seen 51 = .ok (.getfield 28, 3) := by decide +kernel
theorem dX8_seen_54 : decode cX8_seen 54 = .ok (.getfield 158, 3) := by decide +kernel
theorem dX8_seen_57 : decode cX8_seen 57 = .ok (.ireturn, 1) := by decide +kernel
theorem dX8_forget_0 : decode cX8_forget 0 = .ok (.aload_n 0, 1) := by decide +kernel
theorem dX8_forget_1 : decode cX8_forget 1 = .ok (.getfield 28, 3) := by decide +kernel
theorem dX8_forget_4 : decode cX8_forget 4 = .ok (.getfield 158, 3) := by decide +kernel
theorem dX8_forget_7 : decode cX8_forget 7 = .ok (.istore_n 1, 1) := by decide +kernel
theorem dX8_forget_8 : decode cX8_forget 8 = .ok (.aload_n 0, 1) := by decide +kernel
theorem dX8_forget_9 : decode cX8_forget 9 = .ok (.getfield 28, 3) := by decide +kernel
theorem dX8_forget_12 : decode cX8_forget 12 = .ok (.iconst 0, 1) := by decide +kernel
theorem dX8_forget_13 : decode cX8_forget 13 = .ok (.putfield 158, 3) := by decide +kernel
theorem dX8_forget_16 : decode cX8_forget 16 = .ok (.iload_n 1, 1) := by decide +kernel
theorem dX8_forget_17 : decode cX8_forget 17 = .ok (.ireturn, 1) := by decide +kernel
theorem dX8_never_0 : decode cX8_never 0 = .ok (.aload_n 0, 1) := by decide +kernel
theorem dX8_never_1 : decode cX8_never 1 = .ok (.invokevirtual 121, 3) := by decide +kernel
theorem dX8_never_4 : decode cX8_never 4 = .ok (.aload_n 0, 1) := by decide +kernel
theorem dX8_never_5 : decode cX8_never 5 = .ok (.invokevirtual 240, 3) := by decide +kernel
theorem dX8_never_8 : decode cX8_never 8 = .ok (.ireturn, 1) := by decide +kernel
theorem dX8_was_0 : decode cX8_was 0 = .ok (.aload_n 0, 1) := by decide +kernel
theorem dX8_was_1 : decode cX8_was 1 = .ok (.invokevirtual 121, 3) := by decide +kernel
theorem dX8_was_4 : decode cX8_was 4 = .ok (.aload_n 0, 1) := by decide +kernel
theorem dX8_was_5 : decode cX8_was 5 = .ok (.iload_n 1, 1) := by decide +kernel
theorem dX8_was_6 : decode cX8_was 6 = .ok (.invokevirtual 130, 3) := by decide +kernel
theorem dX8_was_9 : decode cX8_was 9 = .ok (.ifCond .eq 11, 3) := by decide +kernel
theorem dX8_was_12 : decode cX8_was 12 = .ok (.iload_n 2, 1) := by decide +kernel
theorem dX8_was_13 : decode cX8_was 13 = .ok (.iconst 2, 1) := by decide +kernel
theorem dX8_was_14 : decode cX8_was 14 = .ok (.invokestatic 133, 3) := by decide +kernel
theorem dX8_was_17 : decode cX8_was 17 = .ok (.ifCond .ne 6, 3) := by decide +kernel
theorem dX8_was_20 : decode cX8_was 20 = .ok (.bipush (-2), 2) := by decide +kernel
theorem dX8_was_22 : decode cX8_was 22 = .ok (.ireturn, 1) := by decide +kernel
theorem dX8_was_23 : decode cX8_was 23 = .ok (.iload_n 2, 1) := by decide +kernel
theorem dX8_was_24 : decode cX8_was 24 = .ok (.iconst 1, 1) := by decide +kernel
theorem dX8_was_25 : decode cX8_was 25 = .ok (.if_icmp .ne 9, 3) := by decide +kernel
theorem dX8_was_28 : decode cX8_was 28 = .ok (.aload_n 0, 1) := by decide +kernel
theorem dX8_was_29 : decode cX8_was 29 = .ok (.iload_n 1, 1) := by decide +kernel
theorem dX8_was_30 : decode cX8_was 30 = .ok (.invokevirtual 243, 3) := by decide +kernel
theorem dX8_was_33 : decode cX8_was 33 = .ok (.ireturn, 1) := by decide +kernel
theorem dX8_was_34 : decode cX8_was 34 = .ok (.aload_n 0, 1) := by decide +kernel
theorem dX8_was_35 : decode cX8_was 35 = .ok (.iload_n 1, 1) := by decide +kernel
theorem dX8_was_36 : decode cX8_was 36 = .ok (.invokevirtual 246, 3) := by decide +kernel
theorem dX8_was_39 : decode cX8_was 39 = .ok (.aload_n 0, 1) := by decide +kernel
theorem dX8_was_40 : decode cX8_was 40 = .ok (.getfield 67, 3) := by decide +kernel
theorem dX8_was_43 : decode cX8_was 43 = .ok (.getfield 249, 3) := by decide +kernel
theorem dX8_was_46 : decode cX8_was 46 = .ok (.ireturn, 1) := by decide +kernel
theorem dX8_ask_0 : decode cX8_ask 0 = .ok (.aload_n 0, 1) := by decide +kernel
theorem dX8_ask_1 : decode cX8_ask 1 = .ok (.invokevirtual 121, 3) := by decide +kernel
theorem dX8_ask_4 : decode cX8_ask 4 = .ok (.aload_n 0, 1) := by decide +kernel
theorem dX8_ask_5 : decode cX8_ask 5 = .ok (.iload_n 1, 1) := by decide +kernel
theorem dX8_ask_6 : decode cX8_ask 6 = .ok (.invokevirtual 130, 3) := by decide +kernel
theorem dX8_ask_9 : decode cX8_ask 9 = .ok (.ifCond .ne 6, 3) := by decide +kernel
theorem dX8_ask_12 : decode cX8_ask 12 = .ok (.bipush (-2), 2) := by decide +kernel
theorem dX8_ask_14 : decode cX8_ask 14 = .ok (.ireturn, 1) := by decide +kernel
theorem dX8_ask_15 : decode cX8_ask 15 = .ok (.aload_n 0, 1) := by decide +kernel
theorem dX8_ask_16 : decode cX8_ask 16 = .ok (.iload_n 1, 1) := by decide +kernel
theorem dX8_ask_17 : decode cX8_ask 17 = .ok (.invokevirtual 246, 3) := by decide +kernel
theorem dX8_ask_20 : decode cX8_ask 20 = .ok (.aload_n 0, 1) := by decide +kernel
theorem dX8_ask_21 : decode cX8_ask 21 = .ok (.getfield 67, 3) := by decide +kernel
theorem dX8_ask_24 : decode cX8_ask 24 = .ok (.invokevirtual 252, 3) := by decide +kernel
theorem dX8_ask_27 : decode cX8_ask 27 = .ok (.ireturn, 1) := by decide +kernel
theorem dX8_chance_0 : decode cX8_chance 0 = .ok (.aload_n 0, 1) := by decide +kernel
theorem dX8_chance_1 : decode cX8_chance 1 = .ok (.invokevirtual 121, 3) := by decide +kernel
theorem dX8_chance_4 : decode cX8_chance 4 = .ok (.iload_n 1, 1) := by decide +kernel
theorem dX8_chance_5 : decode cX8_chance 5 = .ok (.ifCond .lt 25, 3) := by decide +kernel
theorem dX8_chance_8 : decode cX8_chance 8 = .ok (.iload_n 1, 1) := by decide +kernel
theorem dX8_chance_9 : decode cX8_chance 9 = .ok (.bipush 16, 2) := by decide +kernel
theorem dX8_chance_11 : decode cX8_chance 11 = .ok (.if_icmp .gt 19, 3) := by decide +kernel
theorem dX8_chance_14 : decode cX8_chance 14 = .ok (.aload_n 0, 1) := by decide +kernel
theorem dX8_chance_15 : decode cX8_chance 15 = .ok (.iload_n 2, 1) := by decide +kernel
theorem dX8_chance_16 : decode cX8_chance 16 = .ok (.invokevirtual 130, 3) := by decide +kernel
theorem dX8_chance_19 : decode cX8_chance 19 = .ok (.ifCond .eq 11, 3) := by decide +kernel
theorem dX8_chance_22 : decode cX8_chance 22 = .ok (.iload_n 3, 1) := by decide +kernel
theorem dX8_chance_23 : decode cX8_chance 23 = .ok (.iconst 2, 1) := by decide +kernel
theorem dX8_chance_24 : decode cX8_chance 24 = .ok (.invokestatic 133, 3) := by decide +kernel
theorem dX8_chance_27 : decode cX8_chance 27 = .ok (.ifCond .ne 7, 3) := by decide +kernel
theorem dX8_chance_30 : decode cX8_chance 30 = .ok (.ldc2_w 255, 3) := by decide +kernel
theorem dX8_chance_33 : decode cX8_chance 33 = .ok (.lreturn, 1) := by decide +kernel
theorem dX8_chance_34 : decode cX8_chance 34 = .ok (.aload_n 0, 1) := by decide +kernel
theorem dX8_chance_35 : decode cX8_chance 35 = .ok (.invokevirtual 231, 3) := by decide +kernel
theorem dX8_chance_38 : decode cX8_chance 38 = .ok (.aload_n 0, 1) := by decide +kernel
theorem dX8_chance_39 : decode cX8_chance 39 = .ok (.iload_n 1, 1) := by decide +kernel
theorem dX8_chance_40 : decode cX8_chance 40 = .ok (.iload_n 2, 1) := by decide +kernel
theorem dX8_chance_41 : decode cX8_chance 41 = .ok (.iload_n 3, 1) := by decide +kernel
theorem dX8_chance_42 : decode cX8_chance 42 = .ok (.invokevirtual 257, 3) := by decide +kernel
theorem dX8_chance_45 : decode cX8_chance 45 = .ok (.lreturn, 1) := by decide +kernel
theorem dX8_seasons_0 : decode cX8_seasons 0 = .ok (.iload_n 2, 1) := by decide +kernel
theorem dX8_seasons_1 : decode cX8_seasons 1 = .ok (.ifCond .lt 17, 3) := by decide +kernel
theorem dX8_seasons_4 : decode cX8_seasons 4 = .ok (.iload_n 2, 1) := by decide +kernel
theorem dX8_seasons_5 : decode cX8_seasons 5 = .ok (.bipush 8, 2) := by decide +kernel
theorem dX8_seasons_7 : decode cX8_seasons 7 = .ok (.if_icmp .gt 11, 3) := by decide +kernel
theorem dX8_seasons_10 : decode cX8_seasons 10 = .ok (.iload_n 3, 1) := by decide +kernel
theorem dX8_seasons_11 : decode cX8_seasons 11 = .ok (.iconst 2, 1) := by decide +kernel
theorem dX8_seasons_12 : decode cX8_seasons 12 = .ok (.invokestatic 133, 3) := by decide +kernel
theorem dX8_seasons_15 : decode cX8_seasons 15 = .ok (.ifCond .ne 6, 3) := by decide +kernel
theorem dX8_seasons_18 : decode cX8_seasons 18 = .ok (.bipush (-2), 2) := by decide +kernel
theorem dX8_seasons_20 : decode cX8_seasons 20 = .ok (.ireturn, 1) := by decide +kernel
theorem dX8_seasons_21 : decode cX8_seasons 21 = .ok (.aload_n 0, 1) := by decide +kernel
theorem dX8_seasons_22 : decode cX8_seasons 22 = .ok (.invokevirtual 121, 3) := by decide +kernel
theorem dX8_seasons_25 : decode cX8_seasons 25 = .ok (.aload_n 0, 1) := by decide +kernel
theorem dX8_seasons_26 : decode cX8_seasons 26 = .ok (.iload_n 1, 1) := by decide +kernel
theorem dX8_seasons_27 : decode cX8_seasons 27 = .ok (.iload_n 2, 1) := by decide +kernel
theorem dX8_seasons_28 : decode cX8_seasons 28 = .ok (.invokevirtual 261, 3) := by decide +kernel
theorem dX8_seasons_31 : decode cX8_seasons 31 = .ok (.iload_n 3, 1) := by decide +kernel
theorem dX8_seasons_32 : decode cX8_seasons 32 = .ok (.ifCond .ne 13, 3) := by decide +kernel
theorem dX8_seasons_35 : decode cX8_seasons 35 = .ok (.aload_n 0, 1) := by decide +kernel
theorem dX8_seasons_36 : decode cX8_seasons 36 = .ok (.getfield 54, 3) := by decide +kernel
theorem dX8_seasons_39 : decode cX8_seasons 39 = .ok (.getfield 265, 3) := by decide +kernel
theorem dX8_seasons_42 : decode cX8_seasons 42 = .ok (.goto 13, 3) := by decide +kernel
theorem dX8_seasons_45 : decode cX8_seasons 45 = .ok (.aload_n 0, 1) := by decide +kernel
theorem dX8_seasons_46 : decode cX8_seasons 46 = .ok (.getfield 54, 3) := by decide +kernel
theorem dX8_seasons_49 : decode cX8_seasons 49 = .ok (.getfield 268, 3) := by decide +kernel
theorem dX8_seasons_52 : decode cX8_seasons 52 = .ok (.invokestatic 271, 3) := by decide +kernel
theorem dX8_seasons_55 : decode cX8_seasons 55 = .ok (.ireturn, 1) := by decide +kernel
theorem dX8_sheet_0 : decode cX8_sheet 0 = .ok (.iload_n 1, 1) := by decide +kernel
theorem dX8_sheet_1 : decode cX8_sheet 1 = .ok (.invokestatic 161, 3) := by decide +kernel
theorem dX8_sheet_4 : decode cX8_sheet 4 = .ok (.ifCond .eq 17, 3) := by decide +kernel
theorem dX8_sheet_7 : decode cX8_sheet 7 = .ok (.iload_n 2, 1) := by decide +kernel
theorem dX8_sheet_8 : decode cX8_sheet 8 = .ok (.iconst 3, 1) := by decide +kernel
theorem dX8_sheet_9 : decode cX8_sheet 9 = .ok (.invokestatic 133, 3) := by decide +kernel
theorem dX8_sheet_12 : decode cX8_sheet 12 = .ok (.ifCond .eq 9, 3) := by decide +kernel
theorem dX8_sheet_15 : decode cX8_sheet 15 = .ok (.iload_n 3, 1) := by decide +kernel
theorem dX8_sheet_16 : decode cX8_sheet 16 = .ok (.bipush 60, 2) := by decide +kernel
theorem dX8_sheet_18 : decode cX8_sheet 18 = .ok (.if_icmp .le 6, 3) := by decide +kernel
theorem dX8_sheet_21 : decode cX8_sheet 21 = .ok (.bipush (-2), 2) := by decide +kernel
theorem dX8_sheet_23 : decode cX8_sheet 23 = .ok (.ireturn, 1) := by decide +kernel
theorem dX8_sheet_24 : decode cX8_sheet 24 = .ok (.iload_n 3, 1) := by decide +kernel
theorem dX8_sheet_25 : decode cX8_sheet 25 = .ok (.ifCond .ge 9, 3) := by decide +kernel
theorem dX8_sheet_28 : decode cX8_sheet 28 = .ok (.aload_n 0, 1) := by decide +kernel
theorem dX8_sheet_29 : decode cX8_sheet 29 = .ok (.iconst 5, 1) := by decide +kernel
theorem dX8_sheet_30 : decode cX8_sheet 30 = .ok (.invokevirtual 167, 3) := by decide +kernel
theorem dX8_sheet_33 : decode cX8_sheet 33 = .ok (.ireturn, 1) := by decide +kernel
theorem dX8_sheet_34 : decode cX8_sheet 34 = .ok (.aload_n 0, 1) := by decide +kernel
theorem dX8_sheet_35 : decode cX8_sheet 35 = .ok (.getfield 33, 3) := by decide +kernel
theorem dX8_sheet_38 : decode cX8_sheet 38 = .ok (.iload_n 1, 1) := by decide +kernel
theorem dX8_sheet_39 : decode cX8_sheet 39 = .ok (.aaload, 1) := by decide +kernel
theorem dX8_sheet_40 : decode cX8_sheet 40 = .ok (.iload_n 2, 1) := by decide +kernel
theorem dX8_sheet_41 : decode cX8_sheet 41 = .ok (.iload_n 3, 1) := by decide +kernel
theorem dX8_sheet_42 : decode cX8_sheet 42 = .ok (.invokevirtual 275, 3) := by decide +kernel
theorem dX8_sheet_45 : decode cX8_sheet 45 = .ok (.iload_n 3, 1) := by decide +kernel
theorem dX8_sheet_46 : decode cX8_sheet 46 = .ok (.ireturn, 1) := by decide +kernel
theorem dX8_lose_0 : decode cX8_lose 0 = .ok (.iload_n 1, 1) := by decide +kernel
theorem dX8_lose_1 : decode cX8_lose 1 = .ok (.invokestatic 161, 3) := by decide +kernel
theorem dX8_lose_4 : decode cX8_lose 4 = .ok (.ifCond .ne 6, 3) := by decide +kernel
theorem dX8_lose_7 : decode cX8_lose 7 = .ok (.bipush (-2), 2) := by decide +kernel
theorem dX8_lose_9 : decode cX8_lose 9 = .ok (.ireturn, 1) := by decide +kernel
theorem dX8_lose_10 : decode cX8_lose 10 = .ok (.aload_n 0, 1) := by decide +kernel
theorem dX8_lose_11 : decode cX8_lose 11 = .ok (.getfield 33, 3) := by decide +kernel
theorem dX8_lose_14 : decode cX8_lose 14 = .ok (.iload_n 1, 1) := by decide +kernel
theorem dX8_lose_15 : decode cX8_lose 15 = .ok (.aaload, 1) := by decide +kernel
theorem dX8_lose_16 : decode cX8_lose 16 = .ok (.invokevirtual 164, 3) := by decide +kernel
theorem dX8_lose_19 : decode cX8_lose 19 = .ok (.ifCond .eq 9, 3) := by decide +kernel
theorem dX8_lose_22 : decode cX8_lose 22 = .ok (.aload_n 0, 1) := by decide +kernel
theorem dX8_lose_23 : decode cX8_lose 23 = .ok (.iconst 1, 1) := by decide +kernel
theorem dX8_lose_24 : decode cX8_lose 24 = .ok (.invokevirtual 167, 3) := by decide +kernel
theorem dX8_lose_27 : decode cX8_lose 27 = .ok (.ireturn, 1) := by decide +kernel
theorem dX8_lose_28 : decode cX8_lose 28 = .ok (.aload_n 0, 1) := by decide +kernel
theorem dX8_lose_29 : decode cX8_lose 29 = .ok (.getfield 33, 3) := by decide +kernel
theorem dX8_lose_32 : decode cX8_lose 32 = .ok (.iload_n 1, 1) := by decide +kernel
theorem dX8_lose_33 : decode cX8_lose 33 = .ok (.aaload, 1) := by decide +kernel
theorem dX8_lose_34 : decode cX8_lose 34 = .ok (.getfield 171, 3) := by decide +kernel
theorem dX8_lose_37 : decode cX8_lose 37 = .ok (.istore_n 2, 1) := by decide +kernel
theorem dX8_lose_38 : decode cX8_lose 38 = .ok (.aload_n 0, 1) := by decide +kernel
theorem dX8_lose_39 : decode cX8_lose 39 = .ok (.getfield 33, 3) := by decide +kernel
theorem dX8_lose_42 : decode cX8_lose 42 = .ok (.iload_n 1, 1) := by decide +kernel
theorem dX8_lose_43 : decode cX8_lose 43 = .ok (.aaload, 1) := by decide +kernel
theorem dX8_lose_44 : decode cX8_lose 44 = .ok (.iconst (-1), 1) := by decide +kernel
theorem dX8_lose_45 : decode cX8_lose 45 = .ok (.putfield 171, 3) := by decide +kernel
theorem dX8_lose_48 : decode cX8_lose 48 = .ok (.iload_n 2, 1) := by decide +kernel
theorem dX8_lose_49 : decode cX8_lose 49 = .ok (.ireturn, 1) := by decide +kernel
theorem dX8_put_0 : decode cX8_put 0 = .ok (.iload_n 1, 1) := by decide +kernel
theorem dX8_put_1 : decode cX8_put 1 = .ok (.invokestatic 161, 3) := by decide +kernel
theorem dX8_put_4 : decode cX8_put 4 = .ok (.ifCond .eq 11, 3) := by decide +kernel
theorem dX8_put_7 : decode cX8_put 7 = .ok (.iload_n 2, 1) := by decide +kernel
theorem dX8_put_8 : decode cX8_put 8 = .ok (.iconst 3, 1) := by decide +kernel
theorem dX8_put_9 : decode cX8_put 9 = .ok (.invokestatic 133, 3) := by decide +kernel
theorem dX8_put_12 : decode cX8_put 12 = .ok (.ifCond .ne 6, 3) := by decide +kernel
theorem dX8_put_15 : decode cX8_put 15 = .ok (.bipush (-2), 2) := by decide +kernel
theorem dX8_put_17 : decode cX8_put 17 = .ok (.ireturn, 1) := by decide +kernel
theorem dX8_put_18 : decode cX8_put 18 = .ok (.aload_n 0, 1) := by decide +kernel
theorem dX8_put_19 : decode cX8_put 19 = .ok (.getfield 33, 3) := by decide +kernel
theorem dX8_put_22 : decode cX8_put 22 = .ok (.iload_n 1, 1) := by decide +kernel
theorem dX8_put_23 : decode cX8_put 23 = .ok (.aaload, 1) := by decide +kernel
theorem dX8_put_24 : decode cX8_put 24 = .ok (.iload_n 2, 1) := by decide +kernel
theorem dX8_put_25 : decode cX8_put 25 = .ok (.iload_n 3, 1) := by decide +kernel
theorem dX8_put_26 : decode cX8_put 26 = .ok (.invokevirtual 278, 3) := by decide +kernel
theorem dX8_put_29 : decode cX8_put 29 = .ok (.istore 5, 2) := by decide +kernel
theorem dX8_put_31 : decode cX8_put 31 = .ok (.iload 5, 2) := by decide +kernel
theorem dX8_put_33 : decode cX8_put 33 = .ok (.ifCond .eq 10, 3) := by decide +kernel
theorem dX8_put_36 : decode cX8_put 36 = .ok (.aload_n 0, 1) := by decide +kernel
theorem dX8_put_37 : decode cX8_put 37 = .ok (.iload 5, 2) := by decide +kernel
theorem dX8_put_39 : decode cX8_put 39 = .ok (.invokevirtual 167, 3) := by decide +kernel
theorem dX8_put_42 : decode cX8_put 42 = .ok (.ireturn, 1) := by decide +kernel
theorem dX8_put_43 : decode cX8_put 43 = .ok (.aload_n 0, 1) := by decide +kernel
theorem dX8_put_44 : decode cX8_put 44 = .ok (.getfield 33, 3) := by decide +kernel
theorem dX8_put_47 : decode cX8_put 47 = .ok (.iload_n 1, 1) := by decide +kernel
theorem dX8_put_48 : decode cX8_put 48 = .ok (.aaload, 1) := by decide +kernel
theorem dX8_put_49 : decode cX8_put 49 = .ok (.getfield 172, 3) := by decide +kernel
theorem dX8_put_52 : decode cX8_put 52 = .ok (.iload_n 3, 1) := by decide +kernel
theorem dX8_put_53 : decode cX8_put 53 = .ok (.aload_n 0, 1) := by decide +kernel
theorem dX8_put_54 : decode cX8_put 54 = .ok (.getfield 33, 3) := by decide +kernel
theorem dX8_put_57 : decode cX8_put 57 = .ok (.iload_n 1, 1) := by decide +kernel
theorem dX8_put_58 : decode cX8_put 58 = .ok (.aaload, 1) := by decide +kernel
theorem dX8_put_59 : decode cX8_put 59 = .ok (.iload 4, 2) := by decide +kernel
theorem dX8_put_61 : decode cX8_put 61 = .ok (.invokevirtual 281, 3) := by decide +kernel
theorem dX8_put_64 : decode cX8_put 64 = .ok (.iastore, 1) := by decide +kernel
theorem dX8_put_65 : decode cX8_put 65 = .ok (.iconst 1, 1) := by decide +kernel
theorem dX8_put_66 : decode cX8_put 66 = .ok (.ireturn, 1) := by decide +kernel
theorem dX8_get_0 : decode cX8_get 0 = .ok (.iload_n 1, 1) := by decide +kernel
theorem dX8_get_1 : decode cX8_get 1 = .ok (.invokestatic 161, 3) := by decide +kernel
theorem dX8_get_4 : decode cX8_get 4 = .ok (.ifCond .eq 11, 3) := by decide +kernel
theorem dX8_get_7 : decode cX8_get 7 = .ok (.iload_n 2, 1) := by decide +kernel
theorem dX8_get_8 : decode cX8_get 8 = .ok (.iconst 3, 1) := by decide +kernel
theorem dX8_get_9 : decode cX8_get 9 = .ok (.invokestatic 133, 3) := by decide +kernel
theorem dX8_get_12 : decode cX8_get 12 = .ok (.ifCond .ne 7, 3) := by decide +kernel
theorem dX8_get_15 : decode cX8_get 15 = .ok (.ldc_w 284, 3) := by decide +kernel
theorem dX8_get_18 : decode cX8_get 18 = .ok (.ireturn, 1) := by decide +kernel
theorem dX8_get_19 : decode cX8_get 19 = .ok (.aload_n 0, 1) := by decide +kernel
theorem dX8_get_20 : decode cX8_get 20 = .ok (.getfield 33, 3) := by decide +kernel
theorem dX8_get_23 : decode cX8_get 23 = .ok (.iload_n 1, 1) := by decide +kernel
theorem dX8_get_24 : decode cX8_get 24 = .ok (.aaload, 1) := by decide +kernel
theorem dX8_get_25 : decode cX8_get 25 = .ok (.iload_n 2, 1) := by decide +kernel
theorem dX8_get_26 : decode cX8_get 26 = .ok (.iload_n 3, 1) := by decide +kernel
theorem dX8_get_27 : decode cX8_get 27 = .ok (.invokevirtual 278, 3) := by decide +kernel
theorem dX8_get_30 : decode cX8_get 30 = .ok (.istore 4, 2) := by decide +kernel
theorem dX8_get_32 : decode cX8_get 32 = .ok (.iload 4, 2) := by decide +kernel
theorem dX8_get_34 : decode cX8_get 34 = .ok (.ifCond .eq 13, 3) := by decide +kernel
theorem dX8_get_37 : decode cX8_get 37 = .ok (.aload_n 0, 1) := by decide +kernel
theorem dX8_get_38 : decode cX8_get 38 = .ok (.iload 4, 2) := by decide +kernel
theorem dX8_get_40 : decode cX8_get 40 = .ok (.putfield 89, 3) := by decide +kernel
theorem dX8_get_43 : decode cX8_get 43 = .ok (.ldc_w 284, 3) := by decide +kernel
theorem dX8_get_46 : decode cX8_get 46 = .ok (.ireturn, 1) := by decide +kernel
theorem dX8_get_47 : decode cX8_get 47 = .ok (.aload_n 0, 1) := by decide +kernel
theorem dX8_get_48 : decode cX8_get 48 = .ok (.getfield 33, 3) := by decide +kernel
theorem dX8_get_51 : decode cX8_get 51 = .ok (.iload_n 1, 1) := by decide +kernel
theorem dX8_get_52 : decode cX8_get 52 = .ok (.aaload, 1) := by decide +kernel
theorem dX8_get_53 : decode cX8_get 53 = .ok (.getfield 172, 3) := by decide +kernel
theorem dX8_get_56 : decode cX8_get 56 = .ok (.iload_n 3, 1) := by decide +kernel
theorem dX8_get_57 : decode cX8_get 57 = .ok (.iaload, 1) := by decide +kernel
theorem dX8_get_58 : decode cX8_get 58 = .ok (.ireturn, 1) := by decide +kernel
theorem dX8_copy_0 : decode cX8_copy 0 = .ok (.iload_n 1, 1) := by decide +kernel
theorem dX8_copy_1 : decode cX8_copy 1 = .ok (.invokestatic 161, 3) := by decide +kernel
theorem dX8_copy_4 : decode cX8_copy 4 = .ok (.ifCond .eq 10, 3) := by decide +kernel
theorem dX8_copy_7 : decode cX8_copy 7 = .ok (.iload_n 3, 1) := by decide +kernel
theorem dX8_copy_8 : decode cX8_copy 8 = .ok (.invokestatic 161, 3) := by decide +kernel
theorem dX8_copy_11 : decode cX8_copy 11 = .ok (.ifCond .ne 6, 3) := by decide +kernel
theorem dX8_copy_14 : decode cX8_copy 14 = .ok (.bipush (-2), 2) := by decide +kernel
theorem dX8_copy_16 : decode cX8_copy 16 = .ok (.ireturn, 1) := by decide +kernel
theorem dX8_copy_17 : decode cX8_copy 17 = .ok (.aload_n 0, 1) := by decide +kernel
theorem dX8_copy_18 : decode cX8_copy 18 = .ok (.getfield 33, 3) := by decide +kernel
theorem dX8_copy_21 : decode cX8_copy 21 = .ok (.iload_n 1, 1) := by decide +kernel
theorem dX8_copy_22 : decode cX8_copy 22 = .ok (.aaload, 1) := by decide +kernel
theorem dX8_copy_23 : decode cX8_copy 23 = .ok (.astore 6, 2) := by decide +kernel
theorem dX8_copy_25 : decode cX8_copy 25 = .ok (.aload_n 0, 1) := by decide +kernel
theorem dX8_copy_26 : decode cX8_copy 26 = .ok (.getfield 33, 3) := by decide +kernel
theorem dX8_copy_29 : decode cX8_copy 29 = .ok (.iload_n 3, 1) := by decide +kernel
theorem dX8_copy_30 : decode cX8_copy 30 = .ok (.aaload, 1) := by decide +kernel
theorem dX8_copy_31 : decode cX8_copy 31 = .ok (.astore 7, 2) := by decide +kernel
theorem dX8_copy_33 : decode cX8_copy 33 = .ok (.aload 6, 2) := by decide +kernel
theorem dX8_copy_35 : decode cX8_copy 35 = .ok (.invokevirtual 164, 3) := by decide +kernel
theorem dX8_copy_38 : decode cX8_copy 38 = .ok (.ifCond .ne 11, 3) := by decide +kernel
theorem dX8_copy_41 : decode cX8_copy 41 = .ok (.aload 7, 2) := by decide +kernel
theorem dX8_copy_43 : decode cX8_copy 43 = .ok (.invokevirtual 164, 3) := by decide +kernel
theorem dX8_copy_46 : decode cX8_copy 46 = .ok (.ifCond .eq 9, 3) := by decide +kernel
theorem dX8_copy_49 : decode cX8_copy 49 = .ok (.aload_n 0, 1) := by decide +kernel
theorem dX8_copy_50 : decode cX8_copy 50 = .ok (.iconst 1, 1) := by decide +kernel
theorem dX8_copy_51 : decode cX8_copy 51 = .ok (.invokevirtual 167, 3) := by decide +kernel
theorem dX8_copy_54 : decode cX8_copy 54 = .ok (.ireturn, 1) := by decide +kernel
theorem dX8_copy_55 : decode cX8_copy 55 = .ok (.aload 6, 2) := by decide +kernel
theorem dX8_copy_57 : decode cX8_copy 57 = .ok (.getfield 285, 3) := by decide +kernel
theorem dX8_copy_60 : decode cX8_copy 60 = .ok (.aload 7, 2) := by decide +kernel
theorem dX8_copy_62 : decode cX8_copy 62 = .ok (.getfield 285, 3) := by decide +kernel
theorem dX8_copy_65 : decode cX8_copy 65 = .ok (.if_icmp .eq 9, 3) := by decide +kernel
theorem dX8_copy_68 : decode cX8_copy 68 = .ok (.aload_n 0, 1) := by decide +kernel
theorem dX8_copy_69 : decode cX8_copy 69 = .ok (.iconst 4, 1) := by decide +kernel
theorem dX8_copy_70 : decode cX8_copy 70 = .ok (.invokevirtual 167, 3) := by decide +kernel
theorem dX8_copy_73 : decode cX8_copy 73 = .ok (.ireturn, 1) := by decide +kernel
theorem dX8_copy_74 : decode cX8_copy 74 = .ok (.aload 6, 2) := by decide +kernel
theorem dX8_copy_76 : decode cX8_copy 76 = .ok (.iload_n 2, 1) := by decide +kernel
theorem dX8_copy_77 : decode cX8_copy 77 = .ok (.iload 5, 2) := by decide +kernel
theorem dX8_copy_79 : decode cX8_copy 79 = .ok (.invokevirtual 288, 3) := by decide +kernel
theorem dX8_copy_82 : decode cX8_copy 82 = .ok (.ifCond .eq 15, 3) := by decide +kernel
theorem dX8_copy_85 : decode cX8_copy 85 = .ok (.aload 7, 2) := by decide +kernel
theorem dX8_copy_87 : decode cX8_copy 87 = .ok (.iload 4, 2) := by decide +kernel
theorem dX8_copy_89 : decode cX8_copy 89 = .ok (.iload 5, 2) := by decide +kernel
theorem dX8_copy_91 : decode cX8_copy 91 = .ok (.invokevirtual 288, 3) := by decide +kernel
theorem dX8_copy_94 : decode cX8_copy 94 = .ok (.ifCond .ne 9, 3) := by decide +kernel
theorem dX8_copy_97 : decode cX8_copy 97 = .ok (.aload_n 0, 1) := by decide +kernel
theorem dX8_copy_98 : decode cX8_copy 98 = .ok (.iconst 2, 1) := by decide +kernel
theorem dX8_copy_99 : decode cX8_copy 99 = .ok (.invokevirtual 167, 3) := by decide +kernel
theorem dX8_copy_102 : decode cX8_copy 102 = .ok (.ireturn, 1) := by decide +kernel
theorem dX8_copy_103 : decode cX8_copy 103 = .ok (.aload 6, 2) := by decide +kernel
theorem dX8_copy_105 : decode cX8_copy 105 = .ok (.getfield 172, 3) := by decide +kernel
theorem dX8_copy_108 : decode cX8_copy 108 = .ok (.iload_n 2, 1) := by decide +kernel
theorem dX8_copy_109 : decode cX8_copy 109 = .ok (.aload 7, 2) := by decide +kernel
theorem dX8_copy_111 : decode cX8_copy 111 = .ok (.getfield 172, 3) := by decide +kernel
theorem dX8_copy_114 : decode cX8_copy 114 = .ok (.iload 4, 2) := by decide +kernel
theorem dX8_copy_116 : decode cX8_copy 116 = .ok (.iload 5, 2) := by decide +kernel
theorem dX8_copy_118 : decode cX8_copy 118 = .ok (.invokestatic 291, 3) := by decide +kernel
theorem dX8_copy_121 : decode cX8_copy 121 = .ok (.iconst 1, 1) := by decide +kernel
theorem dX8_copy_122 : decode cX8_copy 122 = .ok (.ireturn, 1) := by decide +kernel
theorem dX8_write_0 : decode cX8_write 0 = .ok (.iload_n 1, 1) := by decide +kernel
theorem dX8_write_1 : decode cX8_write 1 = .ok (.invokestatic 179, 3) := by decide +kernel
theorem dX8_write_4 : decode cX8_write 4 = .ok (.ifCond .eq 10, 3) := by decide +kernel
theorem dX8_write_7 : decode cX8_write 7 = .ok (.iload_n 2, 1) := by decide +kernel
theorem dX8_write_8 : decode cX8_write 8 = .ok (.invokestatic 161, 3) := by decide +kernel
theorem dX8_write_11 : decode cX8_write 11 = .ok (.ifCond .ne 6, 3) := by decide +kernel
theorem dX8_write_14 : decode cX8_write 14 = .ok (.bipush (-2), 2) := by decide +kernel
theorem dX8_write_16 : decode cX8_write 16 = .ok (.ireturn, 1) := by decide +kernel
theorem dX8_write_17 : decode cX8_write 17 = .ok (.aload_n 0, 1) := by decide +kernel
theorem dX8_write_18 : decode cX8_write 18 = .ok (.getfield 33, 3) := by decide +kernel
theorem dX8_write_21 : decode cX8_write 21 = .ok (.iload_n 2, 1) := by decide +kernel
theorem dX8_write_22 : decode cX8_write 22 = .ok (.aaload, 1) := by decide +kernel
theorem dX8_write_23 : decode cX8_write 23 = .ok (.astore_n 3, 1) := by decide +kernel
theorem dX8_write_24 : decode cX8_write 24 = .ok (.aload_n 3, 1) := by decide +kernel
theorem dX8_write_25 : decode cX8_write 25 = .ok (.invokevirtual 164, 3) := by decide +kernel
theorem dX8_write_28 : decode cX8_write 28 = .ok (.ifCond .eq 9, 3) := by decide +kernel
theorem dX8_write_31 : decode cX8_write 31 = .ok (.aload_n 0, 1) := by decide +kernel
theorem dX8_write_32 : decode cX8_write 32 = .ok (.iconst 1, 1) := by decide +kernel
theorem dX8_write_33 : decode cX8_write 33 = .ok (.invokevirtual 167, 3) := by decide +kernel
theorem dX8_write_36 : decode cX8_write 36 = .ok (.ireturn, 1) := by decide +kernel
theorem dX8_write_37 : decode cX8_write 37 = .ok (.aload_n 0, 1) := by decide +kernel
theorem dX8_write_38 : decode cX8_write 38 = .ok (.invokevirtual 121, 3) := by decide +kernel
theorem dX8_write_41 : decode cX8_write 41 = .ok (.aload_n 3, 1) := by decide +kernel
theorem dX8_write_42 : decode cX8_write 42 = .ok (.getfield 171, 3) := by decide +kernel
theorem dX8_write_45 : decode cX8_write 45 = .ok (.aload_n 0, 1) := by decide +kernel
theorem dX8_write_46 : decode cX8_write 46 = .ok (.getfield 40, 3) := by decide +kernel
theorem dX8_write_49 : decode cX8_write 49 = .ok (.getfield 297, 3) := by decide +kernel
theorem dX8_write_52 : decode cX8_write 52 = .ok (.invokestatic 300, 3) := by decide +kernel
theorem dX8_write_55 : decode cX8_write 55 = .ok (.istore 4, 2) := by decide +kernel
theorem dX8_write_57 : decode cX8_write 57 = .ok (.iconst 0, 1) := by decide +kernel
theorem dX8_write_58 : decode cX8_write 58 = .ok (.istore 5, 2) := by decide +kernel
theorem dX8_write_60 : decode cX8_write 60 = .ok (.iload 5, 2) := by decide +kernel
theorem dX8_write_62 : decode cX8_write 62 = .ok (.iload 4, 2) := by decide +kernel
theorem dX8_write_64 : decode cX8_write 64 = .ok (.if_icmp .ge 31, 3) := by decide +kernel
theorem dX8_write_67 : decode cX8_write 67 = .ok (.aload_n 3, 1) := by decide +kernel
theorem dX8_write_68 : decode cX8_write 68 = .ok (.getfield 172, 3) := by decide +kernel
theorem dX8_write_71 : decode cX8_write 71 = .ok (.iload 5, 2) := by decide +kernel
theorem dX8_write_73 : decode cX8_write 73 = .ok (.aload_n 0, 1) := by decide +kernel
theorem dX8_write_74 : decode cX8_write 74 = .ok (.getfield 50, 3) := by decide +kernel
theorem dX8_write_77 : decode cX8_write 77 = .ok (.getfield 188, 3) := by decide +kernel
theorem dX8_write_80 : decode cX8_write 80 = .ok (.iload_n 1, 1) := by decide +kernel
theorem dX8_write_81 : decode cX8_write 81 = .ok (.bipush 12, 2) := by decide +kernel
theorem dX8_write_83 : decode cX8_write 83 = .ok (.imul, 1) := by decide +kernel
theorem dX8_write_84 : decode cX8_write 84 = .ok (.iload 5, 2) := by decide +kernel
theorem dX8_write_86 : decode cX8_write 86 = .ok (.iadd, 1) := by decide +kernel
theorem dX8_write_87 : decode cX8_write 87 = .ok (.iaload, 1) := by decide +kernel
theorem dX8_write_88 : decode cX8_write 88 = .ok (.iastore, 1) := by decide +kernel
theorem dX8_write_89 : decode cX8_write 89 = .ok (.iinc 5 1, 3) := by decide +kernel
theorem dX8_write_92 : decode cX8_write 92 = .ok (.goto (-32), 3) := by decide +kernel
theorem dX8_write_95 : decode cX8_write 95 = .ok (.iload 4, 2) := by decide +kernel
theorem dX8_write_97 : decode cX8_write 97 = .ok (.ireturn, 1) := by decide +kernel
theorem dX8_count_0 : decode cX8_count 0 = .ok (.aload_n 0, 1) := by decide +kernel
theorem dX8_count_1 : decode cX8_count 1 = .ok (.invokevirtual 121, 3) := by decide +kernel
theorem dX8_count_4 : decode cX8_count 4 = .ok (.iload_n 1, 1) := by decide +kernel
theorem dX8_count_5 : decode cX8_count 5 = .ok (.tableswitch 123 0 8 #[51, 59, 67, 75, 83, 91, 99, 110, 118], 51) := by decide +kernel
theorem dX8_count_56 : decode cX8_count 56 = .ok (.aload_n 0, 1) := by decide +kernel
theorem dX8_count_57 : decode cX8_count 57 = .ok (.getfield 40, 3) := by decide +kernel
theorem dX8_count_60 : decode cX8_count 60 = .ok (.getfield 297, 3) := by decide +kernel
theorem dX8_count_63 : decode cX8_count 63 = .ok (.ireturn, 1) := by decide +kernel
theorem dX8_count_64 : decode cX8_count 64 = .ok (.aload_n 0, 1) := by decide +kernel
theorem dX8_count_65 : decode cX8_count 65 = .ok (.getfield 40, 3) := by decide +kernel
theorem dX8_count_68 : decode cX8_count 68 = .ok (.getfield 305, 3) := by decide +kernel
theorem dX8_count_71 : decode cX8_count 71 = .ok (.ireturn, 1) := by decide +kernel
theorem dX8_count_72 : decode cX8_count 72 = .ok (.aload_n 0, 1) := by decide +kernel
theorem dX8_count_73 : decode cX8_count 73 = .ok (.getfield 14, 3) := by decide +kernel
theorem dX8_count_76 : decode cX8_count 76 = .ok (.getfield 102, 3) := by decide +kernel
theorem dX8_count_79 : decode cX8_count 79 = .ok (.ireturn, 1) := by decide +kernel
theorem dX8_count_80 : decode cX8_count 80 = .ok (.aload_n 0, 1) := by decide +kernel
theorem dX8_count_81 : decode cX8_count 81 = .ok (.getfield 18, 3) := by decide +kernel
theorem dX8_count_84 : decode cX8_count 84 = .ok (.getfield 102, 3) := by decide +kernel
theorem dX8_count_87 : decode cX8_count 87 = .ok (.ireturn, 1) := by decide +kernel
theorem dX8_count_88 : decode cX8_count 88 = .ok (.aload_n 0, 1) := by decide +kernel
theorem dX8_count_89 : decode cX8_count 89 = .ok (.getfield 24, 3) := by decide +kernel
theorem dX8_count_92 : decode cX8_count 92 = .ok (.getfield 158, 3) := by decide +kernel
theorem dX8_count_95 : decode cX8_count 95 = .ok (.ireturn, 1) := by decide +kernel
theorem dX8_count_96 : decode cX8_count 96 = .ok (.aload_n 0, 1) := by decide +kernel
theorem dX8_count_97 : decode cX8_count 97 = .ok (.getfield 50, 3) := by decide +kernel
theorem dX8_count_100 : decode cX8_count 100 = .ok (.getfield 265, 3) := by decide +kernel
theorem dX8_count_103 : decode cX8_count 103 = .ok (.ireturn, 1) := by decide +kernel
theorem dX8_count_104 : decode cX8_count 104 = .ok (.aload_n 0, 1) := by decide +kernel
theorem dX8_count_105 : decode cX8_count 105 = .ok (.getfield 50, 3) := by decide +kernel
theorem dX8_count_108 : decode cX8_count 108 = .ok (.getfield 268, 3) := by decide +kernel
theorem dX8_count_111 : decode cX8_count 111 = .ok (.invokestatic 271, 3) := by decide +kernel
theorem dX8_count_114 : decode cX8_count 114 = .ok (.ireturn, 1) := by decide +kernel
theorem dX8_count_115 : decode cX8_count 115 = .ok (.aload_n 0, 1) := by decide +kernel
theorem dX8_count_116 : decode cX8_count 116 = .ok (.getfield 28, 3) := by decide +kernel
theorem dX8_count_119 : decode cX8_count 119 = .ok (.getfield 158, 3) := by decide +kernel
theorem dX8_count_122 : decode cX8_count 122 = .ok (.ireturn, 1) := by decide +kernel
theorem dX8_count_123 : decode cX8_count 123 = .ok (.aload_n 0, 1) := by decide +kernel
theorem dX8_count_124 : decode cX8_count 124 = .ok (.getfield 89, 3) := by decide +kernel
theorem dX8_count_127 : decode cX8_count 127 = .ok (.ireturn, 1) := by decide +kernel
theorem dX8_count_128 : decode cX8_count 128 = .ok (.bipush (-2), 2) := by decide +kernel
theorem dX8_count_130 : decode cX8_count 130 = .ok (.ireturn, 1) := by decide +kernel
theorem dX8_digest_0 : decode cX8_digest 0 = .ok (.aload_n 0, 1) := by decide +kernel
theorem dX8_digest_1 : decode cX8_digest 1 = .ok (.invokevirtual 121, 3) := by decide +kernel
theorem dX8_digest_4 : decode cX8_digest 4 = .ok (.aload_n 0, 1) := by decide +kernel
theorem dX8_digest_5 : decode cX8_digest 5 = .ok (.invokevirtual 231, 3) := by decide +kernel
theorem dX8_digest_8 : decode cX8_digest 8 = .ok (.ldc2_w 308, 3) := by decide +kernel
theorem dX8_digest_11 : decode cX8_digest 11 = .ok (.lstore_n 1, 1) := by decide +kernel
theorem dX8_digest_12 : decode cX8_digest 12 = .ok (.iconst 0, 1) := by decide +kernel
theorem dX8_digest_13 : decode cX8_digest 13 = .ok (.istore_n 3, 1) := by decide +kernel
theorem dX8_digest_14 : decode cX8_digest 14 = .ok (.iload_n 3, 1) := by decide +kernel
theorem dX8_digest_15 : decode cX8_digest 15 = .ok (.bipush 7, 2) := by decide +kernel
theorem dX8_digest_17 : decode cX8_digest 17 = .ok (.if_icmp .gt 22, 3) := by decide +kernel
theorem dX8_digest_20 : decode cX8_digest 20 = .ok (.ldc2_w 310, 3) := by decide +kernel
theorem dX8_digest_23 : decode cX8_digest 23 = .ok (.lload_n 1, 1) := by decide +kernel
theorem dX8_digest_24 : decode cX8_digest 24 = .ok (.lmul, 1) := by decide +kernel
theorem dX8_digest_25 : decode cX8_digest 25 = .ok (.aload_n 0, 1) := by decide +kernel
theorem dX8_digest_26 : decode cX8_digest 26 = .ok (.iload_n 3, 1) := by decide +kernel
theorem dX8_digest_27 : decode cX8_digest 27 = .ok (.invokevirtual 312, 3) := by decide +kernel
theorem dX8_digest_30 : decode cX8_digest 30 = .ok (.i2l, 1) := by decide +kernel
theorem dX8_digest_31 : decode cX8_digest 31 = .ok (.ladd, 1) := by decide +kernel
theorem dX8_digest_32 : decode cX8_digest 32 = .ok (.lstore_n 1, 1) := by decide +kernel
theorem dX8_digest_33 : decode cX8_digest 33 = .ok (.iinc 3 1, 3) := by decide +kernel
theorem dX8_digest_36 : decode cX8_digest 36 = .ok (.goto (-22), 3) := by decide +kernel
theorem dX8_digest_39 : decode cX8_digest 39 = .ok (.ldc2_w 310, 3) := by decide +kernel
theorem dX8_digest_42 : decode cX8_digest 42 = .ok (.lload_n 1, 1) := by decide +kernel
theorem dX8_digest_43 : decode cX8_digest 43 = .ok (.lmul, 1) := by decide +kernel
theorem dX8_digest_44 : decode cX8_digest 44 = .ok (.aload_n 0, 1) := by decide +kernel
theorem dX8_digest_45 : decode cX8_digest 45 = .ok (.iconst 0, 1) := by decide +kernel
theorem dX8_digest_46 : decode cX8_digest 46 = .ok (.invokevirtual 315, 3) := by decide +kernel
theorem dX8_digest_49 : decode cX8_digest 49 = .ok (.i2l, 1) := by decide +kernel
theorem dX8_digest_50 : decode cX8_digest 50 = .ok (.ladd, 1) := by decide +kernel
theorem dX8_digest_51 : decode cX8_digest 51 = .ok (.lstore_n 1, 1) := by decide +kernel
theorem dX8_digest_52 : decode cX8_digest 52 = .ok (.ldc2_w 310, 3) := by decide +kernel
theorem dX8_digest_55 : decode cX8_digest 55 = .ok (.lload_n 1, 1) := by decide +kernel
theorem dX8_digest_56 : decode cX8_digest 56 = .ok (.lmul, 1) := by decide +kernel
theorem dX8_digest_57 : decode cX8_digest 57 = .ok (.aload_n 0, 1) := by decide +kernel
theorem dX8_digest_58 : decode cX8_digest 58 = .ok (.iconst 1, 1) := by decide +kernel
theorem dX8_digest_59 : decode cX8_digest 59 = .ok (.invokevirtual 315, 3) := by decide +kernel
theorem dX8_digest_62 : decode cX8_digest 62 = .ok (.i2l, 1) := by decide +kernel
theorem dX8_digest_63 : decode cX8_digest 63 = .ok (.ladd, 1) := by decide +kernel
theorem dX8_digest_64 : decode cX8_digest 64 = .ok (.lstore_n 1, 1) := by decide +kernel
theorem dX8_digest_65 : decode cX8_digest 65 = .ok (.iconst 0, 1) := by decide +kernel
theorem dX8_digest_66 : decode cX8_digest 66 = .ok (.istore_n 3, 1) := by decide +kernel
theorem dX8_digest_67 : decode cX8_digest 67 = .ok (.iload_n 3, 1) := by decide +kernel
theorem dX8_digest_68 : decode cX8_digest 68 = .ok (.aload_n 0, 1) := by decide +kernel
theorem dX8_digest_69 : decode cX8_digest 69 = .ok (.getfield 40, 3) := by decide +kernel
theorem dX8_digest_72 : decode cX8_digest 72 = .ok (.getfield 297, 3) := by decide +kernel
theorem dX8_digest_75 : decode cX8_digest 75 = .ok (.if_icmp .ge 16, 3) := by decide +kernel
theorem dX8_digest_78 : decode cX8_digest 78 = .ok (.aload_n 0, 1) := by decide +kernel
theorem dX8_digest_79 : decode cX8_digest 79 = .ok (.lload_n 1, 1) := by decide +kernel
theorem dX8_digest_80 : decode cX8_digest 80 = .ok (.iload_n 3, 1) := by decide +kernel
theorem dX8_digest_81 : decode cX8_digest 81 = .ok (.invokevirtual 318, 3) := by decide +kernel
theorem dX8_digest_84 : decode cX8_digest 84 = .ok (.lstore_n 1, 1) := by decide +kernel
theorem dX8_digest_85 : decode cX8_digest 85 = .ok (.iinc 3 1, 3) := by decide +kernel
theorem dX8_digest_88 : decode cX8_digest 88 = .ok (.goto (-21), 3) := by decide +kernel
theorem dX8_digest_91 : decode cX8_digest 91 = .ok (.iconst 0, 1) := by decide +kernel
theorem dX8_digest_92 : decode cX8_digest 92 = .ok (.istore_n 3, 1) := by decide +kernel
theorem dX8_digest_93 : decode cX8_digest 93 = .ok (.iload_n 3, 1) := by decide +kernel
theorem dX8_digest_94 : decode cX8_digest 94 = .ok (.bipush 12, 2) := by decide +kernel
theorem dX8_digest_96 : decode cX8_digest 96 = .ok (.if_icmp .ge 16, 3) := by decide +kernel
theorem dX8_digest_99 : decode cX8_digest 99 = .ok (.aload_n 0, 1) := by decide +kernel
theorem dX8_digest_100 : decode cX8_digest 100 = .ok (.lload_n 1, 1) := by decide +kernel
theorem dX8_digest_101 : decode cX8_digest 101 = .ok (.iload_n 3, 1) := by decide +kernel
theorem dX8_digest_102 : decode cX8_digest 102 = .ok (.invokevirtual 322, 3) := by decide +kernel
theorem dX8_digest_105 : decode cX8_digest 105 = .ok (.lstore_n 1, 1) := by decide +kernel
theorem dX8_digest_106 : decode cX8_digest 106 = .ok (.iinc 3 1, 3) := by decide +kernel
theorem dX8_digest_109 : decode cX8_digest 109 = .ok (.goto (-16), 3) := by decide +kernel
theorem dX8_digest_112 : decode cX8_digest 112 = .ok (.iconst 0, 1) := by decide +kernel
theorem dX8_digest_113 : decode cX8_digest 113 = .ok (.istore_n 3, 1) := by decide +kernel
theorem dX8_digest_114 : decode cX8_digest 114 = .ok (.iload_n 3, 1) := by decide +kernel
theorem dX8_digest_115 : decode cX8_digest 115 = .ok (.aload_n 0, 1) := by decide +kernel
theorem dX8_digest_116 : decode cX8_digest 116 = .ok (.getfield 40, 3) := by decide +kernel
theorem dX8_digest_119 : decode cX8_digest 119 = .ok (.getfield 305, 3) := by decide +kernel
theorem dX8_digest_122 : decode cX8_digest 122 = .ok (.if_icmp .ge 16, 3) := by decide +kernel
theorem dX8_digest_125 : decode cX8_digest 125 = .ok (.aload_n 0, 1) := by decide +kernel
theorem dX8_digest_126 : decode cX8_digest 126 = .ok (.lload_n 1, 1) := by decide +kernel
theorem dX8_digest_127 : decode cX8_digest 127 = .ok (.iload_n 3, 1) := by decide +kernel
theorem dX8_digest_128 : decode cX8_digest 128 = .ok (.invokevirtual 325, 3) := by decide +kernel
theorem dX8_digest_131 : decode cX8_digest 131 = .ok (.lstore_n 1, 1) := by decide +kernel
theorem dX8_digest_132 : decode cX8_digest 132 = .ok (.iinc 3 1, 3) := by decide +kernel
theorem dX8_digest_135 : decode cX8_digest 135 = .ok (.goto (-21), 3) := by decide +kernel
theorem dX8_digest_138 : decode cX8_digest 138 = .ok (.aload_n 0, 1) := by decide +kernel
theorem dX8_digest_139 : decode cX8_digest 139 = .ok (.lload_n 1, 1) := by decide +kernel
theorem dX8_digest_140 : decode cX8_digest 140 = .ok (.invokevirtual 328, 3) := by decide +kernel
theorem dX8_digest_143 : decode cX8_digest 143 = .ok (.lstore_n 1, 1) := by decide +kernel
theorem dX8_digest_144 : decode cX8_digest 144 = .ok (.aload_n 0, 1) := by decide +kernel
theorem dX8_digest_145 : decode cX8_digest 145 = .ok (.lload_n 1, 1) := by decide +kernel
theorem dX8_digest_146 : decode cX8_digest 146 = .ok (.invokevirtual 332, 3) := by decide +kernel
theorem dX8_digest_149 : decode cX8_digest 149 = .ok (.lreturn, 1) := by decide +kernel
theorem dX8_foldHook_0 : decode cX8_foldHook 0 = .ok (.ldc2_w 310, 3) := by decide +kernel
theorem dX8_foldHook_3 : decode cX8_foldHook 3 = .ok (.lload_n 1, 1) := by decide +kernel
theorem dX8_foldHook_4 : decode cX8_foldHook 4 = .ok (.lmul, 1) := by decide +kernel
theorem dX8_foldHook_5 : decode cX8_foldHook 5 = .ok (.aload_n 0, 1) := by decide +kernel
theorem dX8_foldHook_6 : decode cX8_foldHook 6 = .ok (.getfield 40, 3) := by decide +kernel
theorem dX8_foldHook_9 : decode cX8_foldHook 9 = .ok (.getfield 127, 3) := by decide +kernel
theorem dX8_foldHook_12 : decode cX8_foldHook 12 = .ok (.iload_n 3, 1) := by decide +kernel
theorem dX8_foldHook_13 : decode cX8_foldHook 13 = .ok (.iaload, 1) := by decide +kernel
theorem dX8_foldHook_14 : decode cX8_foldHook 14 = .ok (.i2l, 1) := by decide +kernel
theorem dX8_foldHook_15 : decode cX8_foldHook 15 = .ok (.ladd, 1) := by decide +kernel
theorem dX8_foldHook_16 : decode cX8_foldHook 16 = .ok (.lstore 4, 2) := by decide +kernel
theorem dX8_foldHook_18 : decode cX8_foldHook 18 = .ok (.ldc2_w 310, 3) := by decide +kernel
theorem dX8_foldHook_21 : decode cX8_foldHook 21 = .ok (.lload 4, 2) := by decide +kernel
theorem dX8_foldHook_23 : decode cX8_foldHook 23 = .ok (.lmul, 1) := by decide +kernel
theorem dX8_foldHook_24 : decode cX8_foldHook 24 = .ok (.aload_n 0, 1) := by decide +kernel
theorem dX8_foldHook_25 : decode cX8_foldHook 25 = .ok (.getfield 50, 3) := by decide +kernel
theorem dX8_foldHook_28 : decode cX8_foldHook 28 = .ok (.getfield 188, 3) := by decide +kernel
theorem dX8_foldHook_31 : decode cX8_foldHook 31 = .ok (.iload_n 3, 1) := by decide +kernel
theorem dX8_foldHook_32 : decode cX8_foldHook 32 = .ok (.iaload, 1) := by decide +kernel
theorem dX8_foldHook_33 : decode cX8_foldHook 33 = .ok (.i2l, 1) := by decide +kernel
theorem dX8_foldHook_34 : decode cX8_foldHook 34 = .ok (.ladd, 1) := by decide +kernel
theorem dX8_foldHook_35 : decode cX8_foldHook 35 = .ok (.lstore 4, 2) := by decide +kernel
theorem dX8_foldHook_37 : decode cX8_foldHook 37 = .ok (.ldc2_w 310, 3) := by decide +kernel
theorem dX8_foldHook_40 : decode cX8_foldHook 40 = .ok (.lload 4, 2) := by decide +kernel
theorem dX8_foldHook_42 : decode cX8_foldHook 42 = .ok (.lmul, 1) := by decide +kernel
theorem dX8_foldHook_43 : decode cX8_foldHook 43 = .ok (.aload_n 0, 1) := by decide +kernel
theorem dX8_foldHook_44 : decode cX8_foldHook 44 = .ok (.getfield 50, 3) := by decide +kernel
theorem dX8_foldHook_47 : decode cX8_foldHook 47 = .ok (.getfield 188, 3) := by decide +kernel
theorem dX8_foldHook_50 : decode cX8_foldHook 50 = .ok (.bipush 36, 2) := by decide +kernel
theorem dX8_foldHook_52 : decode cX8_foldHook 52 = .ok (.iload_n 3, 1) := by decide +kernel
theorem dX8_foldHook_53 : decode cX8_foldHook 53 = .ok (.iadd, 1) := by decide +kernel
theorem dX8_foldHook_54 : decode cX8_foldHook 54 = .ok (.iaload, 1) := by decide +kernel
theorem dX8_foldHook_55 : decode cX8_foldHook 55 = .ok (.i2l, 1) := by decide +kernel
theorem dX8_foldHook_56 : decode cX8_foldHook 56 = .ok (.ladd, 1) := by decide +kernel
theorem dX8_foldHook_57 : decode cX8_foldHook 57 = .ok (.lstore 4, 2) := by decide +kernel
theorem dX8_foldHook_59 : decode cX8_foldHook 59 = .ok (.ldc2_w 310, 3) := by decide +kernel
theorem dX8_foldHook_62 : decode cX8_foldHook 62 = .ok (.lload 4, 2) := by decide +kernel
theorem dX8_foldHook_64 : decode cX8_foldHook 64 = .ok (.lmul, 1) := by decide +kernel
theorem dX8_foldHook_65 : decode cX8_foldHook 65 = .ok (.aload_n 0, 1) := by decide +kernel
theorem dX8_foldHook_66 : decode cX8_foldHook 66 = .ok (.getfield 50, 3) := by decide +kernel
theorem dX8_foldHook_69 : decode cX8_foldHook 69 = .ok (.getfield 188, 3) := by decide +kernel
theorem dX8_foldHook_72 : decode cX8_foldHook 72 = .ok (.sipush 132, 3) := by decide +kernel
theorem dX8_foldHook_75 : decode cX8_foldHook 75 = .ok (.iload_n 3, 1) := by decide +kernel
theorem dX8_foldHook_76 : decode cX8_foldHook 76 = .ok (.iadd, 1) := by decide +kernel
theorem dX8_foldHook_77 : decode cX8_foldHook 77 = .ok (.iaload, 1) := by decide +kernel
theorem dX8_foldHook_78 : decode cX8_foldHook 78 = .ok (.i2l, 1) := by decide +kernel
theorem dX8_foldHook_79 : decode cX8_foldHook 79 = .ok (.ladd, 1) := by decide +kernel
theorem dX8_foldHook_80 : decode cX8_foldHook 80 = .ok (.lreturn, 1) := by decide +kernel
theorem dX8_foldEvening_0 : decode cX8_foldEvening 0 = .ok (.lload_n 1, 1) := by decide +kernel
theorem dX8_foldEvening_1 : decode cX8_foldEvening 1 = .ok (.lstore 4, 2) := by decide +kernel
theorem dX8_foldEvening_3 : decode cX8_foldEvening 3 = .ok (.iconst 0, 1) := by decide +kernel
theorem dX8_foldEvening_4 : decode cX8_foldEvening 4 = .ok (.istore 6, 2) := by decide +kernel
theorem dX8_foldEvening_6 : decode cX8_foldEvening 6 = .ok (.iload 6, 2) := by decide +kernel
theorem dX8_foldEvening_8 : decode cX8_foldEvening 8 = .ok (.iconst 4, 1) := by decide +kernel
theorem dX8_foldEvening_9 : decode cX8_foldEvening 9 = .ok (.if_icmp .ge 29, 3) := by decide +kernel
theorem dX8_foldEvening_12 : decode cX8_foldEvening 12 = .ok (.ldc2_w 310, 3) := by decide +kernel
theorem dX8_foldEvening_15 : decode cX8_foldEvening 15 = .ok (.lload 4, 2) := by decide +kernel
theorem dX8_foldEvening_17 : decode cX8_foldEvening 17 = .ok (.lmul, 1) := by decide +kernel
theorem dX8_foldEvening_18 : decode cX8_foldEvening 18 = .ok (.aload_n 0, 1) := by decide +kernel
theorem dX8_foldEvening_19 : decode cX8_foldEvening 19 = .ok (.getfield 50, 3) := by decide +kernel
theorem dX8_foldEvening_22 : decode cX8_foldEvening 22 = .ok (.iload_n 3, 1) := by decide +kernel
theorem dX8_foldEvening_23 : decode cX8_foldEvening 23 = .ok (.iload 6, 2) := by decide +kernel
theorem dX8_foldEvening_25 : decode cX8_foldEvening 25 = .ok (.invokevirtual 191, 3) := by decide +kernel
theorem dX8_foldEvening_28 : decode cX8_foldEvening 28 = .ok (.i2l, 1) := by decide +kernel
theorem dX8_foldEvening_29 : decode cX8_foldEvening 29 = .ok (.ladd, 1) := by decide +kernel
theorem dX8_foldEvening_30 : decode cX8_foldEvening 30 = .ok (.lstore 4, 2) := by decide +kernel
theorem dX8_foldEvening_32 : decode cX8_foldEvening 32 = .ok (.iinc 6 1, 3) := by decide +kernel
theorem dX8_foldEvening_35 : decode cX8_foldEvening 35 = .ok (.goto (-29), 3) := by decide +kernel
theorem dX8_foldEvening_38 : decode cX8_foldEvening 38 = .ok (.aload_n 0, 1) := by decide +kernel
theorem dX8_foldEvening_39 : decode cX8_foldEvening 39 = .ok (.iload_n 3, 1) := by decide +kernel
theorem dX8_foldEvening_40 : decode cX8_foldEvening 40 = .ok (.invokevirtual 225, 3) := by decide +kernel
theorem dX8_foldEvening_43 : decode cX8_foldEvening 43 = .ok (.iconst 0, 1) := by decide +kernel
theorem dX8_foldEvening_44 : decode cX8_foldEvening 44 = .ok (.istore 6, 2) := by decide +kernel
theorem dX8_foldEvening_46 : decode cX8_foldEvening 46 = .ok (.iload 6, 2) := by decide +kernel
theorem dX8_foldEvening_48 : decode cX8_foldEvening 48 = .ok (.iconst 3, 1) := by decide +kernel
theorem dX8_foldEvening_49 : decode cX8_foldEvening 49 = .ok (.if_icmp .ge 28, 3) := by decide +kernel
theorem dX8_foldEvening_52 : decode cX8_foldEvening 52 = .ok (.ldc2_w 310, 3) := by decide +kernel
theorem dX8_foldEvening_55 : decode cX8_foldEvening 55 = .ok (.lload 4, 2) := by decide +kernel
theorem dX8_foldEvening_57 : decode cX8_foldEvening 57 = .ok (.lmul, 1) := by decide +kernel
theorem dX8_foldEvening_58 : decode cX8_foldEvening 58 = .ok (.aload_n 0, 1) := by decide +kernel
theorem dX8_foldEvening_59 : decode cX8_foldEvening 59 = .ok (.getfield 60, 3) := by decide +kernel
theorem dX8_foldEvening_62 : decode cX8_foldEvening 62 = .ok (.iload 6, 2) := by decide +kernel
theorem dX8_foldEvening_64 : decode cX8_foldEvening 64 = .ok (.invokevirtual 228, 3) := by decide +kernel
theorem dX8_foldEvening_67 : decode cX8_foldEvening 67 = .ok (.i2l, 1) := by decide +kernel
theorem dX8_foldEvening_68 : decode cX8_foldEvening 68 = .ok (.ladd, 1) := by decide +kernel
theorem dX8_foldEvening_69 : decode cX8_foldEvening 69 = .ok (.lstore 4, 2) := by decide +kernel
theorem dX8_foldEvening_71 : decode cX8_foldEvening 71 = .ok (.iinc 6 1, 3) := by decide +kernel
theorem dX8_foldEvening_74 : decode cX8_foldEvening 74 = .ok (.goto (-28), 3) := by decide +kernel
theorem dX8_foldEvening_77 : decode cX8_foldEvening 77 = .ok (.lload 4, 2) := by decide +kernel
theorem dX8_foldEvening_79 : decode cX8_foldEvening 79 = .ok (.lreturn, 1) := by decide +kernel
theorem dX8_foldThing_0 : decode cX8_foldThing 0 = .ok (.ldc2_w 310, 3) := by decide +kernel
theorem dX8_foldThing_3 : decode cX8_foldThing 3 = .ok (.lload_n 1, 1) := by decide +kernel
theorem dX8_foldThing_4 : decode cX8_foldThing 4 = .ok (.lmul, 1) := by decide +kernel
theorem dX8_foldThing_5 : decode cX8_foldThing 5 = .ok (.aload_n 0, 1) := by decide +kernel
theorem dX8_foldThing_6 : decode cX8_foldThing 6 = .ok (.getfield 40, 3) := by decide +kernel
theorem dX8_foldThing_9 : decode cX8_foldThing 9 = .ok (.getfield 137, 3) := by decide +kernel
theorem dX8_foldThing_12 : decode cX8_foldThing 12 = .ok (.iload_n 3, 1) := by decide +kernel
theorem dX8_foldThing_13 : decode cX8_foldThing 13 = .ok (.iaload, 1) := by decide +kernel
theorem dX8_foldThing_14 : decode cX8_foldThing 14 = .ok (.i2l, 1) := by decide +kernel
theorem dX8_foldThing_15 : decode cX8_foldThing 15 = .ok (.ladd, 1) := by decide +kernel
theorem dX8_foldThing_16 : decode cX8_foldThing 16 = .ok (.lstore 4, 2) := by decide +kernel
theorem dX8_foldThing_18 : decode cX8_foldThing 18 = .ok (.ldc2_w 310, 3) := by decide +kernel
theorem dX8_foldThing_21 : decode cX8_foldThing 21 = .ok (.lload 4, 2) := by decide +kernel
theorem dX8_foldThing_23 : decode cX8_foldThing 23 = .ok (.lmul, 1) := by decide +kernel
theorem dX8_foldThing_24 : decode cX8_foldThing 24 = .ok (.aload_n 0, 1) := by decide +kernel
theorem dX8_foldThing_25 : decode cX8_foldThing 25 = .ok (.getfield 40, 3) := by decide +kernel
theorem dX8_foldThing_28 : decode cX8_foldThing 28 = .ok (.getfield 140, 3) := by decide +kernel
theorem dX8_foldThing_31 : decode cX8_foldThing 31 = .ok (.iload_n 3, 1) := by decide +kernel
theorem dX8_foldThing_32 : decode cX8_foldThing 32 = .ok (.iaload, 1) := by decide +kernel
theorem dX8_foldThing_33 : decode cX8_foldThing 33 = .ok (.i2l, 1) := by decide +kernel
theorem dX8_foldThing_34 : decode cX8_foldThing 34 = .ok (.ladd, 1) := by decide +kernel
theorem dX8_foldThing_35 : decode cX8_foldThing 35 = .ok (.lstore 4, 2) := by decide +kernel
theorem dX8_foldThing_37 : decode cX8_foldThing 37 = .ok (.ldc2_w 310, 3) := by decide +kernel
theorem dX8_foldThing_40 : decode cX8_foldThing 40 = .ok (.lload 4, 2) := by decide +kernel
theorem dX8_foldThing_42 : decode cX8_foldThing 42 = .ok (.lmul, 1) := by decide +kernel
theorem dX8_foldThing_43 : decode cX8_foldThing 43 = .ok (.aload_n 0, 1) := by decide +kernel
theorem dX8_foldThing_44 : decode cX8_foldThing 44 = .ok (.getfield 40, 3) := by decide +kernel
theorem dX8_foldThing_47 : decode cX8_foldThing 47 = .ok (.getfield 143, 3) := by decide +kernel
theorem dX8_foldThing_50 : decode cX8_foldThing 50 = .ok (.iload_n 3, 1) := by decide +kernel
theorem dX8_foldThing_51 : decode cX8_foldThing 51 = .ok (.iaload, 1) := by decide +kernel
theorem dX8_foldThing_52 : decode cX8_foldThing 52 = .ok (.i2l, 1) := by decide +kernel
theorem dX8_foldThing_53 : decode cX8_foldThing 53 = .ok (.ladd, 1) := by decide +kernel
theorem dX8_foldThing_54 : decode cX8_foldThing 54 = .ok (.lstore 4, 2) := by decide +kernel
theorem dX8_foldThing_56 : decode cX8_foldThing 56 = .ok (.aload_n 0, 1) := by decide +kernel
theorem dX8_foldThing_57 : decode cX8_foldThing 57 = .ok (.lload 4, 2) := by decide +kernel
theorem dX8_foldThing_59 : decode cX8_foldThing 59 = .ok (.iload_n 3, 1) := by decide +kernel
theorem dX8_foldThing_60 : decode cX8_foldThing 60 = .ok (.invokevirtual 335, 3) := by decide +kernel
theorem dX8_foldThing_63 : decode cX8_foldThing 63 = .ok (.lstore 4, 2) := by decide +kernel
theorem dX8_foldThing_65 : decode cX8_foldThing 65 = .ok (.aload_n 0, 1) := by decide +kernel
theorem dX8_foldThing_66 : decode cX8_foldThing 66 = .ok (.lload 4, 2) := by decide +kernel
theorem dX8_foldThing_68 : decode cX8_foldThing 68 = .ok (.bipush 32, 2) := by decide +kernel
theorem dX8_foldThing_70 : decode cX8_foldThing 70 = .ok (.iload_n 3, 1) := by decide +kernel
theorem dX8_foldThing_71 : decode cX8_foldThing 71 = .ok (.iadd, 1) := by decide +kernel
theorem dX8_foldThing_72 : decode cX8_foldThing 72 = .ok (.invokevirtual 335, 3) := by decide +kernel
theorem dX8_foldThing_75 : decode cX8_foldThing 75 = .ok (.lstore 4, 2) := by decide +kernel
theorem dX8_foldThing_77 : decode cX8_foldThing 77 = .ok (.aload_n 0, 1) := by decide +kernel
theorem dX8_foldThing_78 : decode cX8_foldThing 78 = .ok (.lload 4, 2) := by decide +kernel
theorem dX8_foldThing_80 : decode cX8_foldThing 80 = .ok (.bipush 88, 2) := by decide +kernel
theorem dX8_foldThing_82 : decode cX8_foldThing 82 = .ok (.iload_n 3, 1) := by decide +kernel
theorem dX8_foldThing_83 : decode cX8_foldThing 83 = .ok (.iadd, 1) := by decide +kernel
theorem dX8_foldThing_84 : decode cX8_foldThing 84 = .ok (.invokevirtual 335, 3) := by decide +kernel
theorem dX8_foldThing_87 : decode cX8_foldThing 87 = .ok (.lstore 4, 2) := by decide +kernel
theorem dX8_foldThing_89 : decode cX8_foldThing 89 = .ok (.ldc2_w 310, 3) := by decide +kernel
theorem dX8_foldThing_92 : decode cX8_foldThing 92 = .ok (.lload 4, 2) := by decide +kernel
theorem dX8_foldThing_94 : decode cX8_foldThing 94 = .ok (.lmul, 1) := by decide +kernel
theorem dX8_foldThing_95 : decode cX8_foldThing 95 = .ok (.aload_n 0, 1) := by decide +kernel
theorem dX8_foldThing_96 : decode cX8_foldThing 96 = .ok (.getfield 50, 3) := by decide +kernel
theorem dX8_foldThing_99 : decode cX8_foldThing 99 = .ok (.getfield 195, 3) := by decide +kernel
theorem dX8_foldThing_102 : decode cX8_foldThing 102 = .ok (.iload_n 3, 1) := by decide +kernel
theorem dX8_foldThing_103 : decode cX8_foldThing 103 = .ok (.iaload, 1) := by decide +kernel
theorem dX8_foldThing_104 : decode cX8_foldThing 104 = .ok (.i2l, 1) := by decide +kernel
theorem dX8_foldThing_105 : decode cX8_foldThing 105 = .ok (.ladd, 1) := by decide +kernel
theorem dX8_foldThing_106 : decode cX8_foldThing 106 = .ok (.lstore 4, 2) := by decide +kernel
theorem dX8_foldThing_108 : decode cX8_foldThing 108 = .ok (.ldc2_w 310, 3) := by decide +kernel
theorem dX8_foldThing_111 : decode cX8_foldThing 111 = .ok (.lload 4, 2) := by decide +kernel
theorem dX8_foldThing_113 : decode cX8_foldThing 113 = .ok (.lmul, 1) := by decide +kernel
theorem dX8_foldThing_114 : decode cX8_foldThing 114 = .ok (.aload_n 0, 1) := by decide +kernel
theorem dX8_foldThing_115 : decode cX8_foldThing 115 = .ok (.getfield 50, 3) := by decide +kernel
theorem dX8_foldThing_118 : decode cX8_foldThing 118 = .ok (.getfield 210, 3) := by decide +kernel
theorem dX8_foldThing_121 : decode cX8_foldThing 121 = .ok (.iload_n 3, 1) := by decide +kernel
theorem dX8_foldThing_122 : decode cX8_foldThing 122 = .ok (.iaload, 1) := by decide +kernel
theorem dX8_foldThing_123 : decode cX8_foldThing 123 = .ok (.i2l, 1) := by decide +kernel
theorem dX8_foldThing_124 : decode cX8_foldThing 124 = .ok (.ladd, 1) := by decide +kernel
theorem dX8_foldThing_125 : decode cX8_foldThing 125 = .ok (.lstore 4, 2) := by decide +kernel
theorem dX8_foldThing_127 : decode cX8_foldThing 127 = .ok (.aload_n 0, 1) := by decide +kernel
theorem dX8_foldThing_128 : decode cX8_foldThing 128 = .ok (.iload_n 3, 1) := by decide +kernel
theorem dX8_foldThing_129 : decode cX8_foldThing 129 = .ok (.invokevirtual 246, 3) := by decide +kernel
theorem dX8_foldThing_132 : decode cX8_foldThing 132 = .ok (.ldc2_w 310, 3) := by decide +kernel
theorem dX8_foldThing_135 : decode cX8_foldThing 135 = .ok (.lload 4, 2) := by decide +kernel
theorem dX8_foldThing_137 : decode cX8_foldThing 137 = .ok (.lmul, 1) := by decide +kernel
theorem dX8_foldThing_138 : decode cX8_foldThing 138 = .ok (.aload_n 0, 1) := by decide +kernel
theorem dX8_foldThing_139 : decode cX8_foldThing 139 = .ok (.getfield 67, 3) := by decide +kernel
theorem dX8_foldThing_142 : decode cX8_foldThing 142 = .ok (.getfield 249, 3) := by decide +kernel
theorem dX8_foldThing_145 : decode cX8_foldThing 145 = .ok (.i2l, 1) := by decide +kernel
theorem dX8_foldThing_146 : decode cX8_foldThing 146 = .ok (.ladd, 1) := by decide +kernel
theorem dX8_foldThing_147 : decode cX8_foldThing 147 = .ok (.lstore 4, 2) := by decide +kernel
theorem dX8_foldThing_149 : decode cX8_foldThing 149 = .ok (.ldc2_w 310, 3) := by decide +kernel
theorem dX8_foldThing_152 : decode cX8_foldThing 152 = .ok (.lload 4, 2) := by decide +kernel
theorem dX8_foldThing_154 : decode cX8_foldThing 154 = .ok (.lmul, 1) := by decide +kernel
theorem dX8_foldThing_155 : decode cX8_foldThing 155 = .ok (.aload_n 0, 1) := by decide +kernel
theorem dX8_foldThing_156 : decode cX8_foldThing 156 = .ok (.iload_n 3, 1) := by decide +kernel
theorem dX8_foldThing_157 : decode cX8_foldThing 157 = .ok (.invokevirtual 243, 3) := by decide +kernel
theorem dX8_foldThing_160 : decode cX8_foldThing 160 = .ok (.i2l, 1) := by decide +kernel
theorem dX8_foldThing_161 : decode cX8_foldThing 161 = .ok (.ladd, 1) := by decide +kernel
theorem dX8_foldThing_162 : decode cX8_foldThing 162 = .ok (.lstore 4, 2) := by decide +kernel
theorem dX8_foldThing_164 : decode cX8_foldThing 164 = .ok (.ldc2_w 310, 3) := by decide +kernel
theorem dX8_foldThing_167 : decode cX8_foldThing 167 = .ok (.lload 4, 2) := by decide +kernel
theorem dX8_foldThing_169 : decode cX8_foldThing 169 = .ok (.lmul, 1) := by decide +kernel
theorem dX8_foldThing_170 : decode cX8_foldThing 170 = .ok (.aload_n 0, 1) := by decide +kernel
theorem dX8_foldThing_171 : decode cX8_foldThing 171 = .ok (.getfield 67, 3) := by decide +kernel
theorem dX8_foldThing_174 : decode cX8_foldThing 174 = .ok (.invokevirtual 252, 3) := by decide +kernel
theorem dX8_foldThing_177 : decode cX8_foldThing 177 = .ok (.i2l, 1) := by decide +kernel
theorem dX8_foldThing_178 : decode cX8_foldThing 178 = .ok (.ladd, 1) := by decide +kernel
theorem dX8_foldThing_179 : decode cX8_foldThing 179 = .ok (.lstore 4, 2) := by decide +kernel
theorem dX8_foldThing_181 : decode cX8_foldThing 181 = .ok (.ldc2_w 310, 3) := by decide +kernel
theorem dX8_foldThing_184 : decode cX8_foldThing 184 = .ok (.lload 4, 2) := by decide +kernel
theorem dX8_foldThing_186 : decode cX8_foldThing 186 = .ok (.lmul, 1) := by decide +kernel
theorem dX8_foldThing_187 : decode cX8_foldThing 187 = .ok (.aload_n 0, 1) := by decide +kernel
theorem dX8_foldThing_188 : decode cX8_foldThing 188 = .ok (.iconst 5, 1) := by decide +kernel
theorem dX8_foldThing_189 : decode cX8_foldThing 189 = .ok (.iload_n 3, 1) := by decide +kernel
theorem dX8_foldThing_190 : decode cX8_foldThing 190 = .ok (.iconst 0, 1) := by decide +kernel
theorem dX8_foldThing_191 : decode cX8_foldThing 191 = .ok (.invokevirtual 257, 3) := by decide +kernel
theorem dX8_foldThing_194 : decode cX8_foldThing 194 = .ok (.ladd, 1) := by decide +kernel
theorem dX8_foldThing_195 : decode cX8_foldThing 195 = .ok (.lstore 4, 2) := by decide +kernel
theorem dX8_foldThing_197 : decode cX8_foldThing 197 = .ok (.ldc2_w 310, 3) := by decide +kernel
theorem dX8_foldThing_200 : decode cX8_foldThing 200 = .ok (.lload 4, 2) := by decide +kernel
theorem dX8_foldThing_202 : decode cX8_foldThing 202 = .ok (.lmul, 1) := by decide +kernel
theorem dX8_foldThing_203 : decode cX8_foldThing 203 = .ok (.aload_n 0, 1) := by decide +kernel
theorem dX8_foldThing_204 : decode cX8_foldThing 204 = .ok (.iconst 5, 1) := by decide +kernel
theorem dX8_foldThing_205 : decode cX8_foldThing 205 = .ok (.iload_n 3, 1) := by decide +kernel
theorem dX8_foldThing_206 : decode cX8_foldThing 206 = .ok (.iconst 1, 1) := by decide +kernel
theorem dX8_foldThing_207 : decode cX8_foldThing 207 = .ok (.invokevirtual 257, 3) := by decide +kernel
theorem dX8_foldThing_210 : decode cX8_foldThing 210 = .ok (.ladd, 1) := by decide +kernel
theorem dX8_foldThing_211 : decode cX8_foldThing 211 = .ok (.lreturn, 1) := by decide +kernel
theorem dX8_foldHeat_0 : decode cX8_foldHeat 0 = .ok (.ldc2_w 310, 3) := by decide +kernel
theorem dX8_foldHeat_3 : decode cX8_foldHeat 3 = .ok (.lload_n 1, 1) := by decide +kernel
theorem dX8_foldHeat_4 : decode cX8_foldHeat 4 = .ok (.lmul, 1) := by decide +kernel
theorem dX8_foldHeat_5 : decode cX8_foldHeat 5 = .ok (.aload_n 0, 1) := by decide +kernel
theorem dX8_foldHeat_6 : decode cX8_foldHeat 6 = .ok (.getfield 50, 3) := by decide +kernel
theorem dX8_foldHeat_9 : decode cX8_foldHeat 9 = .ok (.getfield 182, 3) := by decide +kernel
theorem dX8_foldHeat_12 : decode cX8_foldHeat 12 = .ok (.iload_n 3, 1) := by decide +kernel
theorem dX8_foldHeat_13 : decode cX8_foldHeat 13 = .ok (.iaload, 1) := by decide +kernel
theorem dX8_foldHeat_14 : decode cX8_foldHeat 14 = .ok (.i2l, 1) := by decide +kernel
theorem dX8_foldHeat_15 : decode cX8_foldHeat 15 = .ok (.ladd, 1) := by decide +kernel
theorem dX8_foldHeat_16 : decode cX8_foldHeat 16 = .ok (.lstore 4, 2) := by decide +kernel
theorem dX8_foldHeat_18 : decode cX8_foldHeat 18 = .ok (.ldc2_w 310, 3) := by decide +kernel
theorem dX8_foldHeat_21 : decode cX8_foldHeat 21 = .ok (.lload 4, 2) := by decide +kernel
theorem dX8_foldHeat_23 : decode cX8_foldHeat 23 = .ok (.lmul, 1) := by decide +kernel
theorem dX8_foldHeat_24 : decode cX8_foldHeat 24 = .ok (.aload_n 0, 1) := by decide +kernel
theorem dX8_foldHeat_25 : decode cX8_foldHeat 25 = .ok (.getfield 50, 3) := by decide +kernel
theorem dX8_foldHeat_28 : decode cX8_foldHeat 28 = .ok (.getfield 185, 3) := by decide +kernel
theorem dX8_foldHeat_31 : decode cX8_foldHeat 31 = .ok (.iload_n 3, 1) := by decide +kernel
theorem dX8_foldHeat_32 : decode cX8_foldHeat 32 = .ok (.iaload, 1) := by decide +kernel
theorem dX8_foldHeat_33 : decode cX8_foldHeat 33 = .ok (.i2l, 1) := by decide +kernel
theorem dX8_foldHeat_34 : decode cX8_foldHeat 34 = .ok (.ladd, 1) := by decide +kernel
theorem dX8_foldHeat_35 : decode cX8_foldHeat 35 = .ok (.lreturn, 1) := by decide +kernel
theorem dX8_foldSums_0 : decode cX8_foldSums 0 = .ok (.lload_n 1, 1) := by decide +kernel
theorem dX8_foldSums_1 : decode cX8_foldSums 1 = .ok (.lstore_n 3, 1) := by decide +kernel
theorem dX8_foldSums_2 : decode cX8_foldSums 2 = .ok (.iconst 0, 1) := by decide +kernel
theorem dX8_foldSums_3 : decode cX8_foldSums 3 = .ok (.istore 5, 2) := by decide +kernel
theorem dX8_foldSums_5 : decode cX8_foldSums 5 = .ok (.iload 5, 2) := by decide +kernel
theorem dX8_foldSums_7 : decode cX8_foldSums 7 = .ok (.iconst 4, 1) := by decide +kernel
theorem dX8_foldSums_8 : decode cX8_foldSums 8 = .ok (.if_icmp .ge 26, 3) := by decide +kernel
theorem dX8_foldSums_11 : decode cX8_foldSums 11 = .ok (.ldc2_w 310, 3) := by decide +kernel
theorem dX8_foldSums_14 : decode cX8_foldSums 14 = .ok (.lload_n 3, 1) := by decide +kernel
theorem dX8_foldSums_15 : decode cX8_foldSums 15 = .ok (.lmul, 1) := by decide +kernel
theorem dX8_foldSums_16 : decode cX8_foldSums 16 = .ok (.aload_n 0, 1) := by decide +kernel
theorem dX8_foldSums_17 : decode cX8_foldSums 17 = .ok (.getfield 50, 3) := by decide +kernel
theorem dX8_foldSums_20 : decode cX8_foldSums 20 = .ok (.iload 5, 2) := by decide +kernel
theorem dX8_foldSums_22 : decode cX8_foldSums 22 = .ok (.invokevirtual 198, 3) := by decide +kernel
theorem dX8_foldSums_25 : decode cX8_foldSums 25 = .ok (.i2l, 1) := by decide +kernel
theorem dX8_foldSums_26 : decode cX8_foldSums 26 = .ok (.ladd, 1) := by decide +kernel
theorem dX8_foldSums_27 : decode cX8_foldSums 27 = .ok (.lstore_n 3, 1) := by decide +kernel
theorem dX8_foldSums_28 : decode cX8_foldSums 28 = .ok (.iinc 5 1, 3) := by decide +kernel
theorem dX8_foldSums_31 : decode cX8_foldSums 31 = .ok (.goto (-26), 3) := by decide +kernel
theorem dX8_foldSums_34 : decode cX8_foldSums 34 = .ok (.ldc2_w 310, 3) := by decide +kernel
theorem dX8_foldSums_37 : decode cX8_foldSums 37 = .ok (.lload_n 3, 1) := by decide +kernel
theorem dX8_foldSums_38 : decode cX8_foldSums 38 = .ok (.lmul, 1) := by decide +kernel
theorem dX8_foldSums_39 : decode cX8_foldSums 39 = .ok (.aload_n 0, 1) := by decide +kernel
theorem dX8_foldSums_40 : decode cX8_foldSums 40 = .ok (.getfield 50, 3) := by decide +kernel
theorem dX8_foldSums_43 : decode cX8_foldSums 43 = .ok (.aload_n 0, 1) := by decide +kernel
theorem dX8_foldSums_44 : decode cX8_foldSums 44 = .ok (.getfield 40, 3) := by decide +kernel
theorem dX8_foldSums_47 : decode cX8_foldSums 47 = .ok (.invokevirtual 201, 3) := by decide +kernel
theorem dX8_foldSums_50 : decode cX8_foldSums 50 = .ok (.invokevirtual 204, 3) := by decide +kernel
theorem dX8_foldSums_53 : decode cX8_foldSums 53 = .ok (.i2l, 1) := by decide +kernel
theorem dX8_foldSums_54 : decode cX8_foldSums 54 = .ok (.ladd, 1) := by decide +kernel
theorem dX8_foldSums_55 : decode cX8_foldSums 55 = .ok (.lstore_n 3, 1) := by decide +kernel
theorem dX8_foldSums_56 : decode cX8_foldSums 56 = .ok (.ldc2_w 310, 3) := by decide +kernel
theorem dX8_foldSums_59 : decode cX8_foldSums 59 = .ok (.lload_n 3, 1) := by decide +kernel
theorem dX8_foldSums_60 : decode cX8_foldSums 60 = .ok (.lmul, 1) := by decide +kernel
theorem dX8_foldSums_61 : decode cX8_foldSums 61 = .ok (.aload_n 0, 1) := by decide +kernel
theorem dX8_foldSums_62 : decode cX8_foldSums 62 = .ok (.getfield 50, 3) := by decide +kernel
theorem dX8_foldSums_65 : decode cX8_foldSums 65 = .ok (.invokevirtual 207, 3) := by decide +kernel
theorem dX8_foldSums_68 : decode cX8_foldSums 68 = .ok (.i2l, 1) := by decide +kernel
theorem dX8_foldSums_69 : decode cX8_foldSums 69 = .ok (.ladd, 1) := by decide +kernel
theorem dX8_foldSums_70 : decode cX8_foldSums 70 = .ok (.lstore_n 3, 1) := by decide +kernel
theorem dX8_foldSums_71 : decode cX8_foldSums 71 = .ok (.ldc2_w 310, 3) := by decide +kernel
theorem dX8_foldSums_74 : decode cX8_foldSums 74 = .ok (.lload_n 3, 1) := by decide +kernel
theorem dX8_foldSums_75 : decode cX8_foldSums 75 = .ok (.lmul, 1) := by decide +kernel
theorem dX8_foldSums_76 : decode cX8_foldSums 76 = .ok (.aload_n 0, 1) := by decide +kernel
theorem dX8_foldSums_77 : decode cX8_foldSums 77 = .ok (.invokevirtual 213, 3) := by decide +kernel
theorem dX8_foldSums_80 : decode cX8_foldSums 80 = .ok (.i2l, 1) := by decide +kernel
theorem dX8_foldSums_81 : decode cX8_foldSums 81 = .ok (.ladd, 1) := by decide +kernel
theorem dX8_foldSums_82 : decode cX8_foldSums 82 = .ok (.lreturn, 1) := by decide +kernel
theorem dX8_foldPlans_0 : decode cX8_foldPlans 0 = .ok (.lload_n 1, 1) := by decide +kernel
theorem dX8_foldPlans_1 : decode cX8_foldPlans 1 = .ok (.lstore_n 3, 1) := by decide +kernel
theorem dX8_foldPlans_2 : decode cX8_foldPlans 2 = .ok (.aload_n 0, 1) := by decide +kernel
theorem dX8_foldPlans_3 : decode cX8_foldPlans 3 = .ok (.invokevirtual 216, 3) := by decide +kernel
theorem dX8_foldPlans_6 : decode cX8_foldPlans 6 = .ok (.iconst 0, 1) := by decide +kernel
theorem dX8_foldPlans_7 : decode cX8_foldPlans 7 = .ok (.istore 5, 2) := by decide +kernel
theorem dX8_foldPlans_9 : decode cX8_foldPlans 9 = .ok (.iload 5, 2) := by decide +kernel
theorem dX8_foldPlans_11 : decode cX8_foldPlans 11 = .ok (.iconst 4, 1) := by decide +kernel
theorem dX8_foldPlans_12 : decode cX8_foldPlans 12 = .ok (.if_icmp .ge 26, 3) := by decide +kernel
theorem dX8_foldPlans_15 : decode cX8_foldPlans 15 = .ok (.ldc2_w 310, 3) := by decide +kernel
theorem dX8_foldPlans_18 : decode cX8_foldPlans 18 = .ok (.lload_n 3, 1) := by decide +kernel
theorem dX8_foldPlans_19 : decode cX8_foldPlans 19 = .ok (.lmul, 1) := by decide +kernel
theorem dX8_foldPlans_20 : decode cX8_foldPlans 20 = .ok (.aload_n 0, 1) := by decide +kernel
theorem dX8_foldPlans_21 : decode cX8_foldPlans 21 = .ok (.getfield 60, 3) := by decide +kernel
theorem dX8_foldPlans_24 : decode cX8_foldPlans 24 = .ok (.iload 5, 2) := by decide +kernel
theorem dX8_foldPlans_26 : decode cX8_foldPlans 26 = .ok (.invokevirtual 219, 3) := by decide +kernel
theorem dX8_foldPlans_29 : decode cX8_foldPlans 29 = .ok (.i2l, 1) := by decide +kernel
theorem dX8_foldPlans_30 : decode cX8_foldPlans 30 = .ok (.ladd, 1) := by decide +kernel
theorem dX8_foldPlans_31 : decode cX8_foldPlans 31 = .ok (.lstore_n 3, 1) := by decide +kernel
theorem dX8_foldPlans_32 : decode cX8_foldPlans 32 = .ok (.iinc 5 1, 3) := by decide +kernel
theorem dX8_foldPlans_35 : decode cX8_foldPlans 35 = .ok (.goto (-26), 3) := by decide +kernel
theorem dX8_foldPlans_38 : decode cX8_foldPlans 38 = .ok (.ldc2_w 310, 3) := by decide +kernel
theorem dX8_foldPlans_41 : decode cX8_foldPlans 41 = .ok (.lload_n 3, 1) := by decide +kernel
theorem dX8_foldPlans_42 : decode cX8_foldPlans 42 = .ok (.lmul, 1) := by decide +kernel
theorem dX8_foldPlans_43 : decode cX8_foldPlans 43 = .ok (.aload_n 0, 1) := by decide +kernel
theorem dX8_foldPlans_44 : decode cX8_foldPlans 44 = .ok (.invokevirtual 222, 3) := by decide +kernel
theorem dX8_foldPlans_47 : decode cX8_foldPlans 47 = .ok (.i2l, 1) := by decide +kernel
theorem dX8_foldPlans_48 : decode cX8_foldPlans 48 = .ok (.ladd, 1) := by decide +kernel
theorem dX8_foldPlans_49 : decode cX8_foldPlans 49 = .ok (.lstore_n 3, 1) := by decide +kernel
theorem dX8_foldPlans_50 : decode cX8_foldPlans 50 = .ok (.aload_n 0, 1) := by decide +kernel
theorem dX8_foldPlans_51 : decode cX8_foldPlans 51 = .ok (.invokevirtual 234, 3) := by decide +kernel
theorem dX8_foldPlans_54 : decode cX8_foldPlans 54 = .ok (.ldc2_w 310, 3) := by decide +kernel
theorem dX8_foldPlans_57 : decode cX8_foldPlans 57 = .ok (.lload_n 3, 1) := by decide +kernel
theorem dX8_foldPlans_58 : decode cX8_foldPlans 58 = .ok (.lmul, 1) := by decide +kernel
theorem dX8_foldPlans_59 : decode cX8_foldPlans 59 = .ok (.aload_n 0, 1) := by decide +kernel
theorem dX8_foldPlans_60 : decode cX8_foldPlans 60 = .ok (.getfield 60, 3) := by decide +kernel
theorem dX8_foldPlans_63 : decode cX8_foldPlans 63 = .ok (.iconst (-1), 1) := by decide +kernel
theorem dX8_foldPlans_64 : decode cX8_foldPlans 64 = .ok (.invokevirtual 237, 3) := by decide +kernel
theorem dX8_foldPlans_67 : decode cX8_foldPlans 67 = .ok (.i2l, 1) := by decide +kernel
theorem dX8_foldPlans_68 : decode cX8_foldPlans 68 = .ok (.ladd, 1) := by decide +kernel
theorem dX8_foldPlans_69 : decode cX8_foldPlans 69 = .ok (.lstore_n 3, 1) := by decide +kernel
theorem dX8_foldPlans_70 : decode cX8_foldPlans 70 = .ok (.ldc2_w 310, 3) := by decide +kernel
theorem dX8_foldPlans_73 : decode cX8_foldPlans 73 = .ok (.lload_n 3, 1) := by decide +kernel
theorem dX8_foldPlans_74 : decode cX8_foldPlans 74 = .ok (.lmul, 1) := by decide +kernel
theorem dX8_foldPlans_75 : decode cX8_foldPlans 75 = .ok (.aload_n 0, 1) := by decide +kernel
theorem dX8_foldPlans_76 : decode cX8_foldPlans 76 = .ok (.getfield 60, 3) := by decide +kernel
theorem dX8_foldPlans_79 : decode cX8_foldPlans 79 = .ok (.iconst 0, 1) := by decide +kernel
theorem dX8_foldPlans_80 : decode cX8_foldPlans 80 = .ok (.invokevirtual 237, 3) := by decide +kernel
theorem dX8_foldPlans_83 : decode cX8_foldPlans 83 = .ok (.i2l, 1) := by decide +kernel
theorem dX8_foldPlans_84 : decode cX8_foldPlans 84 = .ok (.ladd, 1) := by decide +kernel
theorem dX8_foldPlans_85 : decode cX8_foldPlans 85 = .ok (.lstore_n 3, 1) := by decide +kernel
theorem dX8_foldPlans_86 : decode cX8_foldPlans 86 = .ok (.ldc2_w 310, 3) := by decide +kernel
theorem dX8_foldPlans_89 : decode cX8_foldPlans 89 = .ok (.lload_n 3, 1) := by decide +kernel
theorem dX8_foldPlans_90 : decode cX8_foldPlans 90 = .ok (.lmul, 1) := by decide +kernel
theorem dX8_foldPlans_91 : decode cX8_foldPlans 91 = .ok (.aload_n 0, 1) := by decide +kernel
theorem dX8_foldPlans_92 : decode cX8_foldPlans 92 = .ok (.invokevirtual 240, 3) := by decide +kernel
theorem dX8_foldPlans_95 : decode cX8_foldPlans 95 = .ok (.i2l, 1) := by decide +kernel
theorem dX8_foldPlans_96 : decode cX8_foldPlans 96 = .ok (.ladd, 1) := by decide +kernel
theorem dX8_foldPlans_97 : decode cX8_foldPlans 97 = .ok (.lstore_n 3, 1) := by decide +kernel
theorem dX8_foldPlans_98 : decode cX8_foldPlans 98 = .ok (.aload_n 0, 1) := by decide +kernel
theorem dX8_foldPlans_99 : decode cX8_foldPlans 99 = .ok (.bipush 7, 2) := by decide +kernel
theorem dX8_foldPlans_101 : decode cX8_foldPlans 101 = .ok (.bipush 6, 2) := by decide +kernel
theorem dX8_foldPlans_103 : decode cX8_foldPlans 103 = .ok (.invokevirtual 261, 3) := by decide +kernel
theorem dX8_foldPlans_106 : decode cX8_foldPlans 106 = .ok (.ldc2_w 310, 3) := by decide +kernel
theorem dX8_foldPlans_109 : decode cX8_foldPlans 109 = .ok (.lload_n 3, 1) := by decide +kernel
theorem dX8_foldPlans_110 : decode cX8_foldPlans 110 = .ok (.lmul, 1) := by decide +kernel
theorem dX8_foldPlans_111 : decode cX8_foldPlans 111 = .ok (.aload_n 0, 1) := by decide +kernel
theorem dX8_foldPlans_112 : decode cX8_foldPlans 112 = .ok (.getfield 54, 3) := by decide +kernel
theorem dX8_foldPlans_115 : decode cX8_foldPlans 115 = .ok (.getfield 265, 3) := by decide +kernel
theorem dX8_foldPlans_118 : decode cX8_foldPlans 118 = .ok (.i2l, 1) := by decide +kernel
theorem dX8_foldPlans_119 : decode cX8_foldPlans 119 = .ok (.ladd, 1) := by decide +kernel
theorem dX8_foldPlans_120 : decode cX8_foldPlans 120 = .ok (.lstore_n 3, 1) := by decide +kernel
theorem dX8_foldPlans_121 : decode cX8_foldPlans 121 = .ok (.ldc2_w 310, 3) := by decide +kernel
theorem dX8_foldPlans_124 : decode cX8_foldPlans 124 = .ok (.lload_n 3, 1) := by decide +kernel
theorem dX8_foldPlans_125 : decode cX8_foldPlans 125 = .ok (.lmul, 1) := by decide +kernel
theorem dX8_foldPlans_126 : decode cX8_foldPlans 126 = .ok (.aload_n 0, 1) := by decide +kernel
theorem dX8_foldPlans_127 : decode cX8_foldPlans 127 = .ok (.getfield 54, 3) := by decide +kernel
theorem dX8_foldPlans_130 : decode cX8_foldPlans 130 = .ok (.getfield 268, 3) := by decide +kernel
theorem dX8_foldPlans_133 : decode cX8_foldPlans 133 = .ok (.invokestatic 271, 3) := by decide +kernel
theorem dX8_foldPlans_136 : decode cX8_foldPlans 136 = .ok (.i2l, 1) := by decide +kernel
theorem dX8_foldPlans_137 : decode cX8_foldPlans 137 = .ok (.ladd, 1) := by decide +kernel
theorem dX8_foldPlans_138 : decode cX8_foldPlans 138 = .ok (.lreturn, 1) := by decide +kernel
theorem dX8_isBelow_0 : decode cX8_isBelow 0 = .ok (.iload_n 0, 1) := by decide +kernel
theorem dX8_isBelow_1 : decode cX8_isBelow 1 = .ok (.ifCond .lt 12, 3) := by decide +kernel
theorem dX8_isBelow_4 : decode cX8_isBelow 4 = .ok (.iload_n 0, 1) := by decide +kernel
theorem dX8_isBelow_5 : decode cX8_isBelow 5 = .ok (.iload_n 1, 1) := by decide +kernel
theorem dX8_isBelow_6 : decode cX8_isBelow 6 = .ok (.if_icmp .ge 7, 3) := by decide +kernel
theorem dX8_isBelow_9 : decode cX8_isBelow 9 = .ok (.iconst 1, 1) := by decide +kernel
theorem dX8_isBelow_10 : decode cX8_isBelow 10 = .ok (.goto 4, 3) := by decide +kernel
theorem dX8_isBelow_13 : decode cX8_isBelow 13 = .ok (.iconst 0, 1) := by decide +kernel
theorem dX8_isBelow_14 : decode cX8_isBelow 14 = .ok (.ireturn, 1) := by decide +kernel
theorem dX8_isText_0 : decode cX8_isText 0 = .ok (.iload_n 0, 1) := by decide +kernel
theorem dX8_isText_1 : decode cX8_isText 1 = .ok (.iconst 2, 1) := by decide +kernel
theorem dX8_isText_2 : decode cX8_isText 2 = .ok (.invokestatic 133, 3) := by decide +kernel
theorem dX8_isText_5 : decode cX8_isText 5 = .ok (.ireturn, 1) := by decide +kernel
theorem dX8_isEvening_0 : decode cX8_isEvening 0 = .ok (.iload_n 0, 1) := by decide +kernel
theorem dX8_isEvening_1 : decode cX8_isEvening 1 = .ok (.bipush 12, 2) := by decide +kernel
theorem dX8_isEvening_3 : decode cX8_isEvening 3 = .ok (.invokestatic 133, 3) := by decide +kernel
theorem dX8_isEvening_6 : decode cX8_isEvening 6 = .ok (.ireturn, 1) := by decide +kernel
theorem dX8_isSheet_0 : decode cX8_isSheet 0 = .ok (.iload_n 0, 1) := by decide +kernel
theorem dX8_isSheet_1 : decode cX8_isSheet 1 = .ok (.iconst 4, 1) := by decide +kernel
theorem dX8_isSheet_2 : decode cX8_isSheet 2 = .ok (.invokestatic 133, 3) := by decide +kernel
theorem dX8_isSheet_5 : decode cX8_isSheet 5 = .ok (.ireturn, 1) := by decide +kernel
theorem dX8_isEvent_0 : decode cX8_isEvent 0 = .ok (.iload_n 0, 1) := by decide +kernel
theorem dX8_isEvent_1 : decode cX8_isEvent 1 = .ok (.iconst 3, 1) := by decide +kernel
theorem dX8_isEvent_2 : decode cX8_isEvent 2 = .ok (.invokestatic 133, 3) := by decide +kernel
theorem dX8_isEvent_5 : decode cX8_isEvent 5 = .ok (.ifCond .eq 23, 3) := by decide +kernel
theorem dX8_isEvent_8 : decode cX8_isEvent 8 = .ok (.iload_n 1, 1) := by decide +kernel
theorem dX8_isEvent_9 : decode cX8_isEvent 9 = .ok (.invokestatic 179, 3) := by decide +kernel
theorem dX8_isEvent_12 : decode cX8_isEvent 12 = .ok (.ifCond .eq 16, 3) := by decide +kernel
theorem dX8_isEvent_15 : decode cX8_isEvent 15 = .ok (.iload_n 2, 1) := by decide +kernel
theorem dX8_isEvent_16 : decode cX8_isEvent 16 = .ok (.bipush 12, 2) := by decide +kernel
theorem dX8_isEvent_18 : decode cX8_isEvent 18 = .ok (.invokestatic 133, 3) := by decide +kernel
theorem dX8_isEvent_21 : decode cX8_isEvent 21 = .ok (.ifCond .eq 7, 3) := by decide +kernel
theorem dX8_isEvent_24 : decode cX8_isEvent 24 = .ok (.iconst 1, 1) := by decide +kernel
theorem dX8_isEvent_25 : decode cX8_isEvent 25 = .ok (.goto 4, 3) := by decide +kernel
theorem dX8_isEvent_28 : decode cX8_isEvent 28 = .ok (.iconst 0, 1) := by decide +kernel
theorem dX8_isEvent_29 : decode cX8_isEvent 29 = .ok (.ireturn, 1) := by decide +kernel
theorem dX8_isHook_0 : decode cX8_isHook 0 = .ok (.iload_n 1, 1) := by decide +kernel
theorem dX8_isHook_1 : decode cX8_isHook 1 = .ok (.aload_n 0, 1) := by decide +kernel
theorem dX8_isHook_2 : decode cX8_isHook 2 = .ok (.getfield 40, 3) := by decide +kernel
theorem dX8_isHook_5 : decode cX8_isHook 5 = .ok (.getfield 297, 3) := by decide +kernel
theorem dX8_isHook_8 : decode cX8_isHook 8 = .ok (.invokestatic 133, 3) := by decide +kernel
theorem dX8_isHook_11 : decode cX8_isHook 11 = .ok (.ireturn, 1) := by decide +kernel
theorem dX8_isThing_0 : decode cX8_isThing 0 = .ok (.iload_n 1, 1) := by decide +kernel
theorem dX8_isThing_1 : decode cX8_isThing 1 = .ok (.aload_n 0, 1) := by decide +kernel
theorem dX8_isThing_2 : decode cX8_isThing 2 = .ok (.getfield 40, 3) := by decide +kernel
theorem dX8_isThing_5 : decode cX8_isThing 5 = .ok (.getfield 305, 3) := by decide +kernel
theorem dX8_isThing_8 : decode cX8_isThing 8 = .ok (.invokestatic 133, 3) := by decide +kernel
theorem dX8_isThing_11 : decode cX8_isThing 11 = .ok (.ireturn, 1) := by decide +kernel
theorem dX8_textOf_0 : decode cX8_textOf 0 = .ok (.iload_n 1, 1) := by decide +kernel
theorem dX8_textOf_1 : decode cX8_textOf 1 = .ok (.ifCond .ne 10, 3) := by decide +kernel
theorem dX8_textOf_4 : decode cX8_textOf 4 = .ok (.aload_n 0, 1) := by decide +kernel
theorem dX8_textOf_5 : decode cX8_textOf 5 = .ok (.getfield 14, 3) := by decide +kernel
theorem dX8_textOf_8 : decode cX8_textOf 8 = .ok (.goto 7, 3) := by decide +kernel
theorem dX8_textOf_11 : decode cX8_textOf 11 = .ok (.aload_n 0, 1) := by decide +kernel
theorem dX8_textOf_12 : decode cX8_textOf 12 = .ok (.getfield 18, 3) := by decide +kernel
theorem dX8_textOf_15 : decode cX8_textOf 15 = .ok (.areturn, 1) := by decide +kernel
theorem dX8_findingOf_0 : decode cX8_findingOf 0 = .ok (.aload_n 0, 1) := by decide +kernel
theorem dX8_findingOf_1 : decode cX8_findingOf 1 = .ok (.iload_n 1, 1) := by decide +kernel
theorem dX8_findingOf_2 : decode cX8_findingOf 2 = .ok (.putfield 89, 3) := by decide +kernel
theorem dX8_findingOf_5 : decode cX8_findingOf 5 = .ok (.bipush (-10), 2) := by decide +kernel
theorem dX8_findingOf_7 : decode cX8_findingOf 7 = .ok (.iload_n 1, 1) := by decide +kernel
theorem dX8_findingOf_8 : decode cX8_findingOf 8 = .ok (.isub, 1) := by decide +kernel
theorem dX8_findingOf_9 : decode cX8_findingOf 9 = .ok (.ireturn, 1) := by decide +kernel
theorem dX8_sumOf_0 : decode cX8_sumOf 0 = .ok (.iconst 0, 1) := by decide +kernel
theorem dX8_sumOf_1 : decode cX8_sumOf 1 = .ok (.istore_n 1, 1) := by decide +kernel
theorem dX8_sumOf_2 : decode cX8_sumOf 2 = .ok (.aload_n 0, 1) := by decide +kernel
theorem dX8_sumOf_3 : decode cX8_sumOf 3 = .ok (.astore_n 2, 1) := by decide +kernel
theorem dX8_sumOf_4 : decode cX8_sumOf 4 = .ok (.aload_n 2, 1) := by decide +kernel
theorem dX8_sumOf_5 : decode cX8_sumOf 5 = .ok (.arraylength, 1) := by decide +kernel
theorem dX8_sumOf_6 : decode cX8_sumOf 6 = .ok (.istore_n 3, 1) := by decide +kernel
theorem dX8_sumOf_7 : decode cX8_sumOf 7 = .ok (.iconst 0, 1) := by decide +kernel
theorem dX8_sumOf_8 : decode cX8_sumOf 8 = .ok (.istore 4, 2) := by decide +kernel
theorem dX8_sumOf_10 : decode cX8_sumOf 10 = .ok (.iload 4, 2) := by decide +kernel
theorem dX8_sumOf_12 : decode cX8_sumOf 12 = .ok (.iload_n 3, 1) := by decide +kernel
theorem dX8_sumOf_13 : decode cX8_sumOf 13 = .ok (.if_icmp .ge 20, 3) := by decide +kernel
theorem dX8_sumOf_16 : decode cX8_sumOf 16 = .ok (.aload_n 2, 1) := by decide +kernel
theorem dX8_sumOf_17 : decode cX8_sumOf 17 = .ok (.iload 4, 2) := by decide +kernel
theorem dX8_sumOf_19 : decode cX8_sumOf 19 = .ok (.iaload, 1) := by decide +kernel
theorem dX8_sumOf_20 : decode cX8_sumOf 20 = .ok (.istore 5, 2) := by decide +kernel
theorem dX8_sumOf_22 : decode cX8_sumOf 22 = .ok (.iload_n 1, 1) := by decide +kernel
theorem dX8_sumOf_23 : decode cX8_sumOf 23 = .ok (.iload 5, 2) := by decide +kernel
theorem dX8_sumOf_25 : decode cX8_sumOf 25 = .ok (.iadd, 1) := by decide +kernel
theorem dX8_sumOf_26 : decode cX8_sumOf 26 = .ok (.istore_n 1, 1) := by decide +kernel
theorem dX8_sumOf_27 : decode cX8_sumOf 27 = .ok (.iinc 4 1, 3) := by decide +kernel
theorem dX8_sumOf_30 : decode cX8_sumOf 30 = .ok (.goto (-20), 3) := by decide +kernel
theorem dX8_sumOf_33 : decode cX8_sumOf 33 = .ok (.iload_n 1, 1) := by decide +kernel
theorem dX8_sumOf_34 : decode cX8_sumOf 34 = .ok (.ireturn, 1) := by decide +kernel
theorem dX8_noteChange_0 : decode cX8_noteChange 0 = .ok (.aload_n 0, 1) := by decide +kernel
theorem dX8_noteChange_1 : decode cX8_noteChange 1 = .ok (.iconst 1, 1) := by decide +kernel
theorem dX8_noteChange_2 : decode cX8_noteChange 2 = .ok (.putfield 82, 3) := by decide +kernel
theorem dX8_noteChange_5 : decode cX8_noteChange 5 = .ok (.aload_n 0, 1) := by decide +kernel
theorem dX8_noteChange_6 : decode cX8_noteChange 6 = .ok (.iconst 1, 1) := by decide +kernel
theorem dX8_noteChange_7 : decode cX8_noteChange 7 = .ok (.putfield 86, 3) := by decide +kernel
theorem dX8_noteChange_10 : decode cX8_noteChange 10 = .ok (.return_, 1) := by decide +kernel
theorem dX8_refresh_0 : decode cX8_refresh 0 = .ok (.aload_n 0, 1) := by decide +kernel
theorem dX8_refresh_1 : decode cX8_refresh 1 = .ok (.getfield 82, 3) := by decide +kernel
theorem dX8_refresh_4 : decode cX8_refresh 4 = .ok (.ifCond .ne 4, 3) := by decide +kernel
theorem dX8_refresh_7 : decode cX8_refresh 7 = .ok (.return_, 1) := by decide +kernel
theorem dX8_refresh_8 : decode cX8_refresh 8 = .ok (.aload_n 0, 1) := by decide +kernel
theorem dX8_refresh_9 : decode cX8_refresh 9 = .ok (.getfield 40, 3) := by decide +kernel
theorem dX8_refresh_12 : decode cX8_refresh 12 = .ok (.aload_n 0, 1) := by decide +kernel
theorem dX8_refresh_13 : decode cX8_refresh 13 = .ok (.getfield 14, 3) := by decide +kernel
theorem dX8_refresh_16 : decode cX8_refresh 16 = .ok (.invokevirtual 338, 3) := by decide +kernel
theorem dX8_refresh_19 : decode cX8_refresh 19 = .ok (.aload_n 0, 1) := by decide +kernel
theorem dX8_refresh_20 : decode cX8_refresh 20 = .ok (.getfield 40, 3) := by decide +kernel
theorem dX8_refresh_23 : decode cX8_refresh 23 = .ok (.aload_n 0, 1) := by decide +kernel
theorem dX8_refresh_24 : decode cX8_refresh 24 = .ok (.getfield 18, 3) := by decide +kernel
theorem dX8_refresh_27 : decode cX8_refresh 27 = .ok (.invokevirtual 342, 3) := by decide +kernel
theorem dX8_refresh_30 : decode cX8_refresh 30 = .ok (.aload_n 0, 1) := by decide +kernel
theorem dX8_refresh_31 : decode cX8_refresh 31 = .ok (.getfield 40, 3) := by decide +kernel
theorem dX8_refresh_34 : decode cX8_refresh 34 = .ok (.aload_n 0, 1) := by decide +kernel
theorem dX8_refresh_35 : decode cX8_refresh 35 = .ok (.getfield 24, 3) := by decide +kernel
theorem dX8_refresh_38 : decode cX8_refresh 38 = .ok (.aload_n 0, 1) := by decide +kernel
theorem dX8_refresh_39 : decode cX8_refresh 39 = .ok (.invokevirtual 345, 3) := by decide +kernel
theorem dX8_refresh_42 : decode cX8_refresh 42 = .ok (.invokevirtual 348, 3) := by decide +kernel
theorem dX8_refresh_45 : decode cX8_refresh 45 = .ok (.aload_n 0, 1) := by decide +kernel
theorem dX8_refresh_46 : decode cX8_refresh 46 = .ok (.getfield 50, 3) := by decide +kernel
theorem dX8_refresh_49 : decode cX8_refresh 49 = .ok (.aload_n 0, 1) := by decide +kernel
theorem dX8_refresh_50 : decode cX8_refresh 50 = .ok (.getfield 40, 3) := by decide +kernel
theorem dX8_refresh_53 : decode cX8_refresh 53 = .ok (.invokevirtual 352, 3) := by decide +kernel
theorem dX8_refresh_56 : decode cX8_refresh 56 = .ok (.aload_n 0, 1) := by decide +kernel
theorem dX8_refresh_57 : decode cX8_refresh 57 = .ok (.iconst 0, 1) := by decide +kernel
theorem dX8_refresh_58 : decode cX8_refresh 58 = .ok (.putfield 82, 3) := by decide +kernel
theorem dX8_refresh_61 : decode cX8_refresh 61 = .ok (.return_, 1) := by decide +kernel
theorem dX8_allEvents_0 : decode cX8_allEvents 0 = .ok (.iconst 1, 1) := by decide +kernel
theorem dX8_allEvents_1 : decode cX8_allEvents 1 = .ok (.aload_n 0, 1) := by decide +kernel
theorem dX8_allEvents_2 : decode cX8_allEvents 2 = .ok (.getfield 24, 3) := by decide +kernel
theorem dX8_allEvents_5 : decode cX8_allEvents 5 = .ok (.getfield 158, 3) := by decide +kernel
theorem dX8_allEvents_8 : decode cX8_allEvents 8 = .ok (.ishl, 1) := by decide +kernel
theorem dX8_allEvents_9 : decode cX8_allEvents 9 = .ok (.iconst 1, 1) := by decide +kernel
theorem dX8_allEvents_10 : decode cX8_allEvents 10 = .ok (.isub, 1) := by decide +kernel
theorem dX8_allEvents_11 : decode cX8_allEvents 11 = .ok (.ireturn, 1) := by decide +kernel
theorem dX8_unsettledThings_0 : decode cX8_unsettledThings 0 = .ok (.aload_n 0, 1) := by decide +kernel
theorem dX8_unsettledThings_1 : decode cX8_unsettledThings 1 = .ok (.getfield 40, 3) := by decide +kernel
theorem dX8_unsettledThings_4 : decode cX8_unsettledThings 4 = .ok (.invokevirtual 201, 3) := by decide +kernel
theorem dX8_unsettledThings_7 : decode cX8_unsettledThings 7 = .ok (.aload_n 0, 1) := by decide +kernel
theorem dX8_unsettledThings_8 : decode cX8_unsettledThings 8 = .ok (.getfield 50, 3) := by decide +kernel
theorem dX8_unsettledThings_11 : decode cX8_unsettledThings 11 = .ok (.bipush 11, 2) := by decide +kernel
theorem dX8_unsettledThings_13 : decode cX8_unsettledThings 13 = .ok (.invokevirtual 356, 3) := by decide +kernel
theorem dX8_unsettledThings_16 : decode cX8_unsettledThings 16 = .ok (.iconst (-1), 1) := by decide +kernel
theorem dX8_unsettledThings_17 : decode cX8_unsettledThings 17 = .ok (.ixor, 1) := by decide +kernel
theorem dX8_unsettledThings_18 : decode cX8_unsettledThings 18 = .ok (.iand, 1) := by decide +kernel
theorem dX8_unsettledThings_19 : decode cX8_unsettledThings 19 = .ok (.ireturn, 1) := by decide +kernel
theorem dX8_fewestHooks_0 : decode cX8_fewestHooks 0 = .ok (.aload_n 0, 1) := by decide +kernel
theorem dX8_fewestHooks_1 : decode cX8_fewestHooks 1 = .ok (.getfield 44, 3) := by decide +kernel
theorem dX8_fewestHooks_4 : decode cX8_fewestHooks 4 = .ok (.aload_n 0, 1) := by decide +kernel
theorem dX8_fewestHooks_5 : decode cX8_fewestHooks 5 = .ok (.getfield 40, 3) := by decide +kernel
theorem dX8_fewestHooks_8 : decode cX8_fewestHooks 8 = .ok (.invokevirtual 359, 3) := by decide +kernel
theorem dX8_fewestHooks_11 : decode cX8_fewestHooks 11 = .ok (.iconst 0, 1) := by decide +kernel
theorem dX8_fewestHooks_12 : decode cX8_fewestHooks 12 = .ok (.istore_n 1, 1) := by decide +kernel
theorem dX8_fewestHooks_13 : decode cX8_fewestHooks 13 = .ok (.iload_n 1, 1) := by decide +kernel
theorem dX8_fewestHooks_14 : decode cX8_fewestHooks 14 = .ok (.aload_n 0, 1) := by decide +kernel
theorem dX8_fewestHooks_15 : decode cX8_fewestHooks 15 = .ok (.getfield 40, 3) := by decide +kernel
theorem dX8_fewestHooks_18 : decode cX8_fewestHooks 18 = .ok (.getfield 297, 3) := by decide +kernel
theorem dX8_fewestHooks_21 : decode cX8_fewestHooks 21 = .ok (.if_icmp .gt 47, 3) := by decide +kernel
theorem dX8_fewestHooks_24 : decode cX8_fewestHooks 24 = .ok (.aload_n 0, 1) := by decide +kernel
theorem dX8_fewestHooks_25 : decode cX8_fewestHooks 25 = .ok (.getfield 44, 3) := by decide +kernel
theorem dX8_fewestHooks_28 : decode cX8_fewestHooks 28 = .ok (.iload_n 1, 1) := by decide +kernel
theorem dX8_fewestHooks_29 : decode cX8_fewestHooks 29 = .ok (.putfield 297, 3) := by decide +kernel
theorem dX8_fewestHooks_32 : decode cX8_fewestHooks 32 = .ok (.aload_n 0, 1) := by decide +kernel
theorem dX8_fewestHooks_33 : decode cX8_fewestHooks 33 = .ok (.getfield 54, 3) := by decide +kernel
theorem dX8_fewestHooks_36 : decode cX8_fewestHooks 36 = .ok (.aload_n 0, 1) := by decide +kernel
theorem dX8_fewestHooks_37 : decode cX8_fewestHooks 37 = .ok (.getfield 44, 3) := by decide +kernel
theorem dX8_fewestHooks_40 : decode cX8_fewestHooks 40 = .ok (.invokevirtual 352, 3) := by decide +kernel
theorem dX8_fewestHooks_43 : decode cX8_fewestHooks 43 = .ok (.aload_n 0, 1) := by decide +kernel
theorem dX8_fewestHooks_44 : decode cX8_fewestHooks 44 = .ok (.getfield 54, 3) := by decide +kernel
theorem dX8_fewestHooks_47 : decode cX8_fewestHooks 47 = .ok (.getfield 265, 3) := by decide +kernel
theorem dX8_fewestHooks_50 : decode cX8_fewestHooks 50 = .ok (.aload_n 0, 1) := by decide +kernel
theorem dX8_fewestHooks_51 : decode cX8_fewestHooks 51 = .ok (.getfield 44, 3) := by decide +kernel
theorem dX8_fewestHooks_54 : decode cX8_fewestHooks 54 = .ok (.getfield 305, 3) := by decide +kernel
theorem dX8_fewestHooks_57 : decode cX8_fewestHooks 57 = .ok (.if_icmp .ne 5, 3) := by decide +kernel
theorem dX8_fewestHooks_60 : decode cX8_fewestHooks 60 = .ok (.iload_n 1, 1) := by decide +kernel
theorem dX8_fewestHooks_61 : decode cX8_fewestHooks 61 = .ok (.ireturn, 1) := by decide +kernel
theorem dX8_fewestHooks_62 : decode cX8_fewestHooks 62 = .ok (.iinc 1 1, 3) := by decide +kernel
theorem dX8_fewestHooks_65 : decode cX8_fewestHooks 65 = .ok (.goto (-52), 3) := by decide +kernel
theorem dX8_fewestHooks_68 : decode cX8_fewestHooks 68 = .ok (.iconst (-1), 1) := by decide +kernel
theorem dX8_fewestHooks_69 : decode cX8_fewestHooks 69 = .ok (.ireturn, 1) := by decide +kernel
theorem dX8_chooseSwap_0 : decode cX8_chooseSwap 0 = .ok (.aload_n 0, 1) := by decide +kernel
theorem dX8_chooseSwap_1 : decode cX8_chooseSwap 1 = .ok (.getfield 44, 3) := by decide +kernel
theorem dX8_chooseSwap_4 : decode cX8_chooseSwap 4 = .ok (.aload_n 0, 1) := by decide +kernel
theorem dX8_chooseSwap_5 : decode cX8_chooseSwap 5 = .ok (.getfield 40, 3) := by decide +kernel
theorem dX8_chooseSwap_8 : decode cX8_chooseSwap 8 = .ok (.invokevirtual 359, 3) := by decide +kernel
theorem dX8_chooseSwap_11 : decode cX8_chooseSwap 11 = .ok (.aload_n 0, 1) := by decide +kernel
theorem dX8_chooseSwap_12 : decode cX8_chooseSwap 12 = .ok (.getfield 60, 3) := by decide +kernel
theorem dX8_chooseSwap_15 : decode cX8_chooseSwap 15 = .ok (.invokevirtual 362, 3) := by decide +kernel
theorem dX8_chooseSwap_18 : decode cX8_chooseSwap 18 = .ok (.iconst 0, 1) := by decide +kernel
theorem dX8_chooseSwap_19 : decode cX8_chooseSwap 19 = .ok (.istore_n 1, 1) := by decide +kernel
theorem dX8_chooseSwap_20 : decode cX8_chooseSwap 20 = .ok (.iload_n 1, 1) := by decide +kernel
theorem dX8_chooseSwap_21 : decode cX8_chooseSwap 21 = .ok (.aload_n 0, 1) := by decide +kernel
theorem dX8_chooseSwap_22 : decode cX8_chooseSwap 22 = .ok (.getfield 40, 3) := by decide +kernel
theorem dX8_chooseSwap_25 : decode cX8_chooseSwap 25 = .ok (.getfield 305, 3) := by decide +kernel
theorem dX8_chooseSwap_28 : decode cX8_chooseSwap 28 = .ok (.if_icmp .ge 85, 3) := by decide +kernel
theorem dX8_chooseSwap_31 : decode cX8_chooseSwap 31 = .ok (.iload_n 1, 1) := by decide +kernel
theorem dX8_chooseSwap_32 : decode cX8_chooseSwap 32 = .ok (.iconst 1, 1) := by decide +kernel
theorem dX8_chooseSwap_33 : decode cX8_chooseSwap 33 = .ok (.iadd, 1) := by decide +kernel
theorem dX8_chooseSwap_34 : decode cX8_chooseSwap 34 = .ok (.istore_n 2, 1) := by decide +kernel
theorem dX8_chooseSwap_35 : decode cX8_chooseSwap 35 = .ok (.iload_n 2, 1) := by decide +kernel
theorem dX8_chooseSwap_36 : decode cX8_chooseSwap 36 = .ok (.aload_n 0, 1) := by decide +kernel
theorem dX8_chooseSwap_37 : decode cX8_chooseSwap 37 = .ok (.getfield 40, 3) := by decide +kernel
theorem dX8_chooseSwap_40 : decode cX8_chooseSwap 40 = .ok (.getfield 305, 3) := by decide +kernel
theorem dX8_chooseSwap_43 : decode cX8_chooseSwap 43 = .ok (.if_icmp .ge 64, 3) := by decide +kernel
theorem dX8_chooseSwap_46 : decode cX8_chooseSwap 46 = .ok (.aload_n 0, 1) := by decide +kernel
theorem dX8_chooseSwap_47 : decode cX8_chooseSwap 47 = .ok (.getfield 44, 3) := by decide +kernel
theorem dX8_chooseSwap_50 : decode cX8_chooseSwap 50 = .ok (.iload_n 1, 1) := by decide +kernel
theorem dX8_chooseSwap_51 : decode cX8_chooseSwap 51 = .ok (.iload_n 2, 1) := by decide +kernel
theorem dX8_chooseSwap_52 : decode cX8_chooseSwap 52 = .ok (.invokevirtual 365, 3) := by decide +kernel
theorem dX8_chooseSwap_55 : decode cX8_chooseSwap 55 = .ok (.aload_n 0, 1) := by decide +kernel
theorem dX8_chooseSwap_56 : decode cX8_chooseSwap 56 = .ok (.getfield 54, 3) := by decide +kernel
theorem dX8_chooseSwap_59 : decode cX8_chooseSwap 59 = .ok (.aload_n 0, 1) := by decide +kernel
theorem dX8_chooseSwap_60 : decode cX8_chooseSwap 60 = .ok (.getfield 44, 3) := by decide +kernel
theorem dX8_chooseSwap_63 : decode cX8_chooseSwap 63 = .ok (.invokevirtual 352, 3) := by decide +kernel
theorem dX8_chooseSwap_66 : decode cX8_chooseSwap 66 = .ok (.aload_n 0, 1) := by decide +kernel
theorem dX8_chooseSwap_67 : decode cX8_chooseSwap 67 = .ok (.getfield 60, 3) := by decide +kernel
theorem dX8_chooseSwap_70 : decode cX8_chooseSwap 70 = .ok (.iload_n 1, 1) := by decide +kernel
theorem dX8_chooseSwap_71 : decode cX8_chooseSwap 71 = .ok (.iload_n 2, 1) := by decide +kernel
theorem dX8_chooseSwap_72 : decode cX8_chooseSwap 72 = .ok (.aload_n 0, 1) := by decide +kernel
theorem dX8_chooseSwap_73 : decode cX8_chooseSwap 73 = .ok (.getfield 54, 3) := by decide +kernel
theorem dX8_chooseSwap_76 : decode cX8_chooseSwap 76 = .ok (.getfield 265, 3) := by decide +kernel
theorem dX8_chooseSwap_79 : decode cX8_chooseSwap 79 = .ok (.aload_n 0, 1) := by decide +kernel
theorem dX8_chooseSwap_80 : decode cX8_chooseSwap 80 = .ok (.getfield 54, 3) := by decide +kernel
theorem dX8_chooseSwap_83 : decode cX8_chooseSwap 83 = .ok (.getfield 268, 3) := by decide +kernel
theorem dX8_chooseSwap_86 : decode cX8_chooseSwap 86 = .ok (.invokestatic 271, 3) := by decide +kernel
theorem dX8_chooseSwap_89 : decode cX8_chooseSwap 89 = .ok (.invokevirtual 368, 3) := by decide +kernel
theorem dX8_chooseSwap_92 : decode cX8_chooseSwap 92 = .ok (.aload_n 0, 1) := by decide +kernel
theorem dX8_chooseSwap_93 : decode cX8_chooseSwap 93 = .ok (.getfield 44, 3) := by decide +kernel
theorem dX8_chooseSwap_96 : decode cX8_chooseSwap 96 = .ok (.iload_n 1, 1) := by decide +kernel
theorem dX8_chooseSwap_97 : decode cX8_chooseSwap 97 = .ok (.iload_n 2, 1) := by decide +kernel
theorem dX8_chooseSwap_98 : decode cX8_chooseSwap 98 = .ok (.invokevirtual 365, 3) := by decide +kernel
theorem dX8_chooseSwap_101 : decode cX8_chooseSwap 101 = .ok (.iinc 2 1, 3) := by decide +kernel
theorem dX8_chooseSwap_104 : decode cX8_chooseSwap 104 = .ok (.goto (-69), 3) := by decide +kernel
theorem dX8_chooseSwap_107 : decode cX8_chooseSwap 107 = .ok (.iinc 1 1, 3) := by decide +kernel
theorem dX8_chooseSwap_110 : decode cX8_chooseSwap 110 = .ok (.goto (-90), 3) := by decide +kernel
theorem dX8_chooseSwap_113 : decode cX8_chooseSwap 113 = .ok (.return_, 1) := by decide +kernel
theorem dX8_chooseLeft_0 : decode cX8_chooseLeft 0 = .ok (.aload_n 0, 1) := by decide +kernel
theorem dX8_chooseLeft_1 : decode cX8_chooseLeft 1 = .ok (.getfield 44, 3) := by decide +kernel
theorem dX8_chooseLeft_4 : decode cX8_chooseLeft 4 = .ok (.aload_n 0, 1) := by decide +kernel
theorem dX8_chooseLeft_5 : decode cX8_chooseLeft 5 = .ok (.getfield 40, 3) := by decide +kernel
theorem dX8_chooseLeft_8 : decode cX8_chooseLeft 8 = .ok (.invokevirtual 359, 3) := by decide +kernel
theorem dX8_chooseLeft_11 : decode cX8_chooseLeft 11 = .ok (.aload_n 0, 1) := by decide +kernel
theorem dX8_chooseLeft_12 : decode cX8_chooseLeft 12 = .ok (.getfield 60, 3) := by decide +kernel
theorem dX8_chooseLeft_15 : decode cX8_chooseLeft 15 = .ok (.invokevirtual 362, 3) := by decide +kernel
theorem dX8_chooseLeft_18 : decode cX8_chooseLeft 18 = .ok (.iconst 0, 1) := by decide +kernel
theorem dX8_chooseLeft_19 : decode cX8_chooseLeft 19 = .ok (.istore_n 2, 1) := by decide +kernel
theorem dX8_chooseLeft_20 : decode cX8_chooseLeft 20 = .ok (.iload_n 2, 1) := by decide +kernel
theorem dX8_chooseLeft_21 : decode cX8_chooseLeft 21 = .ok (.aload_n 0, 1) := by decide +kernel
theorem dX8_chooseLeft_22 : decode cX8_chooseLeft 22 = .ok (.getfield 40, 3) := by decide +kernel
theorem dX8_chooseLeft_25 : decode cX8_chooseLeft 25 = .ok (.getfield 297, 3) := by decide +kernel
theorem dX8_chooseLeft_28 : decode cX8_chooseLeft 28 = .ok (.if_icmp .ge 68, 3) := by decide +kernel
theorem dX8_chooseLeft_31 : decode cX8_chooseLeft 31 = .ok (.aload_n 0, 1) := by decide +kernel
theorem dX8_chooseLeft_32 : decode cX8_chooseLeft 32 = .ok (.getfield 44, 3) := by decide +kernel
theorem dX8_chooseLeft_35 : decode cX8_chooseLeft 35 = .ok (.getfield 372, 3) := by decide +kernel
theorem dX8_chooseLeft_38 : decode cX8_chooseLeft 38 = .ok (.iload_n 1, 1) := by decide +kernel
theorem dX8_chooseLeft_39 : decode cX8_chooseLeft 39 = .ok (.aload_n 0, 1) := by decide +kernel
theorem dX8_chooseLeft_40 : decode cX8_chooseLeft 40 = .ok (.getfield 40, 3) := by decide +kernel
theorem dX8_chooseLeft_43 : decode cX8_chooseLeft 43 = .ok (.getfield 372, 3) := by decide +kernel
theorem dX8_chooseLeft_46 : decode cX8_chooseLeft 46 = .ok (.iload_n 1, 1) := by decide +kernel
theorem dX8_chooseLeft_47 : decode cX8_chooseLeft 47 = .ok (.iaload, 1) := by decide +kernel
theorem dX8_chooseLeft_48 : decode cX8_chooseLeft 48 = .ok (.iconst 1, 1) := by decide +kernel
theorem dX8_chooseLeft_49 : decode cX8_chooseLeft 49 = .ok (.iload_n 2, 1) := by decide +kernel
theorem dX8_chooseLeft_50 : decode cX8_chooseLeft 50 = .ok (.ishl, 1) := by decide +kernel
theorem dX8_chooseLeft_51 : decode cX8_chooseLeft 51 = .ok (.ior, 1) := by decide +kernel
theorem dX8_chooseLeft_52 : decode cX8_chooseLeft 52 = .ok (.iastore, 1) := by decide +kernel
theorem dX8_chooseLeft_53 : decode cX8_chooseLeft 53 = .ok (.aload_n 0, 1) := by decide +kernel
theorem dX8_chooseLeft_54 : decode cX8_chooseLeft 54 = .ok (.getfield 54, 3) := by decide +kernel
theorem dX8_chooseLeft_57 : decode cX8_chooseLeft 57 = .ok (.aload_n 0, 1) := by decide +kernel
theorem dX8_chooseLeft_58 : decode cX8_chooseLeft 58 = .ok (.getfield 44, 3) := by decide +kernel
theorem dX8_chooseLeft_61 : decode cX8_chooseLeft 61 = .ok (.invokevirtual 352, 3) := by decide +kernel
theorem dX8_chooseLeft_64 : decode cX8_chooseLeft 64 = .ok (.aload_n 0, 1) := by decide +kernel
theorem dX8_chooseLeft_65 : decode cX8_chooseLeft 65 = .ok (.getfield 60, 3) := by decide +kernel
theorem dX8_chooseLeft_68 : decode cX8_chooseLeft 68 = .ok (.iload_n 2, 1) := by decide +kernel
theorem dX8_chooseLeft_69 : decode cX8_chooseLeft 69 = .ok (.iconst (-1), 1) := by decide +kernel
theorem dX8_chooseLeft_70 : decode cX8_chooseLeft 70 = .ok (.aload_n 0, 1) := by decide +kernel
theorem dX8_chooseLeft_71 : decode cX8_chooseLeft 71 = .ok (.getfield 54, 3) := by decide +kernel
theorem dX8_chooseLeft_74 : decode cX8_chooseLeft 74 = .ok (.getfield 265, 3) := by decide +kernel
theorem dX8_chooseLeft_77 : decode cX8_chooseLeft 77 = .ok (.aload_n 0, 1) := by decide +kernel
theorem dX8_chooseLeft_78 : decode cX8_chooseLeft 78 = .ok (.getfield 54, 3) := by decide +kernel
theorem dX8_chooseLeft_81 : decode cX8_chooseLeft 81 = .ok (.getfield 268, 3) := by decide +kernel
theorem dX8_chooseLeft_84 : decode cX8_chooseLeft 84 = .ok (.invokestatic 271, 3) := by decide +kernel
theorem dX8_chooseLeft_87 : decode cX8_chooseLeft 87 = .ok (.invokevirtual 368, 3) := by decide +kernel
theorem dX8_chooseLeft_90 : decode cX8_chooseLeft 90 = .ok (.iinc 2 1, 3) := by decide +kernel
theorem dX8_chooseLeft_93 : decode cX8_chooseLeft 93 = .ok (.goto (-73), 3) := by decide +kernel
theorem dX8_chooseLeft_96 : decode cX8_chooseLeft 96 = .ok (.return_, 1) := by decide +kernel
theorem dX8_chooseSpared_0 : decode cX8_chooseSpared 0 = .ok (.aload_n 0, 1) := by decide +kernel
theorem dX8_chooseSpared_1 : decode cX8_chooseSpared 1 = .ok (.getfield 60, 3) := by decide +kernel
theorem dX8_chooseSpared_4 : decode cX8_chooseSpared 4 = .ok (.invokevirtual 362, 3) := by decide +kernel
theorem dX8_chooseSpared_7 : decode cX8_chooseSpared 7 = .ok (.aload_n 0, 1) := by decide +kernel
theorem dX8_chooseSpared_8 : decode cX8_chooseSpared 8 = .ok (.getfield 40, 3) := by decide +kernel
theorem dX8_chooseSpared_11 : decode cX8_chooseSpared 11 = .ok (.invokevirtual 201, 3) := by decide +kernel
theorem dX8_chooseSpared_14 : decode cX8_chooseSpared 14 = .ok (.istore_n 1, 1) := by decide +kernel
theorem dX8_chooseSpared_15 : decode cX8_chooseSpared 15 = .ok (.aload_n 0, 1) := by decide +kernel
theorem dX8_chooseSpared_16 : decode cX8_chooseSpared 16 = .ok (.invokevirtual 345, 3) := by decide +kernel
theorem dX8_chooseSpared_19 : decode cX8_chooseSpared 19 = .ok (.istore_n 2, 1) := by decide +kernel
theorem dX8_chooseSpared_20 : decode cX8_chooseSpared 20 = .ok (.aload_n 0, 1) := by decide +kernel
theorem dX8_chooseSpared_21 : decode cX8_chooseSpared 21 = .ok (.getfield 78, 3) := by decide +kernel
theorem dX8_chooseSpared_24 : decode cX8_chooseSpared 24 = .ok (.iload_n 2, 1) := by decide +kernel
theorem dX8_chooseSpared_25 : decode cX8_chooseSpared 25 = .ok (.iaload, 1) := by decide +kernel
theorem dX8_chooseSpared_26 : decode cX8_chooseSpared 26 = .ok (.iload_n 1, 1) := by decide +kernel
theorem dX8_chooseSpared_27 : decode cX8_chooseSpared 27 = .ok (.if_icmp .ne 15, 3) := by decide +kernel
theorem dX8_chooseSpared_30 : decode cX8_chooseSpared 30 = .ok (.aload_n 0, 1) := by decide +kernel
theorem dX8_chooseSpared_31 : decode cX8_chooseSpared 31 = .ok (.getfield 60, 3) := by decide +kernel
theorem dX8_chooseSpared_34 : decode cX8_chooseSpared 34 = .ok (.iconst (-1), 1) := by decide +kernel
theorem dX8_chooseSpared_35 : decode cX8_chooseSpared 35 = .ok (.iconst (-1), 1) := by decide +kernel
theorem dX8_chooseSpared_36 : decode cX8_chooseSpared 36 = .ok (.iconst 0, 1) := by decide +kernel
theorem dX8_chooseSpared_37 : decode cX8_chooseSpared 37 = .ok (.iconst 0, 1) := by decide +kernel
theorem dX8_chooseSpared_38 : decode cX8_chooseSpared 38 = .ok (.invokevirtual 368, 3) := by decide +kernel
theorem dX8_chooseSpared_41 : decode cX8_chooseSpared 41 = .ok (.return_, 1) := by decide +kernel
theorem dX8_chooseSpared_42 : decode cX8_chooseSpared 42 = .ok (.iconst 0, 1) := by decide +kernel
theorem dX8_chooseSpared_43 : decode cX8_chooseSpared 43 = .ok (.istore_n 3, 1) := by decide +kernel
theorem dX8_chooseSpared_44 : decode cX8_chooseSpared 44 = .ok (.iload_n 3, 1) := by decide +kernel
theorem dX8_chooseSpared_45 : decode cX8_chooseSpared 45 = .ok (.aload_n 0, 1) := by decide +kernel
theorem dX8_chooseSpared_46 : decode cX8_chooseSpared 46 = .ok (.getfield 24, 3) := by decide +kernel
theorem dX8_chooseSpared_49 : decode cX8_chooseSpared 49 = .ok (.getfield 158, 3) := by decide +kernel
theorem dX8_chooseSpared_52 : decode cX8_chooseSpared 52 = .ok (.if_icmp .ge 37, 3) := by decide +kernel
theorem dX8_chooseSpared_55 : decode cX8_chooseSpared 55 = .ok (.aload_n 0, 1) := by decide +kernel
theorem dX8_chooseSpared_56 : decode cX8_chooseSpared 56 = .ok (.getfield 78, 3) := by decide +kernel
theorem dX8_chooseSpared_59 : decode cX8_chooseSpared 59 = .ok (.iload_n 2, 1) := by decide +kernel
theorem dX8_chooseSpared_60 : decode cX8_chooseSpared 60 = .ok (.iconst 1, 1) := by decide +kernel
theorem dX8_chooseSpared_61 : decode cX8_chooseSpared 61 = .ok (.iload_n 3, 1) := by decide +kernel
theorem dX8_chooseSpared_62 : decode cX8_chooseSpared 62 = .ok (.ishl, 1) := by decide +kernel
theorem dX8_chooseSpared_63 : decode cX8_chooseSpared 63 = .ok (.iconst (-1), 1) := by decide +kernel
theorem dX8_chooseSpared_64 : decode cX8_chooseSpared 64 = .ok (.ixor, 1) := by decide +kernel
theorem dX8_chooseSpared_65 : decode cX8_chooseSpared 65 = .ok (.iand, 1) := by decide +kernel
theorem dX8_chooseSpared_66 : decode cX8_chooseSpared 66 = .ok (.iaload, 1) := by decide +kernel
theorem dX8_chooseSpared_67 : decode cX8_chooseSpared 67 = .ok (.iload_n 1, 1) := by decide +kernel
theorem dX8_chooseSpared_68 : decode cX8_chooseSpared 68 = .ok (.if_icmp .ne 15, 3) := by decide +kernel
theorem dX8_chooseSpared_71 : decode cX8_chooseSpared 71 = .ok (.aload_n 0, 1) := by decide +kernel
theorem dX8_chooseSpared_72 : decode cX8_chooseSpared 72 = .ok (.getfield 60, 3) := by decide +kernel
theorem dX8_chooseSpared_75 : decode cX8_chooseSpared 75 = .ok (.iload_n 3, 1) := by decide +kernel
theorem dX8_chooseSpared_76 : decode cX8_chooseSpared 76 = .ok (.iconst (-1), 1) := by decide +kernel
theorem dX8_chooseSpared_77 : decode cX8_chooseSpared 77 = .ok (.iconst 0, 1) := by decide +kernel
theorem dX8_chooseSpared_78 : decode cX8_chooseSpared 78 = .ok (.iconst 0, 1) := by decide +kernel
theorem dX8_chooseSpared_79 : decode cX8_chooseSpared 79 = .ok (.invokevirtual 368, 3) := by decide +kernel
theorem dX8_chooseSpared_82 : decode cX8_chooseSpared 82 = .ok (.return_, 1) := by decide +kernel
theorem dX8_chooseSpared_83 : decode cX8_chooseSpared 83 = .ok (.iinc 3 1, 3) := by decide +kernel
theorem dX8_chooseSpared_86 : decode cX8_chooseSpared 86 = .ok (.goto (-42), 3) := by decide +kernel
theorem dX8_chooseSpared_89 : decode cX8_chooseSpared 89 = .ok (.iconst 0, 1) := by decide +kernel
theorem dX8_chooseSpared_90 : decode cX8_chooseSpared 90 = .ok (.istore_n 3, 1) := by decide +kernel
theorem dX8_chooseSpared_91 : decode cX8_chooseSpared 91 = .ok (.iload_n 3, 1) := by decide +kernel
theorem dX8_chooseSpared_92 : decode cX8_chooseSpared 92 = .ok (.aload_n 0, 1) := by decide +kernel
theorem dX8_chooseSpared_93 : decode cX8_chooseSpared 93 = .ok (.getfield 24, 3) := by decide +kernel
theorem dX8_chooseSpared_96 : decode cX8_chooseSpared 96 = .ok (.getfield 158, 3) := by decide +kernel
theorem dX8_chooseSpared_99 : decode cX8_chooseSpared 99 = .ok (.if_icmp .ge 66, 3) := by decide +kernel
theorem dX8_chooseSpared_102 : decode cX8_chooseSpared 102 = .ok (.iload_n 3, 1) := by decide +kernel
theorem dX8_chooseSpared_103 : decode cX8_chooseSpared 103 = .ok (.iconst 1, 1) := by decide +kernel
theorem dX8_chooseSpared_104 : decode cX8_chooseSpared 104 = .ok (.iadd, 1) := by decide +kernel
theorem dX8_chooseSpared_105 : decode cX8_chooseSpared 105 = .ok (.istore 4, 2) := by decide +kernel
theorem dX8_chooseSpared_107 : decode cX8_chooseSpared 107 = .ok (.iload 4, 2) := by decide +kernel
theorem dX8_chooseSpared_109 : decode cX8_chooseSpared 109 = .ok (.aload_n 0, 1) := by decide +kernel
theorem dX8_chooseSpared_110 : decode cX8_chooseSpared 110 = .ok (.getfield 24, 3) := by decide +kernel
theorem dX8_chooseSpared_113 : decode cX8_chooseSpared 113 = .ok (.getfield 158, 3) := by decide +kernel
theorem dX8_chooseSpared_116 : decode cX8_chooseSpared 116 = .ok (.if_icmp .ge 43, 3) := by decide +kernel
theorem dX8_chooseSpared_119 : decode cX8_chooseSpared 119 = .ok (.aload_n 0, 1) := by decide +kernel
theorem dX8_chooseSpared_120 : decode cX8_chooseSpared 120 = .ok (.getfield 78, 3) := by decide +kernel
theorem dX8_chooseSpared_123 : decode cX8_chooseSpared 123 = .ok (.iload_n 2, 1) := by decide +kernel
theorem dX8_chooseSpared_124 : decode cX8_chooseSpared 124 = .ok (.iconst 1, 1) := by decide +kernel
theorem dX8_chooseSpared_125 : decode cX8_chooseSpared 125 = .ok (.iload_n 3, 1) := by decide +kernel
theorem dX8_chooseSpared_126 : decode cX8_chooseSpared 126 = .ok (.ishl, 1) := by decide +kernel
theorem dX8_chooseSpared_127 : decode cX8_chooseSpared 127 = .ok (.iconst 1, 1) := by decide +kernel
theorem dX8_chooseSpared_128 : decode cX8_chooseSpared 128 = .ok (.iload 4, 2) := by decide +kernel
theorem dX8_chooseSpared_130 : decode cX8_chooseSpared 130 = .ok (.ishl, 1) := by decide +kernel
theorem dX8_chooseSpared_131 : decode cX8_chooseSpared 131 = .ok (.ior, 1) := by decide +kernel
theorem dX8_chooseSpared_132 : decode cX8_chooseSpared 132 = .ok (.iconst (-1), 1) := by decide +kernel
theorem dX8_chooseSpared_133 : decode cX8_chooseSpared 133 = .ok (.ixor, 1) := by decide +kernel
theorem dX8_chooseSpared_134 : decode cX8_chooseSpared 134 = .ok (.iand, 1) := by decide +kernel
theorem dX8_chooseSpared_135 : decode cX8_chooseSpared 135 = .ok (.iaload, 1) := by decide +kernel
theorem dX8_chooseSpared_136 : decode cX8_chooseSpared 136 = .ok (.iload_n 1, 1) := by decide +kernel
theorem dX8_chooseSpared_137 : decode cX8_chooseSpared 137 = .ok (.if_icmp .ne 16, 3) := by decide +kernel
theorem dX8_chooseSpared_140 : decode cX8_chooseSpared 140 = .ok (.aload_n 0, 1) := by decide +kernel
theorem dX8_chooseSpared_141 : decode cX8_chooseSpared 141 = .ok (.getfield 60, 3) := by decide +kernel
theorem dX8_chooseSpared_144 : decode cX8_chooseSpared 144 = .ok (.iload_n 3, 1) := by decide +kernel
theorem dX8_chooseSpared_145 : decode cX8_chooseSpared 145 = .ok (.iload 4, 2) := by decide +kernel
theorem dX8_chooseSpared_147 : decode cX8_chooseSpared 147 = .ok (.iconst 0, 1) := by decide +kernel
theorem dX8_chooseSpared_148 : decode cX8_chooseSpared 148 = .ok (.iconst 0, 1) := by decide +kernel
theorem dX8_chooseSpared_149 : decode cX8_chooseSpared 149 = .ok (.invokevirtual 368, 3) := by decide +kernel
theorem dX8_chooseSpared_152 : decode cX8_chooseSpared 152 = .ok (.return_, 1) := by decide +kernel
theorem dX8_chooseSpared_153 : decode cX8_chooseSpared 153 = .ok (.iinc 4 1, 3) := by decide +kernel
theorem dX8_chooseSpared_156 : decode cX8_chooseSpared 156 = .ok (.goto (-49), 3) := by decide +kernel
theorem dX8_chooseSpared_159 : decode cX8_chooseSpared 159 = .ok (.iinc 3 1, 3) := by decide +kernel
theorem dX8_chooseSpared_162 : decode cX8_chooseSpared 162 = .ok (.goto (-71), 3) := by decide +kernel
theorem dX8_chooseSpared_165 : decode cX8_chooseSpared 165 = .ok (.return_, 1) := by decide +kernel
theorem dX8_eventsThatNeverWere_0 : decode cX8_eventsThatNeverWere 0 = .ok (.aload_n 0, 1) := by decide +kernel
theorem dX8_eventsThatNeverWere_1 : decode cX8_eventsThatNeverWere 1 = .ok (.getfield 44, 3) := by decide +kernel
theorem dX8_eventsThatNeverWere_4 : decode cX8_eventsThatNeverWere 4 = .ok (.aload_n 0, 1) := by decide +kernel
theorem dX8_eventsThatNeverWere_5 : decode cX8_eventsThatNeverWere 5 = .ok (.getfield 40, 3) := by decide +kernel
theorem dX8_eventsThatNeverWere_8 : decode cX8_eventsThatNeverWere 8 = .ok (.invokevirtual 359, 3) := by decide +kernel
theorem dX8_eventsThatNeverWere_11 : decode cX8_eventsThatNeverWere 11 = .ok (.iconst 0, 1) := by decide +kernel
theorem dX8_eventsThatNeverWere_12 : decode cX8_eventsThatNeverWere 12 = .ok (.istore_n 1, 1) := by decide +kernel
theorem dX8_eventsThatNeverWere_13 : decode cX8_eventsThatNeverWere 13 = .ok (.iconst 0, 1) := by decide +kernel
theorem dX8_eventsThatNeverWere_14 : decode cX8_eventsThatNeverWere 14 = .ok (.istore_n 2, 1) := by decide +kernel
theorem dX8_eventsThatNeverWere_15 : decode cX8_eventsThatNeverWere 15 = .ok (.iload_n 2, 1) := by decide +kernel
theorem dX8_eventsThatNeverWere_16 : decode cX8_eventsThatNeverWere 16 = .ok (.aload_n 0, 1) := by decide +kernel
theorem dX8_eventsThatNeverWere_17 : decode cX8_eventsThatNeverWere 17 = .ok (.getfield 24, 3) := by decide +kernel
theorem dX8_eventsThatNeverWere_20 : decode cX8_eventsThatNeverWere 20 = .ok (.getfield 158, 3) := by decide +kernel
theorem dX8_eventsThatNeverWere_23 : decode cX8_eventsThatNeverWere 23 = .ok (.if_icmp .ge 54, 3) := by decide +kernel
theorem dX8_eventsThatNeverWere_26 : decode cX8_eventsThatNeverWere 26 = .ok (.aload_n 0, 1) := by decide +kernel
theorem dX8_eventsThatNeverWere_27 : decode cX8_eventsThatNeverWere 27 = .ok (.getfield 44, 3) := by decide +kernel
theorem dX8_eventsThatNeverWere_30 : decode cX8_eventsThatNeverWere 30 = .ok (.aload_n 0, 1) := by decide +kernel
theorem dX8_eventsThatNeverWere_31 : decode cX8_eventsThatNeverWere 31 = .ok (.getfield 24, 3) := by decide +kernel
theorem dX8_eventsThatNeverWere_34 : decode cX8_eventsThatNeverWere 34 = .ok (.aload_n 0, 1) := by decide +kernel
theorem dX8_eventsThatNeverWere_35 : decode cX8_eventsThatNeverWere 35 = .ok (.invokevirtual 345, 3) := by decide +kernel
theorem dX8_eventsThatNeverWere_38 : decode cX8_eventsThatNeverWere 38 = .ok (.iconst 1, 1) := by decide +kernel
theorem dX8_eventsThatNeverWere_39 : decode cX8_eventsThatNeverWere 39 = .ok (.iload_n 2, 1) := by decide +kernel
theorem dX8_eventsThatNeverWere_40 : decode cX8_eventsThatNeverWere 40 = .ok (.ishl, 1) := by decide +kernel
theorem dX8_eventsThatNeverWere_41 : decode cX8_eventsThatNeverWere 41 = .ok (.iconst (-1), 1) := by decide +kernel
theorem dX8_eventsThatNeverWere_42 : decode cX8_eventsThatNeverWere 42 = .ok (.ixor, 1) := by decide +kernel
theorem dX8_eventsThatNeverWere_43 : decode cX8_eventsThatNeverWere 43 = .ok (.iand, 1) := by decide +kernel
theorem dX8_eventsThatNeverWere_44 : decode cX8_eventsThatNeverWere 44 = .ok (.invokevirtual 348, 3) := by decide +kernel
theorem dX8_eventsThatNeverWere_47 : decode cX8_eventsThatNeverWere 47 = .ok (.aload_n 0, 1) := by decide +kernel
theorem dX8_eventsThatNeverWere_48 : decode cX8_eventsThatNeverWere 48 = .ok (.getfield 54, 3) := by decide +kernel
theorem dX8_eventsThatNeverWere_51 : decode cX8_eventsThatNeverWere 51 = .ok (.aload_n 0, 1) := by decide +kernel
theorem dX8_eventsThatNeverWere_52 : decode cX8_eventsThatNeverWere 52 = .ok (.getfield 44, 3) := by decide +kernel
theorem dX8_eventsThatNeverWere_55 : decode cX8_eventsThatNeverWere 55 = .ok (.invokevirtual 352, 3) := by decide +kernel
theorem dX8_eventsThatNeverWere_58 : decode cX8_eventsThatNeverWere 58 = .ok (.aload_n 0, 1) := by decide +kernel
theorem dX8_eventsThatNeverWere_59 : decode cX8_eventsThatNeverWere 59 = .ok (.invokevirtual 375, 3) := by decide +kernel
theorem dX8_eventsThatNeverWere_62 : decode cX8_eventsThatNeverWere 62 = .ok (.ifCond .eq 9, 3) := by decide +kernel
theorem dX8_eventsThatNeverWere_65 : decode cX8_eventsThatNeverWere 65 = .ok (.iload_n 1, 1) := by decide +kernel
theorem dX8_eventsThatNeverWere_66 : decode cX8_eventsThatNeverWere 66 = .ok (.iconst 1, 1) := by decide +kernel
theorem dX8_eventsThatNeverWere_67 : decode cX8_eventsThatNeverWere 67 = .ok (.iload_n 2, 1) := by decide +kernel
theorem dX8_eventsThatNeverWere_68 : decode cX8_eventsThatNeverWere 68 = .ok (.ishl, 1) := by decide +kernel
theorem dX8_eventsThatNeverWere_69 : decode cX8_eventsThatNeverWere 69 = .ok (.ior, 1) := by decide +kernel
theorem dX8_eventsThatNeverWere_70 : decode cX8_eventsThatNeverWere 70 = .ok (.istore_n 1, 1) := by decide +kernel
theorem dX8_eventsThatNeverWere_71 : decode cX8_eventsThatNeverWere 71 = .ok (.iinc 2 1, 3) := by decide +kernel
theorem dX8_eventsThatNeverWere_74 : decode cX8_eventsThatNeverWere 74 = .ok (.goto (-59), 3) := by decide +kernel
theorem dX8_eventsThatNeverWere_77 : decode cX8_eventsThatNeverWere 77 = .ok (.iload_n 1, 1) := by decide +kernel
theorem dX8_eventsThatNeverWere_78 : decode cX8_eventsThatNeverWere 78 = .ok (.ireturn, 1) := by decide +kernel
theorem dX8_allComesOut_0 : decode cX8_allComesOut 0 = .ok (.iconst 0, 1) := by decide +kernel
theorem dX8_allComesOut_1 : decode cX8_allComesOut 1 = .ok (.istore_n 1, 1) := by decide +kernel
theorem dX8_allComesOut_2 : decode cX8_allComesOut 2 = .ok (.iload_n 1, 1) := by decide +kernel
theorem dX8_allComesOut_3 : decode cX8_allComesOut 3 = .ok (.aload_n 0, 1) := by decide +kernel
theorem dX8_allComesOut_4 : decode cX8_allComesOut 4 = .ok (.getfield 28, 3) := by decide +kernel
theorem dX8_allComesOut_7 : decode cX8_allComesOut 7 = .ok (.getfield 158, 3) := by decide +kernel
theorem dX8_allComesOut_10 : decode cX8_allComesOut 10 = .ok (.if_icmp .ge 72, 3) := by decide +kernel
theorem dX8_allComesOut_13 : decode cX8_allComesOut 13 = .ok (.aload_n 0, 1) := by decide +kernel
theorem dX8_allComesOut_14 : decode cX8_allComesOut 14 = .ok (.getfield 28, 3) := by decide +kernel
theorem dX8_allComesOut_17 : decode cX8_allComesOut 17 = .ok (.getfield 378, 3) := by decide +kernel
theorem dX8_allComesOut_20 : decode cX8_allComesOut 20 = .ok (.iload_n 1, 1) := by decide +kernel
theorem dX8_allComesOut_21 : decode cX8_allComesOut 21 = .ok (.iaload, 1) := by decide +kernel
theorem dX8_allComesOut_22 : decode cX8_allComesOut 22 = .ok (.istore_n 2, 1) := by decide +kernel
theorem dX8_allComesOut_23 : decode cX8_allComesOut 23 = .ok (.aload_n 0, 1) := by decide +kernel
theorem dX8_allComesOut_24 : decode cX8_allComesOut 24 = .ok (.getfield 28, 3) := by decide +kernel
theorem dX8_allComesOut_27 : decode cX8_allComesOut 27 = .ok (.getfield 381, 3) := by decide +kernel
theorem dX8_allComesOut_30 : decode cX8_allComesOut 30 = .ok (.iload_n 1, 1) := by decide +kernel
theorem dX8_allComesOut_31 : decode cX8_allComesOut 31 = .ok (.iaload, 1) := by decide +kernel
theorem dX8_allComesOut_32 : decode cX8_allComesOut 32 = .ok (.istore_n 3, 1) := by decide +kernel
theorem dX8_allComesOut_33 : decode cX8_allComesOut 33 = .ok (.iload_n 3, 1) := by decide +kernel
theorem dX8_allComesOut_34 : decode cX8_allComesOut 34 = .ok (.aload_n 0, 1) := by decide +kernel
theorem dX8_allComesOut_35 : decode cX8_allComesOut 35 = .ok (.getfield 44, 3) := by decide +kernel
theorem dX8_allComesOut_38 : decode cX8_allComesOut 38 = .ok (.getfield 305, 3) := by decide +kernel
theorem dX8_allComesOut_41 : decode cX8_allComesOut 41 = .ok (.if_icmp .lt 5, 3) := by decide +kernel
theorem dX8_allComesOut_44 : decode cX8_allComesOut 44 = .ok (.iconst 0, 1) := by decide +kernel
theorem dX8_allComesOut_45 : decode cX8_allComesOut 45 = .ok (.ireturn, 1) := by decide +kernel
theorem dX8_allComesOut_46 : decode cX8_allComesOut 46 = .ok (.aload_n 0, 1) := by decide +kernel
theorem dX8_allComesOut_47 : decode cX8_allComesOut 47 = .ok (.getfield 54, 3) := by decide +kernel
theorem dX8_allComesOut_50 : decode cX8_allComesOut 50 = .ok (.iload_n 2, 1) := by decide +kernel
theorem dX8_allComesOut_51 : decode cX8_allComesOut 51 = .ok (.invokevirtual 356, 3) := by decide +kernel
theorem dX8_allComesOut_54 : decode cX8_allComesOut 54 = .ok (.iload_n 3, 1) := by decide +kernel
theorem dX8_allComesOut_55 : decode cX8_allComesOut 55 = .ok (.ishr, 1) := by decide +kernel
theorem dX8_allComesOut_56 : decode cX8_allComesOut 56 = .ok (.iconst 1, 1) := by decide +kernel
theorem dX8_allComesOut_57 : decode cX8_allComesOut 57 = .ok (.iand, 1) := by decide +kernel
theorem dX8_allComesOut_58 : decode cX8_allComesOut 58 = .ok (.istore 4, 2) := by decide +kernel
theorem dX8_allComesOut_60 : decode cX8_allComesOut 60 = .ok (.iload 4, 2) := by decide +kernel
theorem dX8_allComesOut_62 : decode cX8_allComesOut 62 = .ok (.aload_n 0, 1) := by decide +kernel
theorem dX8_allComesOut_63 : decode cX8_allComesOut 63 = .ok (.getfield 28, 3) := by decide +kernel
theorem dX8_allComesOut_66 : decode cX8_allComesOut 66 = .ok (.getfield 384, 3) := by decide +kernel
theorem dX8_allComesOut_69 : decode cX8_allComesOut 69 = .ok (.iload_n 1, 1) := by decide +kernel
theorem dX8_allComesOut_70 : decode cX8_allComesOut 70 = .ok (.iaload, 1) := by decide +kernel
theorem dX8_allComesOut_71 : decode cX8_allComesOut 71 = .ok (.if_icmp .eq 5, 3) := by decide +kernel
theorem dX8_allComesOut_74 : decode cX8_allComesOut 74 = .ok (.iconst 0, 1) := by decide +kernel
theorem dX8_allComesOut_75 : decode cX8_allComesOut 75 = .ok (.ireturn, 1) := by decide +kernel
theorem dX8_allComesOut_76 : decode cX8_allComesOut 76 = .ok (.iinc 1 1, 3) := by decide +kernel
theorem dX8_allComesOut_79 : decode cX8_allComesOut 79 = .ok (.goto (-77), 3) := by decide +kernel
theorem dX8_allComesOut_82 : decode cX8_allComesOut 82 = .ok (.iconst 1, 1) := by decide +kernel
theorem dX8_allComesOut_83 : decode cX8_allComesOut 83 = .ok (.ireturn, 1) := by decide +kernel
theorem dX8_sortsThatFit_0 : decode cX8_sortsThatFit 0 = .ok (.aload_n 0, 1) := by decide +kernel
theorem dX8_sortsThatFit_1 : decode cX8_sortsThatFit 1 = .ok (.getfield 44, 3) := by decide +kernel
theorem dX8_sortsThatFit_4 : decode cX8_sortsThatFit 4 = .ok (.aload_n 0, 1) := by decide +kernel
theorem dX8_sortsThatFit_5 : decode cX8_sortsThatFit 5 = .ok (.getfield 40, 3) := by decide +kernel
theorem dX8_sortsThatFit_8 : decode cX8_sortsThatFit 8 = .ok (.invokevirtual 359, 3) := by decide +kernel
theorem dX8_sortsThatFit_11 : decode cX8_sortsThatFit 11 = .ok (.iconst 0, 1) := by decide +kernel
theorem dX8_sortsThatFit_12 : decode cX8_sortsThatFit 12 = .ok (.istore_n 2, 1) := by decide +kernel
theorem dX8_sortsThatFit_13 : decode cX8_sortsThatFit 13 = .ok (.iconst 0, 1) := by decide +kernel
theorem dX8_sortsThatFit_14 : decode cX8_sortsThatFit 14 = .ok (.istore_n 3, 1) := by decide +kernel
theorem dX8_sortsThatFit_15 : decode cX8_sortsThatFit 15 = .ok (.iload_n 3, 1) := by decide +kernel
theorem dX8_sortsThatFit_16 : decode cX8_sortsThatFit 16 = .ok (.iconst 3, 1) := by decide +kernel
theorem dX8_sortsThatFit_17 : decode cX8_sortsThatFit 17 = .ok (.if_icmp .ge 43, 3) := by decide +kernel
theorem dX8_sortsThatFit_20 : decode cX8_sortsThatFit 20 = .ok (.aload_n 0, 1) := by decide +kernel
theorem dX8_sortsThatFit_21 : decode cX8_sortsThatFit 21 = .ok (.getfield 44, 3) := by decide +kernel
theorem dX8_sortsThatFit_24 : decode cX8_sortsThatFit 24 = .ok (.getfield 137, 3) := by decide +kernel
theorem dX8_sortsThatFit_27 : decode cX8_sortsThatFit 27 = .ok (.iload_n 1, 1) := by decide +kernel
theorem dX8_sortsThatFit_28 : decode cX8_sortsThatFit 28 = .ok (.iload_n 3, 1) := by decide +kernel
theorem dX8_sortsThatFit_29 : decode cX8_sortsThatFit 29 = .ok (.iastore, 1) := by decide +kernel
theorem dX8_sortsThatFit_30 : decode cX8_sortsThatFit 30 = .ok (.aload_n 0, 1) := by decide +kernel
theorem dX8_sortsThatFit_31 : decode cX8_sortsThatFit 31 = .ok (.getfield 54, 3) := by decide +kernel
theorem dX8_sortsThatFit_34 : decode cX8_sortsThatFit 34 = .ok (.aload_n 0, 1) := by decide +kernel
theorem dX8_sortsThatFit_35 : decode cX8_sortsThatFit 35 = .ok (.getfield 44, 3) := by decide +kernel
theorem dX8_sortsThatFit_38 : decode cX8_sortsThatFit 38 = .ok (.invokevirtual 352, 3) := by decide +kernel
theorem dX8_sortsThatFit_41 : decode cX8_sortsThatFit 41 = .ok (.aload_n 0, 1) := by decide +kernel
theorem dX8_sortsThatFit_42 : decode cX8_sortsThatFit 42 = .ok (.invokevirtual 375, 3) := by decide +kernel
theorem dX8_sortsThatFit_45 : decode cX8_sortsThatFit 45 = .ok (.ifCond .eq 9, 3) := by decide +kernel
theorem dX8_sortsThatFit_48 : decode cX8_sortsThatFit 48 = .ok (.iload_n 2, 1) := by decide +kernel
theorem dX8_sortsThatFit_49 : decode cX8_sortsThatFit 49 = .ok (.iconst 1, 1) := by decide +kernel
theorem dX8_sortsThatFit_50 : decode cX8_sortsThatFit 50 = .ok (.iload_n 3, 1) := by decide +kernel
theorem dX8_sortsThatFit_51 : decode cX8_sortsThatFit 51 = .ok (.ishl, 1) := by decide +kernel
theorem dX8_sortsThatFit_52 : decode cX8_sortsThatFit 52 = .ok (.ior, 1) := by decide +kernel
theorem dX8_sortsThatFit_53 : decode cX8_sortsThatFit 53 = .ok (.istore_n 2, 1) := by decide +kernel
theorem dX8_sortsThatFit_54 : decode cX8_sortsThatFit 54 = .ok (.iinc 3 1, 3) := by decide +kernel
theorem dX8_sortsThatFit_57 : decode cX8_sortsThatFit 57 = .ok (.goto (-42), 3) := by decide +kernel
theorem dX8_sortsThatFit_60 : decode cX8_sortsThatFit 60 = .ok (.iload_n 2, 1) := by decide +kernel
theorem dX8_sortsThatFit_61 : decode cX8_sortsThatFit 61 = .ok (.ireturn, 1) := by decide +kernel
theorem dX8_tryHeats_0 : decode cX8_tryHeats 0 = .ok (.aload_n 0, 1) := by decide +kernel
theorem dX8_tryHeats_1 : decode cX8_tryHeats 1 = .ok (.getfield 44, 3) := by decide +kernel
theorem dX8_tryHeats_4 : decode cX8_tryHeats 4 = .ok (.aload_n 0, 1) := by decide +kernel
theorem dX8_tryHeats_5 : decode cX8_tryHeats 5 = .ok (.getfield 40, 3) := by decide +kernel
theorem dX8_tryHeats_8 : decode cX8_tryHeats 8 = .ok (.invokevirtual 359, 3) := by decide +kernel
theorem dX8_tryHeats_11 : decode cX8_tryHeats 11 = .ok (.aload_n 0, 1) := by decide +kernel
theorem dX8_tryHeats_12 : decode cX8_tryHeats 12 = .ok (.getfield 67, 3) := by decide +kernel
theorem dX8_tryHeats_15 : decode cX8_tryHeats 15 = .ok (.iconst 0, 1) := by decide +kernel
theorem dX8_tryHeats_16 : decode cX8_tryHeats 16 = .ok (.putfield 249, 3) := by decide +kernel
theorem dX8_tryHeats_19 : decode cX8_tryHeats 19 = .ok (.iconst 1, 1) := by decide +kernel
theorem dX8_tryHeats_20 : decode cX8_tryHeats 20 = .ok (.istore_n 2, 1) := by decide +kernel
theorem dX8_tryHeats_21 : decode cX8_tryHeats 21 = .ok (.iload_n 2, 1) := by decide +kernel
theorem dX8_tryHeats_22 : decode cX8_tryHeats 22 = .ok (.bipush 9, 2) := by decide +kernel
theorem dX8_tryHeats_24 : decode cX8_tryHeats 24 = .ok (.if_icmp .gt 88, 3) := by decide +kernel
theorem dX8_tryHeats_27 : decode cX8_tryHeats 27 = .ok (.aload_n 0, 1) := by decide +kernel
theorem dX8_tryHeats_28 : decode cX8_tryHeats 28 = .ok (.getfield 44, 3) := by decide +kernel
theorem dX8_tryHeats_31 : decode cX8_tryHeats 31 = .ok (.getfield 140, 3) := by decide +kernel
theorem dX8_tryHeats_34 : decode cX8_tryHeats 34 = .ok (.iload_n 1, 1) := by decide +kernel
theorem dX8_tryHeats_35 : decode cX8_tryHeats 35 = .ok (.iload_n 2, 1) := by decide +kernel
theorem dX8_tryHeats_36 : decode cX8_tryHeats 36 = .ok (.iastore, 1) := by decide +kernel
theorem dX8_tryHeats_37 : decode cX8_tryHeats 37 = .ok (.aload_n 0, 1) := by decide +kernel
theorem dX8_tryHeats_38 : decode cX8_tryHeats 38 = .ok (.getfield 54, 3) := by decide +kernel
theorem dX8_tryHeats_41 : decode cX8_tryHeats 41 = .ok (.aload_n 0, 1) := by decide +kernel
theorem dX8_tryHeats_42 : decode cX8_tryHeats 42 = .ok (.getfield 44, 3) := by decide +kernel
theorem dX8_tryHeats_45 : decode cX8_tryHeats 45 = .ok (.invokevirtual 352, 3) := by decide +kernel
theorem dX8_tryHeats_48 : decode cX8_tryHeats 48 = .ok (.aload_n 0, 1) := by decide +kernel
theorem dX8_tryHeats_49 : decode cX8_tryHeats 49 = .ok (.invokevirtual 375, 3) := by decide +kernel
theorem dX8_tryHeats_52 : decode cX8_tryHeats 52 = .ok (.ifCond .eq 18, 3) := by decide +kernel
theorem dX8_tryHeats_55 : decode cX8_tryHeats 55 = .ok (.aload_n 0, 1) := by decide +kernel
theorem dX8_tryHeats_56 : decode cX8_tryHeats 56 = .ok (.getfield 67, 3) := by decide +kernel
theorem dX8_tryHeats_59 : decode cX8_tryHeats 59 = .ok (.dup, 1) := by decide +kernel
theorem dX8_tryHeats_60 : decode cX8_tryHeats 60 = .ok (.getfield 249, 3) := by decide +kernel
theorem dX8_tryHeats_63 : decode cX8_tryHeats 63 = .ok (.iconst 1, 1) := by decide +kernel
theorem dX8_tryHeats_64 : decode cX8_tryHeats 64 = .ok (.iload_n 2, 1) := by decide +kernel
theorem dX8_tryHeats_65 : decode cX8_tryHeats 65 = .ok (.ishl, 1) := by decide +kernel
theorem dX8_tryHeats_66 : decode cX8_tryHeats 66 = .ok (.ior, 1) := by decide +kernel
theorem dX8_tryHeats_67 : decode cX8_tryHeats 67 = .ok (.putfield 249, 3) := by decide +kernel
theorem dX8_tryHeats_70 : decode cX8_tryHeats 70 = .ok (.iconst 0, 1) := by decide +kernel
theorem dX8_tryHeats_71 : decode cX8_tryHeats 71 = .ok (.istore_n 3, 1) := by decide +kernel
theorem dX8_tryHeats_72 : decode cX8_tryHeats 72 = .ok (.iload_n 3, 1) := by decide +kernel
theorem dX8_tryHeats_73 : decode cX8_tryHeats 73 = .ok (.bipush 12, 2) := by decide +kernel
theorem dX8_tryHeats_75 : decode cX8_tryHeats 75 = .ok (.if_icmp .ge 31, 3) := by decide +kernel
theorem dX8_tryHeats_78 : decode cX8_tryHeats 78 = .ok (.aload_n 0, 1) := by decide +kernel
theorem dX8_tryHeats_79 : decode cX8_tryHeats 79 = .ok (.getfield 67, 3) := by decide +kernel
theorem dX8_tryHeats_82 : decode cX8_tryHeats 82 = .ok (.getfield 387, 3) := by decide +kernel
theorem dX8_tryHeats_85 : decode cX8_tryHeats 85 = .ok (.iload_n 2, 1) := by decide +kernel
theorem dX8_tryHeats_86 : decode cX8_tryHeats 86 = .ok (.bipush 12, 2) := by decide +kernel
theorem dX8_tryHeats_88 : decode cX8_tryHeats 88 = .ok (.imul, 1) := by decide +kernel
theorem dX8_tryHeats_89 : decode cX8_tryHeats 89 = .ok (.iload_n 3, 1) := by decide +kernel
theorem dX8_tryHeats_90 : decode cX8_tryHeats 90 = .ok (.iadd, 1) := by decide +kernel
theorem dX8_tryHeats_91 : decode cX8_tryHeats 91 = .ok (.aload_n 0, 1) := by decide +kernel
theorem dX8_tryHeats_92 : decode cX8_tryHeats 92 = .ok (.getfield 54, 3) := by decide +kernel
theorem dX8_tryHeats_95 : decode cX8_tryHeats 95 = .ok (.iload_n 3, 1) := by decide +kernel
theorem dX8_tryHeats_96 : decode cX8_tryHeats 96 = .ok (.invokevirtual 356, 3) := by decide +kernel
theorem dX8_tryHeats_99 : decode cX8_tryHeats 99 = .ok (.iastore, 1) := by decide +kernel
theorem dX8_tryHeats_100 : decode cX8_tryHeats 100 = .ok (.iinc 3 1, 3) := by decide +kernel
theorem dX8_tryHeats_103 : decode cX8_tryHeats 103 = .ok (.goto (-31), 3) := by decide +kernel
theorem dX8_tryHeats_106 : decode cX8_tryHeats 106 = .ok (.iinc 2 1, 3) := by decide +kernel
theorem dX8_tryHeats_109 : decode cX8_tryHeats 109 = .ok (.goto (-88), 3) := by decide +kernel
theorem dX8_tryHeats_112 : decode cX8_tryHeats 112 = .ok (.return_, 1) := by decide +kernel
theorem dX8_refreshEnds_0 : decode cX8_refreshEnds 0 = .ok (.aload_n 0, 1) := by decide +kernel
theorem dX8_refreshEnds_1 : decode cX8_refreshEnds 1 = .ok (.getfield 86, 3) := by decide +kernel
theorem dX8_refreshEnds_4 : decode cX8_refreshEnds 4 = .ok (.ifCond .ne 4, 3) := by decide +kernel
theorem dX8_refreshEnds_7 : decode cX8_refreshEnds 7 = .ok (.return_, 1) := by decide +kernel
theorem dX8_refreshEnds_8 : decode cX8_refreshEnds 8 = .ok (.aload_n 0, 1) := by decide +kernel
theorem dX8_refreshEnds_9 : decode cX8_refreshEnds 9 = .ok (.getfield 44, 3) := by decide +kernel
theorem dX8_refreshEnds_12 : decode cX8_refreshEnds 12 = .ok (.aload_n 0, 1) := by decide +kernel
theorem dX8_refreshEnds_13 : decode cX8_refreshEnds 13 = .ok (.getfield 40, 3) := by decide +kernel
theorem dX8_refreshEnds_16 : decode cX8_refreshEnds 16 = .ok (.invokevirtual 359, 3) := by decide +kernel
theorem dX8_refreshEnds_19 : decode cX8_refreshEnds 19 = .ok (.aload_n 0, 1) := by decide +kernel
theorem dX8_refreshEnds_20 : decode cX8_refreshEnds 20 = .ok (.invokevirtual 345, 3) := by decide +kernel
theorem dX8_refreshEnds_23 : decode cX8_refreshEnds 23 = .ok (.istore_n 1, 1) := by decide +kernel
theorem dX8_refreshEnds_24 : decode cX8_refreshEnds 24 = .ok (.iconst 0, 1) := by decide +kernel
theorem dX8_refreshEnds_25 : decode cX8_refreshEnds 25 = .ok (.istore_n 2, 1) := by decide +kernel
theorem dX8_refreshEnds_26 : decode cX8_refreshEnds 26 = .ok (.iload_n 2, 1) := by decide +kernel
theorem dX8_refreshEnds_27 : decode cX8_refreshEnds 27 = .ok (.iload_n 1, 1) := by decide +kernel
theorem dX8_refreshEnds_28 : decode cX8_refreshEnds 28 = .ok (.if_icmp .gt 47, 3) := by decide +kernel
theorem dX8_refreshEnds_31 : decode cX8_refreshEnds 31 = .ok (.aload_n 0, 1) := by decide +kernel
theorem dX8_refreshEnds_32 : decode cX8_refreshEnds 32 = .ok (.getfield 44, 3) := by decide +kernel
theorem dX8_refreshEnds_35 : decode cX8_refreshEnds 35 = .ok (.aload_n 0, 1) := by decide +kernel
theorem dX8_refreshEnds_36 : decode cX8_refreshEnds 36 = .ok (.getfield 24, 3) := by decide +kernel
theorem dX8_refreshEnds_39 : decode cX8_refreshEnds 39 = .ok (.iload_n 2, 1) := by decide +kernel
theorem dX8_refreshEnds_40 : decode cX8_refreshEnds 40 = .ok (.invokevirtual 348, 3) := by decide +kernel
theorem dX8_refreshEnds_43 : decode cX8_refreshEnds 43 = .ok (.aload_n 0, 1) := by decide +kernel
theorem dX8_refreshEnds_44 : decode cX8_refreshEnds 44 = .ok (.getfield 54, 3) := by decide +kernel
theorem dX8_refreshEnds_47 : decode cX8_refreshEnds 47 = .ok (.aload_n 0, 1) := by decide +kernel
theorem dX8_refreshEnds_48 : decode cX8_refreshEnds 48 = .ok (.getfield 44, 3) := by decide +kernel
theorem dX8_refreshEnds_51 : decode cX8_refreshEnds 51 = .ok (.invokevirtual 352, 3) := by decide +kernel
theorem dX8_refreshEnds_54 : decode cX8_refreshEnds 54 = .ok (.aload_n 0, 1) := by decide +kernel
theorem dX8_refreshEnds_55 : decode cX8_refreshEnds 55 = .ok (.getfield 78, 3) := by decide +kernel
theorem dX8_refreshEnds_58 : decode cX8_refreshEnds 58 = .ok (.iload_n 2, 1) := by decide +kernel
theorem dX8_refreshEnds_59 : decode cX8_refreshEnds 59 = .ok (.aload_n 0, 1) := by decide +kernel
theorem dX8_refreshEnds_60 : decode cX8_refreshEnds 60 = .ok (.getfield 54, 3) := by decide +kernel
theorem dX8_refreshEnds_63 : decode cX8_refreshEnds 63 = .ok (.bipush 11, 2) := by decide +kernel
theorem dX8_refreshEnds_65 : decode cX8_refreshEnds 65 = .ok (.invokevirtual 356, 3) := by decide +kernel
theorem dX8_refreshEnds_68 : decode cX8_refreshEnds 68 = .ok (.iastore, 1) := by decide +kernel
theorem dX8_refreshEnds_69 : decode cX8_refreshEnds 69 = .ok (.iinc 2 1, 3) := by decide +kernel
theorem dX8_refreshEnds_72 : decode cX8_refreshEnds 72 = .ok (.goto (-46), 3) := by decide +kernel
theorem dX8_refreshEnds_75 : decode cX8_refreshEnds 75 = .ok (.aload_n 0, 1) := by decide +kernel
theorem dX8_refreshEnds_76 : decode cX8_refreshEnds 76 = .ok (.iconst 0, 1) := by decide +kernel
theorem dX8_refreshEnds_77 : decode cX8_refreshEnds 77 = .ok (.putfield 86, 3) := by decide +kernel
theorem dX8_refreshEnds_80 : decode cX8_refreshEnds 80 = .ok (.return_, 1) := by decide +kernel
theorem dX8_chanceOf_0 : decode cX8_chanceOf 0 = .ok (.lconst 0, 1) := by decide +kernel
theorem dX8_chanceOf_1 : decode cX8_chanceOf 1 = .ok (.lstore 4, 2) := by decide +kernel
theorem dX8_chanceOf_3 : decode cX8_chanceOf 3 = .ok (.aload_n 0, 1) := by decide +kernel
theorem dX8_chanceOf_4 : decode cX8_chanceOf 4 = .ok (.invokevirtual 345, 3) := by decide +kernel
theorem dX8_chanceOf_7 : decode cX8_chanceOf 7 = .ok (.istore 6, 2) := by decide +kernel
theorem dX8_chanceOf_9 : decode cX8_chanceOf 9 = .ok (.iconst 0, 1) := by decide +kernel
theorem dX8_chanceOf_10 : decode cX8_chanceOf 10 = .ok (.istore 7, 2) := by decide +kernel
theorem dX8_chanceOf_12 : decode cX8_chanceOf 12 = .ok (.iload 7, 2) := by decide +kernel
theorem dX8_chanceOf_14 : decode cX8_chanceOf 14 = .ok (.iload 6, 2) := by decide +kernel
theorem dX8_chanceOf_16 : decode cX8_chanceOf 16 = .ok (.if_icmp .gt 36, 3) := by decide +kernel
theorem dX8_chanceOf_19 : decode cX8_chanceOf 19 = .ok (.aload_n 0, 1) := by decide +kernel
theorem dX8_chanceOf_20 : decode cX8_chanceOf 20 = .ok (.getfield 78, 3) := by decide +kernel
theorem dX8_chanceOf_23 : decode cX8_chanceOf 23 = .ok (.iload 7, 2) := by decide +kernel
theorem dX8_chanceOf_25 : decode cX8_chanceOf 25 = .ok (.iaload, 1) := by decide +kernel
theorem dX8_chanceOf_26 : decode cX8_chanceOf 26 = .ok (.iload_n 2, 1) := by decide +kernel
theorem dX8_chanceOf_27 : decode cX8_chanceOf 27 = .ok (.ishr, 1) := by decide +kernel
theorem dX8_chanceOf_28 : decode cX8_chanceOf 28 = .ok (.iconst 1, 1) := by decide +kernel
theorem dX8_chanceOf_29 : decode cX8_chanceOf 29 = .ok (.iand, 1) := by decide +kernel
theorem dX8_chanceOf_30 : decode cX8_chanceOf 30 = .ok (.iconst 1, 1) := by decide +kernel
theorem dX8_chanceOf_31 : decode cX8_chanceOf 31 = .ok (.if_icmp .ne 15, 3) := by decide +kernel
theorem dX8_chanceOf_34 : decode cX8_chanceOf 34 = .ok (.lload 4, 2) := by decide +kernel
theorem dX8_chanceOf_36 : decode cX8_chanceOf 36 = .ok (.aload_n 0, 1) := by decide +kernel
theorem dX8_chanceOf_37 : decode cX8_chanceOf 37 = .ok (.iload_n 1, 1) := by decide +kernel
theorem dX8_chanceOf_38 : decode cX8_chanceOf 38 = .ok (.iload 7, 2) := by decide +kernel
theorem dX8_chanceOf_40 : decode cX8_chanceOf 40 = .ok (.invokevirtual 390, 3) := by decide +kernel
theorem dX8_chanceOf_43 : decode cX8_chanceOf 43 = .ok (.ladd, 1) := by decide +kernel
theorem dX8_chanceOf_44 : decode cX8_chanceOf 44 = .ok (.lstore 4, 2) := by decide +kernel
theorem dX8_chanceOf_46 : decode cX8_chanceOf 46 = .ok (.iinc 7 1, 3) := by decide +kernel
theorem dX8_chanceOf_49 : decode cX8_chanceOf 49 = .ok (.goto (-37), 3) := by decide +kernel
theorem dX8_chanceOf_52 : decode cX8_chanceOf 52 = .ok (.lconst 1, 1) := by decide +kernel
theorem dX8_chanceOf_53 : decode cX8_chanceOf 53 = .ok (.iconst 4, 1) := by decide +kernel
theorem dX8_chanceOf_54 : decode cX8_chanceOf 54 = .ok (.aload_n 0, 1) := by decide +kernel
theorem dX8_chanceOf_55 : decode cX8_chanceOf 55 = .ok (.getfield 24, 3) := by decide +kernel
theorem dX8_chanceOf_58 : decode cX8_chanceOf 58 = .ok (.getfield 158, 3) := by decide +kernel
theorem dX8_chanceOf_61 : decode cX8_chanceOf 61 = .ok (.imul, 1) := by decide +kernel
theorem dX8_chanceOf_62 : decode cX8_chanceOf 62 = .ok (.lshl, 1) := by decide +kernel
theorem dX8_chanceOf_63 : decode cX8_chanceOf 63 = .ok (.lstore 7, 2) := by decide +kernel
theorem dX8_chanceOf_65 : decode cX8_chanceOf 65 = .ok (.iconst 0, 1) := by decide +kernel
theorem dX8_chanceOf_66 : decode cX8_chanceOf 66 = .ok (.istore 9, 2) := by decide +kernel
theorem dX8_chanceOf_68 : decode cX8_chanceOf 68 = .ok (.iload 9, 2) := by decide +kernel
theorem dX8_chanceOf_70 : decode cX8_chanceOf 70 = .ok (.bipush 32, 2) := by decide +kernel
theorem dX8_chanceOf_72 : decode cX8_chanceOf 72 = .ok (.if_icmp .ge 37, 3) := by decide +kernel
theorem dX8_chanceOf_75 : decode cX8_chanceOf 75 = .ok (.lload 7, 2) := by decide +kernel
theorem dX8_chanceOf_77 : decode cX8_chanceOf 77 = .ok (.lconst 1, 1) := by decide +kernel
theorem dX8_chanceOf_78 : decode cX8_chanceOf 78 = .ok (.lcmp, 1) := by decide +kernel
theorem dX8_chanceOf_79 : decode cX8_chanceOf 79 = .ok (.ifCond .le 30, 3) := by decide +kernel
theorem dX8_chanceOf_82 : decode cX8_chanceOf 82 = .ok (.lload 4, 2) := by decide +kernel
theorem dX8_chanceOf_84 : decode cX8_chanceOf 84 = .ok (.lconst 1, 1) := by decide +kernel
theorem dX8_chanceOf_85 : decode cX8_chanceOf 85 = .ok (.land, 1) := by decide +kernel
theorem dX8_chanceOf_86 : decode cX8_chanceOf 86 = .ok (.lconst 0, 1) := by decide +kernel
theorem dX8_chanceOf_87 : decode cX8_chanceOf 87 = .ok (.lcmp, 1) := by decide +kernel
theorem dX8_chanceOf_88 : decode cX8_chanceOf 88 = .ok (.ifCond .ne 21, 3) := by decide +kernel
theorem dX8_chanceOf_91 : decode cX8_chanceOf 91 = .ok (.lload 4, 2) := by decide +kernel
theorem dX8_chanceOf_93 : decode cX8_chanceOf 93 = .ok (.iconst 1, 1) := by decide +kernel
theorem dX8_chanceOf_94 : decode cX8_chanceOf 94 = .ok (.lshr, 1) := by decide +kernel
theorem dX8_chanceOf_95 : decode cX8_chanceOf 95 = .ok (.lstore 4, 2) := by decide +kernel
theorem dX8_chanceOf_97 : decode cX8_chanceOf 97 = .ok (.lload 7, 2) := by decide +kernel
theorem dX8_chanceOf_99 : decode cX8_chanceOf 99 = .ok (.iconst 1, 1) := by decide +kernel
theorem dX8_chanceOf_100 : decode cX8_chanceOf 100 = .ok (.lshr, 1) := by decide +kernel
theorem dX8_chanceOf_101 : decode cX8_chanceOf 101 = .ok (.lstore 7, 2) := by decide +kernel
theorem dX8_chanceOf_103 : decode cX8_chanceOf 103 = .ok (.iinc 9 1, 3) := by decide +kernel
theorem dX8_chanceOf_106 : decode cX8_chanceOf 106 = .ok (.goto (-38), 3) := by decide +kernel
theorem dX8_chanceOf_109 : decode cX8_chanceOf 109 = .ok (.iload_n 3, 1) := by decide +kernel
theorem dX8_chanceOf_110 : decode cX8_chanceOf 110 = .ok (.ifCond .ne 8, 3) := by decide +kernel
theorem dX8_chanceOf_113 : decode cX8_chanceOf 113 = .ok (.lload 4, 2) := by decide +kernel
theorem dX8_chanceOf_115 : decode cX8_chanceOf 115 = .ok (.goto 5, 3) := by decide +kernel
theorem dX8_chanceOf_118 : decode cX8_chanceOf 118 = .ok (.lload 7, 2) := by decide +kernel
theorem dX8_chanceOf_120 : decode cX8_chanceOf 120 = .ok (.lreturn, 1) := by decide +kernel
theorem dX8_weightOf_0 : decode cX8_weightOf 0 = .ok (.lconst 1, 1) := by decide +kernel
theorem dX8_weightOf_1 : decode cX8_weightOf 1 = .ok (.lstore_n 3, 1) := by decide +kernel
theorem dX8_weightOf_2 : decode cX8_weightOf 2 = .ok (.iconst 0, 1) := by decide +kernel
theorem dX8_weightOf_3 : decode cX8_weightOf 3 = .ok (.istore 5, 2) := by decide +kernel
theorem dX8_weightOf_5 : decode cX8_weightOf 5 = .ok (.iload 5, 2) := by decide +kernel
theorem dX8_weightOf_7 : decode cX8_weightOf 7 = .ok (.aload_n 0, 1) := by decide +kernel
theorem dX8_weightOf_8 : decode cX8_weightOf 8 = .ok (.getfield 24, 3) := by decide +kernel
theorem dX8_weightOf_11 : decode cX8_weightOf 11 = .ok (.getfield 158, 3) := by decide +kernel
theorem dX8_weightOf_14 : decode cX8_weightOf 14 = .ok (.if_icmp .ge 32, 3) := by decide +kernel
theorem dX8_weightOf_17 : decode cX8_weightOf 17 = .ok (.lload_n 3, 1) := by decide +kernel
theorem dX8_weightOf_18 : decode cX8_weightOf 18 = .ok (.iload_n 2, 1) := by decide +kernel
theorem dX8_weightOf_19 : decode cX8_weightOf 19 = .ok (.iload 5, 2) := by decide +kernel
theorem dX8_weightOf_21 : decode cX8_weightOf 21 = .ok (.ishr, 1) := by decide +kernel
theorem dX8_weightOf_22 : decode cX8_weightOf 22 = .ok (.iconst 1, 1) := by decide +kernel
theorem dX8_weightOf_23 : decode cX8_weightOf 23 = .ok (.iand, 1) := by decide +kernel
theorem dX8_weightOf_24 : decode cX8_weightOf 24 = .ok (.iconst 1, 1) := by decide +kernel
theorem dX8_weightOf_25 : decode cX8_weightOf 25 = .ok (.if_icmp .ne 8, 3) := by decide +kernel
theorem dX8_weightOf_28 : decode cX8_weightOf 28 = .ok (.iload_n 1, 1) := by decide +kernel
theorem dX8_weightOf_29 : decode cX8_weightOf 29 = .ok (.i2l, 1) := by decide +kernel
theorem dX8_weightOf_30 : decode cX8_weightOf 30 = .ok (.goto 8, 3) := by decide +kernel
theorem dX8_weightOf_33 : decode cX8_weightOf 33 = .ok (.bipush 16, 2) := by decide +kernel
theorem dX8_weightOf_35 : decode cX8_weightOf 35 = .ok (.iload_n 1, 1) := by decide +kernel
theorem dX8_weightOf_36 : decode cX8_weightOf 36 = .ok (.isub, 1) := by decide +kernel
theorem dX8_weightOf_37 : decode cX8_weightOf 37 = .ok (.i2l, 1) := by decide +kernel
theorem dX8_weightOf_38 : decode cX8_weightOf 38 = .ok (.lmul, 1) := by decide +kernel
theorem dX8_weightOf_39 : decode cX8_weightOf 39 = .ok (.lstore_n 3, 1) := by decide +kernel
theorem dX8_weightOf_40 : decode cX8_weightOf 40 = .ok (.iinc 5 1, 3) := by decide +kernel
theorem dX8_weightOf_43 : decode cX8_weightOf 43 = .ok (.goto (-38), 3) := by decide +kernel
theorem dX8_weightOf_46 : decode cX8_weightOf 46 = .ok (.lload_n 3, 1) := by decide +kernel
theorem dX8_weightOf_47 : decode cX8_weightOf 47 = .ok (.lreturn, 1) := by decide +kernel
theorem dX8_runSeason_0 : decode cX8_runSeason 0 = .ok (.aload_n 0, 1) := by decide +kernel
theorem dX8_runSeason_1 : decode cX8_runSeason 1 = .ok (.getfield 44, 3) := by decide +kernel
theorem dX8_runSeason_4 : decode cX8_runSeason 4 = .ok (.aload_n 0, 1) := by decide +kernel
theorem dX8_runSeason_5 : decode cX8_runSeason 5 = .ok (.getfield 40, 3) := by decide +kernel
theorem dX8_runSeason_8 : decode cX8_runSeason 8 = .ok (.invokevirtual 359, 3) := by decide +kernel
theorem dX8_runSeason_11 : decode cX8_runSeason 11 = .ok (.aload_n 0, 1) := by decide +kernel
theorem dX8_runSeason_12 : decode cX8_runSeason 12 = .ok (.getfield 74, 3) := by decide +kernel
theorem dX8_runSeason_15 : decode cX8_runSeason 15 = .ok (.iload_n 1, 1) := by decide +kernel
theorem dX8_runSeason_16 : decode cX8_runSeason 16 = .ok (.putfield 394, 3) := by decide +kernel
theorem dX8_runSeason_19 : decode cX8_runSeason 19 = .ok (.aload_n 0, 1) := by decide +kernel
theorem dX8_runSeason_20 : decode cX8_runSeason 20 = .ok (.getfield 44, 3) := by decide +kernel
theorem dX8_runSeason_23 : decode cX8_runSeason 23 = .ok (.iload_n 2, 1) := by decide +kernel
theorem dX8_runSeason_24 : decode cX8_runSeason 24 = .ok (.putfield 305, 3) := by decide +kernel
theorem dX8_runSeason_27 : decode cX8_runSeason 27 = .ok (.iconst 0, 1) := by decide +kernel
theorem dX8_runSeason_28 : decode cX8_runSeason 28 = .ok (.istore_n 3, 1) := by decide +kernel
theorem dX8_runSeason_29 : decode cX8_runSeason 29 = .ok (.iload_n 3, 1) := by decide +kernel
theorem dX8_runSeason_30 : decode cX8_runSeason 30 = .ok (.iload_n 2, 1) := by decide +kernel
theorem dX8_runSeason_31 : decode cX8_runSeason 31 = .ok (.if_icmp .ge 64, 3) := by decide +kernel
theorem dX8_runSeason_34 : decode cX8_runSeason 34 = .ok (.aload_n 0, 1) := by decide +kernel
theorem dX8_runSeason_35 : decode cX8_runSeason 35 = .ok (.getfield 44, 3) := by decide +kernel
theorem dX8_runSeason_38 : decode cX8_runSeason 38 = .ok (.getfield 137, 3) := by decide +kernel
theorem dX8_runSeason_41 : decode cX8_runSeason 41 = .ok (.iload_n 3, 1) := by decide +kernel
theorem dX8_runSeason_42 : decode cX8_runSeason 42 = .ok (.aload_n 0, 1) := by decide +kernel
theorem dX8_runSeason_43 : decode cX8_runSeason 43 = .ok (.getfield 74, 3) := by decide +kernel
theorem dX8_runSeason_46 : decode cX8_runSeason 46 = .ok (.iconst 3, 1) := by decide +kernel
theorem dX8_runSeason_47 : decode cX8_runSeason 47 = .ok (.invokevirtual 397, 3) := by decide +kernel
theorem dX8_runSeason_50 : decode cX8_runSeason 50 = .ok (.iastore, 1) := by decide +kernel
theorem dX8_runSeason_51 : decode cX8_runSeason 51 = .ok (.aload_n 0, 1) := by decide +kernel
theorem dX8_runSeason_52 : decode cX8_runSeason 52 = .ok (.getfield 44, 3) := by decide +kernel
theorem dX8_runSeason_55 : decode cX8_runSeason 55 = .ok (.getfield 140, 3) := by decide +kernel
theorem dX8_runSeason_58 : decode cX8_runSeason 58 = .ok (.iload_n 3, 1) := by decide +kernel
theorem dX8_runSeason_59 : decode cX8_runSeason 59 = .ok (.aload_n 0, 1) := by decide +kernel
theorem dX8_runSeason_60 : decode cX8_runSeason 60 = .ok (.getfield 74, 3) := by decide +kernel
theorem dX8_runSeason_63 : decode cX8_runSeason 63 = .ok (.bipush 9, 2) := by decide +kernel
theorem dX8_runSeason_65 : decode cX8_runSeason 65 = .ok (.invokevirtual 397, 3) := by decide +kernel
theorem dX8_runSeason_68 : decode cX8_runSeason 68 = .ok (.iconst 1, 1) := by decide +kernel
theorem dX8_runSeason_69 : decode cX8_runSeason 69 = .ok (.iadd, 1) := by decide +kernel
theorem dX8_runSeason_70 : decode cX8_runSeason 70 = .ok (.iastore, 1) := by decide +kernel
theorem dX8_runSeason_71 : decode cX8_runSeason 71 = .ok (.aload_n 0, 1) := by decide +kernel
theorem dX8_runSeason_72 : decode cX8_runSeason 72 = .ok (.getfield 44, 3) := by decide +kernel
theorem dX8_runSeason_75 : decode cX8_runSeason 75 = .ok (.getfield 143, 3) := by decide +kernel
theorem dX8_runSeason_78 : decode cX8_runSeason 78 = .ok (.iload_n 3, 1) := by decide +kernel
theorem dX8_runSeason_79 : decode cX8_runSeason 79 = .ok (.aload_n 0, 1) := by decide +kernel
theorem dX8_runSeason_80 : decode cX8_runSeason 80 = .ok (.getfield 74, 3) := by decide +kernel
theorem dX8_runSeason_83 : decode cX8_runSeason 83 = .ok (.bipush 10, 2) := by decide +kernel
theorem dX8_runSeason_85 : decode cX8_runSeason 85 = .ok (.invokevirtual 397, 3) := by decide +kernel
theorem dX8_runSeason_88 : decode cX8_runSeason 88 = .ok (.iastore, 1) := by decide +kernel
theorem dX8_runSeason_89 : decode cX8_runSeason 89 = .ok (.iinc 3 1, 3) := by decide +kernel
theorem dX8_runSeason_92 : decode cX8_runSeason 92 = .ok (.goto (-63), 3) := by decide +kernel
theorem dX8_runSeason_95 : decode cX8_runSeason 95 = .ok (.aload_n 0, 1) := by decide +kernel
theorem dX8_runSeason_96 : decode cX8_runSeason 96 = .ok (.getfield 54, 3) := by decide +kernel
theorem dX8_runSeason_99 : decode cX8_runSeason 99 = .ok (.aload_n 0, 1) := by decide +kernel
theorem dX8_runSeason_100 : decode cX8_runSeason 100 = .ok (.getfield 44, 3) := by decide +kernel
theorem dX8_runSeason_103 : decode cX8_runSeason 103 = .ok (.invokevirtual 352, 3) := by decide +kernel
theorem dX8_runSeason_106 : decode cX8_runSeason 106 = .ok (.return_, 1) := by decide +kernel
end
section
theorem dX9_init_0 : decode cX9_init 0 = .ok (.aload_n 0, 1) := by decide +kernel
theorem dX9_init_1 : decode cX9_init 1 = .ok (.invokespecial 1, 3) := by decide +kernel
theorem dX9_init_4 : decode cX9_init 4 = .ok (.aload_n 0, 1) := by decide +kernel
theorem dX9_init_5 : decode cX9_init 5 = .ok (.iconst 2, 1) := by decide +kernel
theorem dX9_init_6 : decode cX9_init 6 = .ok (.newarray .int, 2) := by decide +kernel
theorem dX9_init_8 : decode cX9_init 8 = .ok (.putfield 7, 3) := by decide +kernel
theorem dX9_init_11 : decode cX9_init 11 = .ok (.aload_n 0, 1) := by decide +kernel
theorem dX9_init_12 : decode cX9_init 12 = .ok (.bipush 62, 2) := by decide +kernel
theorem dX9_init_14 : decode cX9_init 14 = .ok (.newarray .int, 2) := by decide +kernel
theorem dX9_init_16 : decode cX9_init 16 = .ok (.putfield 13, 3) := by decide +kernel
theorem dX9_init_19 : decode cX9_init 19 = .ok (.aload_n 0, 1) := by decide +kernel
theorem dX9_init_20 : decode cX9_init 20 = .ok (.bipush 12, 2) := by decide +kernel
theorem dX9_init_22 : decode cX9_init 22 = .ok (.newarray .int, 2) := by decide +kernel
theorem dX9_init_24 : decode cX9_init 24 = .ok (.putfield 16, 3) := by decide +kernel
theorem dX9_init_27 : decode cX9_init 27 = .ok (.aload_n 0, 1) := by decide +kernel
theorem dX9_init_28 : decode cX9_init 28 = .ok (.bipush 9, 2) := by decide +kernel
theorem dX9_init_30 : decode cX9_init 30 = .ok (.newarray .int, 2) := by decide +kernel
theorem dX9_init_32 : decode cX9_init 32 = .ok (.putfield 19, 3) := by decide +kernel
theorem dX9_init_35 : decode cX9_init 35 = .ok (.aload_n 0, 1) := by decide +kernel
theorem dX9_init_36 : decode cX9_init 36 = .ok (.bipush 9, 2) := by decide +kernel
theorem dX9_init_38 : decode cX9_init 38 = .ok (.newarray .int, 2) := by decide +kernel
theorem dX9_init_40 : decode cX9_init 40 = .ok (.putfield 22, 3) := by decide +kernel
theorem dX9_init_43 : decode cX9_init 43 = .ok (.aload_n 0, 1) := by decide +kernel
theorem dX9_init_44 : decode cX9_init 44 = .ok (.bipush 9, 2) := by decide +kernel
theorem dX9_init_46 : decode cX9_init 46 = .ok (.newarray .int, 2) := by decide +kernel
theorem dX9_init_48 : decode cX9_init 48 = .ok (.putfield 25, 3) := by decide +kernel
theorem dX9_init_51 : decode cX9_init 51 = .ok (.aload_n 0, 1) := by decide +kernel
theorem dX9_init_52 : decode cX9_init 52 = .ok (.bipush 8, 2) := by decide +kernel
theorem dX9_init_54 : decode cX9_init 54 = .ok (.newarray .int, 2) := by decide +kernel
theorem dX9_init_56 : decode cX9_init 56 = .ok (.putfield 28, 3) := by decide +kernel
theorem dX9_init_59 : decode cX9_init 59 = .ok (.aload_n 0, 1) := by decide +kernel
theorem dX9_init_60 : decode cX9_init 60 = .ok (.bipush 8, 2) := by decide +kernel
theorem dX9_init_62 : decode cX9_init 62 = .ok (.newarray .int, 2) := by decide +kernel
theorem dX9_init_64 : decode cX9_init 64 = .ok (.putfield 31, 3) := by decide +kernel
theorem dX9_init_67 : decode cX9_init 67 = .ok (.aload_n 0, 1) := by decide +kernel
theorem dX9_init_68 : decode cX9_init 68 = .ok (.bipush 8, 2) := by decide +kernel
theorem dX9_init_70 : decode cX9_init 70 = .ok (.newarray .int, 2) := by decide +kernel
theorem dX9_init_72 : decode cX9_init 72 = .ok (.putfield 34, 3) := by decide +kernel
theorem dX9_init_75 : decode cX9_init 75 = .ok (.aload_n 0, 1) := by decide +kernel
theorem dX9_init_76 : decode cX9_init 76 = .ok (.bipush 8, 2) := by decide +kernel
theorem dX9_init_78 : decode cX9_init 78 = .ok (.newarray .int, 2) := by decide +kernel
theorem dX9_init_80 : decode cX9_init 80 = .ok (.putfield 37, 3) := by decide +kernel
theorem dX9_init_83 : decode cX9_init 83 = .ok (.aload_n 0, 1) := by decide +kernel
theorem dX9_init_84 : decode cX9_init 84 = .ok (.bipush 8, 2) := by decide +kernel
theorem dX9_init_86 : decode cX9_init 86 = .ok (.newarray .int, 2) := by decide +kernel
theorem dX9_init_88 : decode cX9_init 88 = .ok (.putfield 40, 3) := by decide +kernel
theorem dX9_init_91 : decode cX9_init 91 = .ok (.aload_n 0, 1) := by decide +kernel
theorem dX9_init_92 : decode cX9_init 92 = .ok (.bipush 8, 2) := by decide +kernel
theorem dX9_init_94 : decode cX9_init 94 = .ok (.newarray .int, 2) := by decide +kernel
theorem dX9_init_96 : decode cX9_init 96 = .ok (.putfield 43, 3) := by decide +kernel
theorem dX9_init_99 : decode cX9_init 99 = .ok (.aload_n 0, 1) := by decide +kernel
theorem dX9_init_100 : decode cX9_init 100 = .ok (.bipush 8, 2) := by decide +kernel
theorem dX9_init_102 : decode cX9_init 102 = .ok (.newarray .int, 2) := by decide +kernel
theorem dX9_init_104 : decode cX9_init 104 = .ok (.putfield 46, 3) := by decide +kernel
theorem dX9_init_107 : decode cX9_init 107 = .ok (.aload_n 0, 1) := by decide +kernel
theorem dX9_init_108 : decode cX9_init 108 = .ok (.bipush 8, 2) := by decide +kernel
theorem dX9_init_110 : decode cX9_init 110 = .ok (.newarray .int, 2) := by decide +kernel
theorem dX9_init_112 : decode cX9_init 112 = .ok (.putfield 49, 3) := by decide +kernel
theorem dX9_init_115 : decode cX9_init 115 = .ok (.aload_n 0, 1) := by decide +kernel
theorem dX9_init_116 : decode cX9_init 116 = .ok (.bipush 8, 2) := by decide +kernel
theorem dX9_init_118 : decode cX9_init 118 = .ok (.newarray .int, 2) := by decide +kernel
theorem dX9_init_120 : decode cX9_init 120 = .ok (.putfield 52, 3) := by decide +kernel
theorem dX9_init_123 : decode cX9_init 123 = .ok (.aload_n 0, 1) := by decide +kernel
theorem dX9_init_124 : decode cX9_init 124 = .ok (.bipush 8, 2) := by decide +kernel
theorem dX9_init_126 : decode cX9_init 126 = .ok (.newarray .int, 2) := by decide +kernel
theorem dX9_init_128 : decode cX9_init 128 = .ok (.putfield 55, 3) := by decide +kernel
theorem dX9_init_131 : decode cX9_init 131 = .ok (.aload_n 0, 1) := by decide +kernel
theorem dX9_init_132 : decode cX9_init 132 = .ok (.bipush 8, 2) := by decide +kernel
theorem dX9_init_134 : decode cX9_init 134 = .ok (.newarray .int, 2) := by decide +kernel
theorem dX9_init_136 : decode cX9_init 136 = .ok (.putfield 58, 3) := by decide +kernel
theorem dX9_init_139 : decode cX9_init 139 = .ok (.aload_n 0, 1) := by decide +kernel
theorem dX9_init_140 : decode cX9_init 140 = .ok (.bipush 96, 2) := by decide +kernel
theorem dX9_init_142 : decode cX9_init 142 = .ok (.newarray .int, 2) := by decide +kernel
theorem dX9_init_144 : decode cX9_init 144 = .ok (.putfield 61, 3) := by decide +kernel
theorem dX9_init_147 : decode cX9_init 147 = .ok (.aload_n 0, 1) := by decide +kernel
theorem dX9_init_148 : decode cX9_init 148 = .ok (.bipush 96, 2) := by decide +kernel
theorem dX9_init_150 : decode cX9_init 150 = .ok (.newarray .int, 2) := by decide +kernel
theorem dX9_init_152 : decode cX9_init 152 = .ok (.putfield 64, 3) := by decide +kernel
theorem dX9_init_155 : decode cX9_init 155 = .ok (.aload_n 0, 1) := by decide +kernel
theorem dX9_init_156 : decode cX9_init 156 = .ok (.sipush 144, 3) := by decide +kernel
theorem dX9_init_159 : decode cX9_init 159 = .ok (.newarray .int, 2) := by decide +kernel
theorem dX9_init_161 : decode cX9_init 161 = .ok (.putfield 67, 3) := by decide +kernel
theorem dX9_init_164 : decode cX9_init 164 = .ok (.aload_n 0, 1) := by decide +kernel
theorem dX9_init_165 : decode cX9_init 165 = .ok (.bipush 48, 2) := by decide +kernel
theorem dX9_init_167 : decode cX9_init 167 = .ok (.newarray .int, 2) := by decide +kernel
theorem dX9_init_169 : decode cX9_init 169 = .ok (.putfield 70, 3) := by decide +kernel
theorem dX9_init_172 : decode cX9_init 172 = .ok (.aload_n 0, 1) := by decide +kernel
theorem dX9_init_173 : decode cX9_init 173 = .ok (.bipush 12, 2) := by decide +kernel
theorem dX9_init_175 : decode cX9_init 175 = .ok (.newarray .int, 2) := by decide +kernel
theorem dX9_init_177 : decode cX9_init 177 = .ok (.putfield 73, 3) := by decide +kernel
theorem dX9_init_180 : decode cX9_init 180 = .ok (.aload_n 0, 1) := by decide +kernel
theorem dX9_init_181 : decode cX9_init 181 = .ok (.iconst 2, 1) := by decide +kernel
theorem dX9_init_182 : decode cX9_init 182 = .ok (.newarray .int, 2) := by decide +kernel
theorem dX9_init_184 : decode cX9_init 184 = .ok (.putfield 76, 3) := by decide +kernel
theorem dX9_init_187 : decode cX9_init 187 = .ok (.aload_n 0, 1) := by decide +kernel
theorem dX9_init_188 : decode cX9_init 188 = .ok (.bipush 8, 2) := by decide +kernel
theorem dX9_init_190 : decode cX9_init 190 = .ok (.newarray .int, 2) := by decide +kernel
theorem dX9_init_192 : decode cX9_init 192 = .ok (.putfield 79, 3) := by decide +kernel
theorem dX9_init_195 : decode cX9_init 195 = .ok (.aload_n 0, 1) := by decide +kernel
theorem dX9_init_196 : decode cX9_init 196 = .ok (.bipush 8, 2) := by decide +kernel
theorem dX9_init_198 : decode cX9_init 198 = .ok (.newarray .int, 2) := by decide +kernel
theorem dX9_init_200 : decode cX9_init 200 = .ok (.putfield 82, 3) := by decide +kernel
theorem dX9_init_203 : decode cX9_init 203 = .ok (.aload_n 0, 1) := by decide +kernel
theorem dX9_init_204 : decode cX9_init 204 = .ok (.bipush 8, 2) := by decide +kernel
theorem dX9_init_206 : decode cX9_init 206 = .ok (.newarray .int, 2) := by decide +kernel
theorem dX9_init_208 : decode cX9_init 208 = .ok (.putfield 85, 3) := by decide +kernel
theorem dX9_init_211 : decode cX9_init 211 = .ok (.aload_n 0, 1) := by decide +kernel
theorem dX9_init_212 : decode cX9_init 212 = .ok (.bipush 120, 2) := by decide +kernel
theorem dX9_init_214 : decode cX9_init 214 = .ok (.newarray .int, 2) := by decide +kernel
theorem dX9_init_216 : decode cX9_init 216 = .ok (.putfield 88, 3) := by decide +kernel
theorem dX9_init_219 : decode cX9_init 219 = .ok (.aload_n 0, 1) := by decide +kernel
theorem dX9_init_220 : decode cX9_init 220 = .ok (.iconst 4, 1) := by decide +kernel
theorem dX9_init_221 : decode cX9_init 221 = .ok (.newarray .boolean, 2) := by decide +kernel
theorem dX9_init_223 : decode cX9_init 223 = .ok (.putfield 91, 3) := by decide +kernel
theorem dX9_init_226 : decode cX9_init 226 = .ok (.aload_n 0, 1) := by decide +kernel
theorem dX9_init_227 : decode cX9_init 227 = .ok (.iconst 4, 1) := by decide +kernel
theorem dX9_init_228 : decode cX9_init 228 = .ok (.newarray .int, 2) := by decide +kernel
theorem dX9_init_230 : decode cX9_init 230 = .ok (.putfield 95, 3) := by decide +kernel
theorem dX9_init_233 : decode cX9_init 233 = .ok (.aload_n 0, 1) := by decide +kernel
theorem dX9_init_234 : decode cX9_init 234 = .ok (.iconst 4, 1) := by decide +kernel
theorem dX9_init_235 : decode cX9_init 235 = .ok (.newarray .int, 2) := by decide +kernel
theorem dX9_init_237 : decode cX9_init 237 = .ok (.putfield 98, 3) := by decide +kernel
theorem dX9_init_240 : decode cX9_init 240 = .ok (.aload_n 0, 1) := by decide +kernel
theorem dX9_init_241 : decode cX9_init 241 = .ok (.sipush 240, 3) := by decide +kernel
theorem dX9_init_244 : decode cX9_init 244 = .ok (.newarray .int, 2) := by decide +kernel
theorem dX9_init_246 : decode cX9_init 246 = .ok (.putfield 101, 3) := by decide +kernel
theorem dX9_init_249 : decode cX9_init 249 = .ok (.aload_n 0, 1) := by decide +kernel
theorem dX9_init_250 : decode cX9_init 250 = .ok (.bipush 60, 2) := by decide +kernel
theorem dX9_init_252 : decode cX9_init 252 = .ok (.newarray .int, 2) := by decide +kernel
theorem dX9_init_254 : decode cX9_init 254 = .ok (.putfield 104, 3) := by decide +kernel
theorem dX9_init_257 : decode cX9_init 257 = .ok (.return_, 1) := by decide +kernel
theorem dX9_in_0 : decode cX9_in 0 = .ok (.iload_n 0, 1) := by decide +kernel
theorem dX9_in_1 : decode cX9_in 1 = .ok (.iload_n 1, 1) := by decide +kernel
theorem dX9_in_2 : decode cX9_in 2 = .ok (.if_icmp .lt 12, 3) := by decide +kernel
theorem dX9_in_5 : decode cX9_in 5 = .ok (.iload_n 0, 1) := by decide +kernel
theorem dX9_in_6 : decode cX9_in 6 = .ok (.iload_n 2, 1) := by decide +kernel
theorem dX9_in_7 : decode cX9_in 7 = .ok (.if_icmp .gt 7, 3) := by decide +kernel
theorem dX9_in_10 : decode cX9_in 10 = .ok (.iconst 1, 1) := by decide +kernel
theorem dX9_in_11 : decode cX9_in 11 = .ok (.goto 4, 3) := by decide +kernel
theorem dX9_in_14 : decode cX9_in 14 = .ok (.iconst 0, 1) := by decide +kernel
theorem dX9_in_15 : decode cX9_in 15 = .ok (.ireturn, 1) := by decide +kernel
theorem dX9_isIn_0 : decode cX9_isIn 0 = .ok (.iload_n 0, 1) := by decide +kernel
theorem dX9_isIn_1 : decode cX9_isIn 1 = .ok (.iload_n 1, 1) := by decide +kernel
theorem dX9_isIn_2 : decode cX9_isIn 2 = .ok (.ishr, 1) := by decide +kernel
theorem dX9_isIn_3 : decode cX9_isIn 3 = .ok (.iconst 1, 1) := by decide +kernel
theorem dX9_isIn_4 : decode cX9_isIn 4 = .ok (.iand, 1) := by decide +kernel
theorem dX9_isIn_5 : decode cX9_isIn 5 = .ok (.iconst 1, 1) := by decide +kernel
theorem dX9_isIn_6 : decode cX9_isIn 6 = .ok (.if_icmp .ne 7, 3) := by decide +kernel
theorem dX9_isIn_9 : decode cX9_isIn 9 = .ok (.iconst 1, 1) := by decide +kernel
theorem dX9_isIn_10 : decode cX9_isIn 10 = .ok (.goto 4, 3) := by decide +kernel
theorem dX9_isIn_13 : decode cX9_isIn 13 = .ok (.iconst 0, 1) := by decide +kernel
theorem dX9_isIn_14 : decode cX9_isIn 14 = .ok (.ireturn, 1) := by decide +kernel
theorem dX9_no_0 : decode cX9_no 0 = .ok (.ldc2_w 107, 3) := by decide +kernel
theorem dX9_no_3 : decode cX9_no 3 = .ok (.iload_n 0, 1) := by decide +kernel
theorem dX9_no_4 : decode cX9_no 4 = .ok (.i2l, 1) := by decide +kernel
theorem dX9_no_5 : decode cX9_no 5 = .ok (.lsub, 1) := by decide +kernel
theorem dX9_no_6 : decode cX9_no 6 = .ok (.lreturn, 1) := by decide +kernel
theorem dX9_lowest_0 : decode cX9_lowest 0 = .ok (.lload_n 0, 1) := by decide +kernel
theorem dX9_lowest_1 : decode cX9_lowest 1 = .ok (.lstore 5, 2) := by decide +kernel
theorem dX9_lowest_3 : decode cX9_lowest 3 = .ok (.lload_n 2, 1) := by decide +kernel
theorem dX9_lowest_4 : decode cX9_lowest 4 = .ok (.lstore 7, 2) := by decide +kernel
theorem dX9_lowest_6 : decode cX9_lowest 6 = .ok (.lload 7, 2) := by decide +kernel
theorem dX9_lowest_8 : decode cX9_lowest 8 = .ok (.lconst 0, 1) := by decide +kernel
theorem dX9_lowest_9 : decode cX9_lowest 9 = .ok (.lcmp, 1) := by decide +kernel
theorem dX9_lowest_10 : decode cX9_lowest 10 = .ok (.ifCond .eq 21, 3) := by decide +kernel
theorem dX9_lowest_13 : decode cX9_lowest 13 = .ok (.lload 5, 2) := by decide +kernel
theorem dX9_lowest_15 : decode cX9_lowest 15 = .ok (.lload 7, 2) := by decide +kernel
theorem dX9_lowest_17 : decode cX9_lowest 17 = .ok (.lrem, 1) := by decide +kernel
theorem dX9_lowest_18 : decode cX9_lowest 18 = .ok (.lstore 9, 2) := by decide +kernel
theorem dX9_lowest_20 : decode cX9_lowest 20 = .ok (.lload 7, 2) := by decide +kernel
theorem dX9_lowest_22 : decode cX9_lowest 22 = .ok (.lstore 5, 2) := by decide +kernel
theorem dX9_lowest_24 : decode cX9_lowest 24 = .ok (.lload 9, 2) := by decide +kernel
theorem dX9_lowest_26 : decode cX9_lowest 26 = .ok (.lstore 7, 2) := by decide +kernel
theorem dX9_lowest_28 : decode cX9_lowest 28 = .ok (.goto (-22), 3) := by decide +kernel
theorem dX9_lowest_31 : decode cX9_lowest 31 = .ok (.iload 4, 2) := by decide +kernel
theorem dX9_lowest_33 : decode cX9_lowest 33 = .ok (.ifCond .ne 10, 3) := by decide +kernel
theorem dX9_lowest_36 : decode cX9_lowest 36 = .ok (.lload_n 0, 1) := by decide +kernel
theorem dX9_lowest_37 : decode cX9_lowest 37 = .ok (.lload 5, 2) := by decide +kernel
theorem dX9_lowest_39 : decode cX9_lowest 39 = .ok (.ldiv, 1) := by decide +kernel
theorem dX9_lowest_40 : decode cX9_lowest 40 = .ok (.goto 7, 3) := by decide +kernel
theorem dX9_lowest_43 : decode cX9_lowest 43 = .ok (.lload_n 2, 1) := by decide +kernel
theorem dX9_lowest_44 : decode cX9_lowest 44 = .ok (.lload 5, 2) := by decide +kernel
theorem dX9_lowest_46 : decode cX9_lowest 46 = .ok (.ldiv, 1) := by decide +kernel
theorem dX9_lowest_47 : decode cX9_lowest 47 = .ok (.lreturn, 1) := by decide +kernel
theorem dX9_isTwo_0 : decode cX9_isTwo 0 = .ok (.iload_n 0, 1) := by decide +kernel
theorem dX9_isTwo_1 : decode cX9_isTwo 1 = .ok (.iconst 0, 1) := by decide +kernel
theorem dX9_isTwo_2 : decode cX9_isTwo 2 = .ok (.iconst 1, 1) := by decide +kernel
theorem dX9_isTwo_3 : decode cX9_isTwo 3 = .ok (.invokestatic 109, 3) := by decide +kernel
theorem dX9_isTwo_6 : decode cX9_isTwo 6 = .ok (.ireturn, 1) := by decide +kernel
theorem dX9_isThree_0 : decode cX9_isThree 0 = .ok (.iload_n 0, 1) := by decide +kernel
theorem dX9_isThree_1 : decode cX9_isThree 1 = .ok (.iconst 0, 1) := by decide +kernel
theorem dX9_isThree_2 : decode cX9_isThree 2 = .ok (.iconst 2, 1) := by decide +kernel
theorem dX9_isThree_3 : decode cX9_isThree 3 = .ok (.invokestatic 109, 3) := by decide +kernel
theorem dX9_isThree_6 : decode cX9_isThree 6 = .ok (.ireturn, 1) := by decide +kernel
theorem dX9_isTwelve_0 : decode cX9_isTwelve 0 = .ok (.iload_n 0, 1) := by decide +kernel
theorem dX9_isTwelve_1 : decode cX9_isTwelve 1 = .ok (.iconst 0, 1) := by decide +kernel
theorem dX9_isTwelve_2 : decode cX9_isTwelve 2 = .ok (.bipush 11, 2) := by decide +kernel
theorem dX9_isTwelve_4 : decode cX9_isTwelve 4 = .ok (.invokestatic 109, 3) := by decide +kernel
theorem dX9_isTwelve_7 : decode cX9_isTwelve 7 = .ok (.ireturn, 1) := by decide +kernel
theorem dX9_type_0 : decode cX9_type 0 = .ok (.iload_n 1, 1) := by decide +kernel
theorem dX9_type_1 : decode cX9_type 1 = .ok (.invokestatic 113, 3) := by decide +kernel
theorem dX9_type_4 : decode cX9_type 4 = .ok (.ifCond .eq 14, 3) := by decide +kernel
theorem dX9_type_7 : decode cX9_type 7 = .ok (.iload_n 2, 1) := by decide +kernel
theorem dX9_type_8 : decode cX9_type 8 = .ok (.iconst 0, 1) := by decide +kernel
theorem dX9_type_9 : decode cX9_type 9 = .ok (.sipush 255, 3) := by decide +kernel
theorem dX9_type_12 : decode cX9_type 12 = .ok (.invokestatic 109, 3) := by decide +kernel
theorem dX9_type_15 : decode cX9_type 15 = .ok (.ifCond .ne 6, 3) := by decide +kernel
theorem dX9_type_18 : decode cX9_type 18 = .ok (.bipush (-2), 2) := by decide +kernel
theorem dX9_type_20 : decode cX9_type 20 = .ok (.ireturn, 1) := by decide +kernel
theorem dX9_type_21 : decode cX9_type 21 = .ok (.aload_n 0, 1) := by decide +kernel
theorem dX9_type_22 : decode cX9_type 22 = .ok (.getfield 7, 3) := by decide +kernel
theorem dX9_type_25 : decode cX9_type 25 = .ok (.iload_n 1, 1) := by decide +kernel
theorem dX9_type_26 : decode cX9_type 26 = .ok (.iaload, 1) := by decide +kernel
theorem dX9_type_27 : decode cX9_type 27 = .ok (.iload_n 1, 1) := by decide +kernel
theorem dX9_type_28 : decode cX9_type 28 = .ok (.ifCond .ne 8, 3) := by decide +kernel
theorem dX9_type_31 : decode cX9_type 31 = .ok (.bipush 12, 2) := by decide +kernel
theorem dX9_type_33 : decode cX9_type 33 = .ok (.goto 5, 3) := by decide +kernel
theorem dX9_type_36 : decode cX9_type 36 = .ok (.bipush 31, 2) := by decide +kernel
theorem dX9_type_38 : decode cX9_type 38 = .ok (.if_icmp .ne 6, 3) := by decide +kernel
theorem dX9_type_41 : decode cX9_type 41 = .ok (.bipush (-4), 2) := by decide +kernel
theorem dX9_type_43 : decode cX9_type 43 = .ok (.ireturn, 1) := by decide +kernel
theorem dX9_type_44 : decode cX9_type 44 = .ok (.aload_n 0, 1) := by decide +kernel
theorem dX9_type_45 : decode cX9_type 45 = .ok (.getfield 13, 3) := by decide +kernel
theorem dX9_type_48 : decode cX9_type 48 = .ok (.bipush 31, 2) := by decide +kernel
theorem dX9_type_50 : decode cX9_type 50 = .ok (.iload_n 1, 1) := by decide +kernel
theorem dX9_type_51 : decode cX9_type 51 = .ok (.imul, 1) := by decide +kernel
theorem dX9_type_52 : decode cX9_type 52 = .ok (.aload_n 0, 1) := by decide +kernel
theorem dX9_type_53 : decode cX9_type 53 = .ok (.getfield 7, 3) := by decide +kernel
theorem dX9_type_56 : decode cX9_type 56 = .ok (.iload_n 1, 1) := by decide +kernel
theorem dX9_type_57 : decode cX9_type 57 = .ok (.iaload, 1) := by decide +kernel
theorem dX9_type_58 : decode cX9_type 58 = .ok (.iadd, 1) := by decide +kernel
theorem dX9_type_59 : decode cX9_type 59 = .ok (.iload_n 2, 1) := by decide +kernel
theorem dX9_type_60 : decode cX9_type 60 = .ok (.iastore, 1) := by decide +kernel
theorem dX9_type_61 : decode cX9_type 61 = .ok (.aload_n 0, 1) := by decide +kernel
theorem dX9_type_62 : decode cX9_type 62 = .ok (.getfield 7, 3) := by decide +kernel
theorem dX9_type_65 : decode cX9_type 65 = .ok (.iload_n 1, 1) := by decide +kernel
theorem dX9_type_66 : decode cX9_type 66 = .ok (.dup2, 1) := by decide +kernel
theorem dX9_type_67 : decode cX9_type 67 = .ok (.iaload, 1) := by decide +kernel
theorem dX9_type_68 : decode cX9_type 68 = .ok (.iconst 1, 1) := by decide +kernel
theorem dX9_type_69 : decode cX9_type 69 = .ok (.iadd, 1) := by decide +kernel
theorem dX9_type_70 : decode cX9_type 70 = .ok (.iastore, 1) := by decide +kernel
theorem dX9_type_71 : decode cX9_type 71 = .ok (.aload_n 0, 1) := by decide +kernel
theorem dX9_type_72 : decode cX9_type 72 = .ok (.getfield 7, 3) := by decide +kernel
theorem dX9_type_75 : decode cX9_type 75 = .ok (.iload_n 1, 1) := by decide +kernel
theorem dX9_type_76 : decode cX9_type 76 = .ok (.iaload, 1) := by decide +kernel
theorem dX9_type_77 : decode cX9_type 77 = .ok (.ireturn, 1) := by decide +kernel
theorem dX9_wipe_0 : decode cX9_wipe 0 = .ok (.iload_n 1, 1) := by decide +kernel
theorem dX9_wipe_1 : decode cX9_wipe 1 = .ok (.invokestatic 113, 3) := by decide +kernel
theorem dX9_wipe_4 : decode cX9_wipe 4 = .ok (.ifCond .ne 6, 3) := by decide +kernel
theorem dX9_wipe_7 : decode cX9_wipe 7 = .ok (.bipush (-2), 2) := by decide +kernel
theorem dX9_wipe_9 : decode cX9_wipe 9 = .ok (.ireturn, 1) := by decide +kernel
theorem dX9_wipe_10 : decode cX9_wipe 10 = .ok (.aload_n 0, 1) := by decide +kernel
theorem dX9_wipe_11 : decode cX9_wipe 11 = .ok (.getfield 7, 3) := by decide +kernel
theorem dX9_wipe_14 : decode cX9_wipe 14 = .ok (.iload_n 1, 1) := by decide +kernel
theorem dX9_wipe_15 : decode cX9_wipe 15 = .ok (.iaload, 1) := by decide +kernel
theorem dX9_wipe_16 : decode cX9_wipe 16 = .ok (.istore_n 2, 1) := by decide +kernel
theorem dX9_wipe_17 : decode cX9_wipe 17 = .ok (.aload_n 0, 1) := by decide +kernel
theorem dX9_wipe_18 : decode cX9_wipe 18 = .ok (.getfield 7, 3) := by decide +kernel
theorem dX9_wipe_21 : decode cX9_wipe 21 = .ok (.iload_n 1, 1) := by decide +kernel
theorem dX9_wipe_22 : decode cX9_wipe 22 = .ok (.iconst 0, 1) := by decide +kernel
theorem dX9_wipe_23 : decode cX9_wipe 23 = .ok (.iastore, 1) := by decide +kernel
theorem dX9_wipe_24 : decode cX9_wipe 24 = .ok (.iload_n 2, 1) := by decide +kernel
theorem dX9_wipe_25 : decode cX9_wipe 25 = .ok (.ireturn, 1) := by decide +kernel
theorem dX9_undo_0 : decode cX9_undo 0 = .ok (.iload_n 1, 1) := by decide +kernel
theorem dX9_undo_1 : decode cX9_undo 1 = .ok (.invokestatic 113, 3) := by decide +kernel
theorem dX9_undo_4 : decode cX9_undo 4 = .ok (.ifCond .ne 6, 3) := by decide +kernel
theorem dX9_undo_7 : decode cX9_undo 7 = .ok (.bipush (-2), 2) := by decide +kernel
theorem dX9_undo_9 : decode cX9_undo 9 = .ok (.ireturn, 1) := by decide +kernel
theorem dX9_undo_10 : decode cX9_undo 10 = .ok (.aload_n 0, 1) := by decide +kernel
theorem dX9_undo_11 : decode cX9_undo 11 = .ok (.getfield 7, 3) := by decide +kernel
theorem dX9_undo_14 : decode cX9_undo 14 = .ok (.iload_n 1, 1) := by decide +kernel
theorem dX9_undo_15 : decode cX9_undo 15 = .ok (.iaload, 1) := by decide +kernel
theorem dX9_undo_16 : decode cX9_undo 16 = .ok (.ifCond .ne 6, 3) := by decide +kernel
theorem dX9_undo_19 : decode cX9_undo 19 = .ok (.bipush (-3), 2) := by decide +kernel
theorem dX9_undo_21 : decode cX9_undo 21 = .ok (.ireturn, 1) := by decide +kernel
theorem dX9_undo_22 : decode cX9_undo 22 = .ok (.aload_n 0, 1) := by decide +kernel
theorem dX9_undo_23 : decode cX9_undo 23 = .ok (.getfield 7, 3) := by decide +kernel
theorem dX9_undo_26 : decode cX9_undo 26 = .ok (.iload_n 1, 1) := by decide +kernel
theorem dX9_undo_27 : decode cX9_undo 27 = .ok (.dup2, 1) := by decide +kernel
theorem dX9_undo_28 : decode cX9_undo 28 = .ok (.iaload, 1) := by decide +kernel
theorem dX9_undo_29 : decode cX9_undo 29 = .ok (.iconst 1, 1) := by decide +kernel
theorem dX9_undo_30 : decode cX9_undo 30 = .ok (.isub, 1) := by decide +kernel
theorem dX9_undo_31 : decode cX9_undo 31 = .ok (.iastore, 1) := by decide +kernel
theorem dX9_undo_32 : decode cX9_undo 32 = .ok (.aload_n 0, 1) := by decide +kernel
theorem dX9_undo_33 : decode cX9_undo 33 = .ok (.getfield 7, 3) := by decide +kernel
theorem dX9_undo_36 : decode cX9_undo 36 = .ok (.iload_n 1, 1) := by decide +kernel
theorem dX9_undo_37 : decode cX9_undo 37 = .ok (.iaload, 1) := by decide +kernel
theorem dX9_undo_38 : decode cX9_undo 38 = .ok (.ireturn, 1) := by decide +kernel
theorem dX9_byteAt_0 : decode cX9_byteAt 0 = .ok (.iload_n 2, 1) := by decide +kernel
theorem dX9_byteAt_1 : decode cX9_byteAt 1 = .ok (.aload_n 0, 1) := by decide +kernel
theorem dX9_byteAt_2 : decode cX9_byteAt 2 = .ok (.getfield 7, 3) := by decide +kernel
theorem dX9_byteAt_5 : decode cX9_byteAt 5 = .ok (.iload_n 1, 1) := by decide +kernel
theorem dX9_byteAt_6 : decode cX9_byteAt 6 = .ok (.iaload, 1) := by decide +kernel
theorem dX9_byteAt_7 : decode cX9_byteAt 7 = .ok (.if_icmp .ge 17, 3) := by decide +kernel
theorem dX9_byteAt_10 : decode cX9_byteAt 10 = .ok (.aload_n 0, 1) := by decide +kernel
theorem dX9_byteAt_11 : decode cX9_byteAt 11 = .ok (.getfield 13, 3) := by decide +kernel
theorem dX9_byteAt_14 : decode cX9_byteAt 14 = .ok (.bipush 31, 2) := by decide +kernel
theorem dX9_byteAt_16 : decode cX9_byteAt 16 = .ok (.iload_n 1, 1) := by decide +kernel
theorem dX9_byteAt_17 : decode cX9_byteAt 17 = .ok (.imul, 1) := by decide +kernel
theorem dX9_byteAt_18 : decode cX9_byteAt 18 = .ok (.iload_n 2, 1) := by decide +kernel
theorem dX9_byteAt_19 : decode cX9_byteAt 19 = .ok (.iadd, 1) := by decide +kernel
theorem dX9_byteAt_20 : decode cX9_byteAt 20 = .ok (.iaload, 1) := by decide +kernel
theorem dX9_byteAt_21 : decode cX9_byteAt 21 = .ok (.goto 4, 3) := by decide +kernel
theorem dX9_byteAt_24 : decode cX9_byteAt 24 = .ok (.iconst (-1), 1) := by decide +kernel
theorem dX9_byteAt_25 : decode cX9_byteAt 25 = .ok (.ireturn, 1) := by decide +kernel
theorem dX9_readsHooks_0 : decode cX9_readsHooks 0 = .ok (.aload_n 0, 1) := by decide +kernel
theorem dX9_readsHooks_1 : decode cX9_readsHooks 1 = .ok (.iconst 0, 1) := by decide +kernel
theorem dX9_readsHooks_2 : decode cX9_readsHooks 2 = .ok (.putfield 117, 3) := by decide +kernel
theorem dX9_readsHooks_5 : decode cX9_readsHooks 5 = .ok (.iconst 0, 1) := by decide +kernel
theorem dX9_readsHooks_6 : decode cX9_readsHooks 6 = .ok (.istore_n 1, 1) := by decide +kernel
theorem dX9_readsHooks_7 : decode cX9_readsHooks 7 = .ok (.iload_n 1, 1) := by decide +kernel
theorem dX9_readsHooks_8 : decode cX9_readsHooks 8 = .ok (.aload_n 0, 1) := by decide +kernel
theorem dX9_readsHooks_9 : decode cX9_readsHooks 9 = .ok (.getfield 7, 3) := by decide +kernel
theorem dX9_readsHooks_12 : decode cX9_readsHooks 12 = .ok (.iconst 0, 1) := by decide +kernel
theorem dX9_readsHooks_13 : decode cX9_readsHooks 13 = .ok (.iaload, 1) := by decide +kernel
theorem dX9_readsHooks_14 : decode cX9_readsHooks 14 = .ok (.if_icmp .ge 63, 3) := by decide +kernel
theorem dX9_readsHooks_17 : decode cX9_readsHooks 17 = .ok (.aload_n 0, 1) := by decide +kernel
theorem dX9_readsHooks_18 : decode cX9_readsHooks 18 = .ok (.iconst 0, 1) := by decide +kernel
theorem dX9_readsHooks_19 : decode cX9_readsHooks 19 = .ok (.iload_n 1, 1) := by decide +kernel
theorem dX9_readsHooks_20 : decode cX9_readsHooks 20 = .ok (.invokevirtual 121, 3) := by decide +kernel
theorem dX9_readsHooks_23 : decode cX9_readsHooks 23 = .ok (.istore_n 2, 1) := by decide +kernel
theorem dX9_readsHooks_24 : decode cX9_readsHooks 24 = .ok (.iload_n 2, 1) := by decide +kernel
theorem dX9_readsHooks_25 : decode cX9_readsHooks 25 = .ok (.bipush 104, 2) := by decide +kernel
theorem dX9_readsHooks_27 : decode cX9_readsHooks 27 = .ok (.if_icmp .eq 17, 3) := by decide +kernel
theorem dX9_readsHooks_30 : decode cX9_readsHooks 30 = .ok (.iload_n 2, 1) := by decide +kernel
theorem dX9_readsHooks_31 : decode cX9_readsHooks 31 = .ok (.bipush 115, 2) := by decide +kernel
theorem dX9_readsHooks_33 : decode cX9_readsHooks 33 = .ok (.if_icmp .eq 11, 3) := by decide +kernel
theorem dX9_readsHooks_36 : decode cX9_readsHooks 36 = .ok (.iload_n 2, 1) := by decide +kernel
theorem dX9_readsHooks_37 : decode cX9_readsHooks 37 = .ok (.bipush 103, 2) := by decide +kernel
theorem dX9_readsHooks_39 : decode cX9_readsHooks 39 = .ok (.if_icmp .eq 5, 3) := by decide +kernel
theorem dX9_readsHooks_42 : decode cX9_readsHooks 42 = .ok (.iload_n 1, 1) := by decide +kernel
theorem dX9_readsHooks_43 : decode cX9_readsHooks 43 = .ok (.ireturn, 1) := by decide +kernel
theorem dX9_readsHooks_44 : decode cX9_readsHooks 44 = .ok (.aload_n 0, 1) := by decide +kernel
theorem dX9_readsHooks_45 : decode cX9_readsHooks 45 = .ok (.getfield 16, 3) := by decide +kernel
theorem dX9_readsHooks_48 : decode cX9_readsHooks 48 = .ok (.iload_n 1, 1) := by decide +kernel
theorem dX9_readsHooks_49 : decode cX9_readsHooks 49 = .ok (.iload_n 2, 1) := by decide +kernel
theorem dX9_readsHooks_50 : decode cX9_readsHooks 50 = .ok (.bipush 104, 2) := by decide +kernel
theorem dX9_readsHooks_52 : decode cX9_readsHooks 52 = .ok (.if_icmp .ne 7, 3) := by decide +kernel
theorem dX9_readsHooks_55 : decode cX9_readsHooks 55 = .ok (.iconst 1, 1) := by decide +kernel
theorem dX9_readsHooks_56 : decode cX9_readsHooks 56 = .ok (.goto 14, 3) := by decide +kernel
theorem dX9_readsHooks_59 : decode cX9_readsHooks 59 = .ok (.iload_n 2, 1) := by decide +kernel
theorem dX9_readsHooks_60 : decode cX9_readsHooks 60 = .ok (.bipush 115, 2) := by decide +kernel
theorem dX9_readsHooks_62 : decode cX9_readsHooks 62 = .ok (.if_icmp .ne 7, 3) := by decide +kernel
theorem dX9_readsHooks_65 : decode cX9_readsHooks 65 = .ok (.iconst 2, 1) := by decide +kernel
theorem dX9_readsHooks_66 : decode cX9_readsHooks 66 = .ok (.goto 4, 3) := by decide +kernel
theorem dX9_readsHooks_69 : decode cX9_readsHooks 69 = .ok (.iconst 0, 1) := by decide +kernel
theorem dX9_readsHooks_70 : decode cX9_readsHooks 70 = .ok (.iastore, 1) := by decide +kernel
theorem dX9_readsHooks_71 : decode cX9_readsHooks 71 = .ok (.iinc 1 1, 3) := by decide +kernel
theorem dX9_readsHooks_74 : decode cX9_readsHooks 74 = .ok (.goto (-67), 3) := by decide +kernel
theorem dX9_readsHooks_77 : decode cX9_readsHooks 77 = .ok (.aload_n 0, 1) := by decide +kernel
theorem dX9_readsHooks_78 : decode cX9_readsHooks 78 = .ok (.aload_n 0, 1) := by decide +kernel
theorem dX9_readsHooks_79 : decode cX9_readsHooks 79 = .ok (.getfield 7, 3) := by decide +kernel
theorem dX9_readsHooks_82 : decode cX9_readsHooks 82 = .ok (.iconst 0, 1) := by decide +kernel
theorem dX9_readsHooks_83 : decode cX9_readsHooks 83 = .ok (.iaload, 1) := by decide +kernel
theorem dX9_readsHooks_84 : decode cX9_readsHooks 84 = .ok (.putfield 117, 3) := by decide +kernel
theorem dX9_readsHooks_87 : decode cX9_readsHooks 87 = .ok (.iconst (-1), 1) := by decide +kernel
theorem dX9_readsHooks_88 : decode cX9_readsHooks 88 = .ok (.ireturn, 1) := by decide +kernel
theorem dX9_readsThing_0 : decode cX9_readsThing 0 = .ok (.aload_n 0, 1) := by decide +kernel
theorem dX9_readsThing_1 : decode cX9_readsThing 1 = .ok (.iconst 1, 1) := by decide +kernel
theorem dX9_readsThing_2 : decode cX9_readsThing 2 = .ok (.iload_n 2, 1) := by decide +kernel
theorem dX9_readsThing_3 : decode cX9_readsThing 3 = .ok (.invokevirtual 121, 3) := by decide +kernel
theorem dX9_readsThing_6 : decode cX9_readsThing 6 = .ok (.istore_n 3, 1) := by decide +kernel
theorem dX9_readsThing_7 : decode cX9_readsThing 7 = .ok (.iload_n 3, 1) := by decide +kernel
theorem dX9_readsThing_8 : decode cX9_readsThing 8 = .ok (.bipush 109, 2) := by decide +kernel
theorem dX9_readsThing_10 : decode cX9_readsThing 10 = .ok (.if_icmp .ne 7, 3) := by decide +kernel
theorem dX9_readsThing_13 : decode cX9_readsThing 13 = .ok (.iconst 0, 1) := by decide +kernel
theorem dX9_readsThing_14 : decode cX9_readsThing 14 = .ok (.goto 24, 3) := by decide +kernel
theorem dX9_readsThing_17 : decode cX9_readsThing 17 = .ok (.iload_n 3, 1) := by decide +kernel
theorem dX9_readsThing_18 : decode cX9_readsThing 18 = .ok (.bipush 119, 2) := by decide +kernel
theorem dX9_readsThing_20 : decode cX9_readsThing 20 = .ok (.if_icmp .ne 7, 3) := by decide +kernel
theorem dX9_readsThing_23 : decode cX9_readsThing 23 = .ok (.iconst 1, 1) := by decide +kernel
theorem dX9_readsThing_24 : decode cX9_readsThing 24 = .ok (.goto 14, 3) := by decide +kernel
theorem dX9_readsThing_27 : decode cX9_readsThing 27 = .ok (.iload_n 3, 1) := by decide +kernel
theorem dX9_readsThing_28 : decode cX9_readsThing 28 = .ok (.bipush 113, 2) := by decide +kernel
theorem dX9_readsThing_30 : decode cX9_readsThing 30 = .ok (.if_icmp .ne 7, 3) := by decide +kernel
theorem dX9_readsThing_33 : decode cX9_readsThing 33 = .ok (.iconst 2, 1) := by decide +kernel
theorem dX9_readsThing_34 : decode cX9_readsThing 34 = .ok (.goto 4, 3) := by decide +kernel
theorem dX9_readsThing_37 : decode cX9_readsThing 37 = .ok (.iconst (-1), 1) := by decide +kernel
theorem dX9_readsThing_38 : decode cX9_readsThing 38 = .ok (.istore 4, 2) := by decide +kernel
theorem dX9_readsThing_40 : decode cX9_readsThing 40 = .ok (.aload_n 0, 1) := by decide +kernel
theorem dX9_readsThing_41 : decode cX9_readsThing 41 = .ok (.iconst 1, 1) := by decide +kernel
theorem dX9_readsThing_42 : decode cX9_readsThing 42 = .ok (.iload_n 2, 1) := by decide +kernel
theorem dX9_readsThing_43 : decode cX9_readsThing 43 = .ok (.iconst 1, 1) := by decide +kernel
theorem dX9_readsThing_44 : decode cX9_readsThing 44 = .ok (.iadd, 1) := by decide +kernel
theorem dX9_readsThing_45 : decode cX9_readsThing 45 = .ok (.invokevirtual 121, 3) := by decide +kernel
theorem dX9_readsThing_48 : decode cX9_readsThing 48 = .ok (.bipush 48, 2) := by decide +kernel
theorem dX9_readsThing_50 : decode cX9_readsThing 50 = .ok (.isub, 1) := by decide +kernel
theorem dX9_readsThing_51 : decode cX9_readsThing 51 = .ok (.istore 5, 2) := by decide +kernel
theorem dX9_readsThing_53 : decode cX9_readsThing 53 = .ok (.aload_n 0, 1) := by decide +kernel
theorem dX9_readsThing_54 : decode cX9_readsThing 54 = .ok (.iconst 1, 1) := by decide +kernel
theorem dX9_readsThing_55 : decode cX9_readsThing 55 = .ok (.iload_n 2, 1) := by decide +kernel
theorem dX9_readsThing_56 : decode cX9_readsThing 56 = .ok (.iconst 2, 1) := by decide +kernel
theorem dX9_readsThing_57 : decode cX9_readsThing 57 = .ok (.iadd, 1) := by decide +kernel
theorem dX9_readsThing_58 : decode cX9_readsThing 58 = .ok (.invokevirtual 121, 3) := by decide +kernel
theorem dX9_readsThing_61 : decode cX9_readsThing 61 = .ok (.bipush 48, 2) := by decide +kernel
theorem dX9_readsThing_63 : decode cX9_readsThing 63 = .ok (.isub, 1) := by decide +kernel
theorem dX9_readsThing_64 : decode cX9_readsThing 64 = .ok (.istore 6, 2) := by decide +kernel
theorem dX9_readsThing_66 : decode cX9_readsThing 66 = .ok (.iload_n 1, 1) := by decide +kernel
theorem dX9_readsThing_67 : decode cX9_readsThing 67 = .ok (.bipush 8, 2) := by decide +kernel
theorem dX9_readsThing_69 : decode cX9_readsThing 69 = .ok (.if_icmp .eq 9, 3) := by decide +kernel
theorem dX9_readsThing_72 : decode cX9_readsThing 72 = .ok (.iload 4, 2) := by decide +kernel
theorem dX9_readsThing_74 : decode cX9_readsThing 74 = .ok (.iconst (-1), 1) := by decide +kernel
theorem dX9_readsThing_75 : decode cX9_readsThing 75 = .ok (.if_icmp .ne 5, 3) := by decide +kernel
theorem dX9_readsThing_78 : decode cX9_readsThing 78 = .ok (.iconst 0, 1) := by decide +kernel
theorem dX9_readsThing_79 : decode cX9_readsThing 79 = .ok (.ireturn, 1) := by decide +kernel
theorem dX9_readsThing_80 : decode cX9_readsThing 80 = .ok (.iload 5, 2) := by decide +kernel
theorem dX9_readsThing_82 : decode cX9_readsThing 82 = .ok (.iconst 1, 1) := by decide +kernel
theorem dX9_readsThing_83 : decode cX9_readsThing 83 = .ok (.bipush 9, 2) := by decide +kernel
theorem dX9_readsThing_85 : decode cX9_readsThing 85 = .ok (.invokestatic 109, 3) := by decide +kernel
theorem dX9_readsThing_88 : decode cX9_readsThing 88 = .ok (.ifCond .ne 5, 3) := by decide +kernel
theorem dX9_readsThing_91 : decode cX9_readsThing 91 = .ok (.iconst 1, 1) := by decide +kernel
theorem dX9_readsThing_92 : decode cX9_readsThing 92 = .ok (.ireturn, 1) := by decide +kernel
theorem dX9_readsThing_93 : decode cX9_readsThing 93 = .ok (.iload 6, 2) := by decide +kernel
theorem dX9_readsThing_95 : decode cX9_readsThing 95 = .ok (.iconst 0, 1) := by decide +kernel
theorem dX9_readsThing_96 : decode cX9_readsThing 96 = .ok (.bipush 9, 2) := by decide +kernel
theorem dX9_readsThing_98 : decode cX9_readsThing 98 = .ok (.invokestatic 109, 3) := by decide +kernel
theorem dX9_readsThing_101 : decode cX9_readsThing 101 = .ok (.ifCond .ne 5, 3) := by decide +kernel
theorem dX9_readsThing_104 : decode cX9_readsThing 104 = .ok (.iconst 2, 1) := by decide +kernel
theorem dX9_readsThing_105 : decode cX9_readsThing 105 = .ok (.ireturn, 1) := by decide +kernel
theorem dX9_readsThing_106 : decode cX9_readsThing 106 = .ok (.aload_n 0, 1) := by decide +kernel
theorem dX9_readsThing_107 : decode cX9_readsThing 107 = .ok (.getfield 19, 3) := by decide +kernel
theorem dX9_readsThing_110 : decode cX9_readsThing 110 = .ok (.iload_n 1, 1) := by decide +kernel
theorem dX9_readsThing_111 : decode cX9_readsThing 111 = .ok (.iload 4, 2) := by decide +kernel
theorem dX9_readsThing_113 : decode cX9_readsThing 113 = .ok (.iastore, 1) := by decide +kernel
theorem dX9_readsThing_114 : decode cX9_readsThing 114 = .ok (.aload_n 0, 1) := by decide +kernel
theorem dX9_readsThing_115 : decode cX9_readsThing 115 = .ok (.getfield 22, 3) := by decide +kernel
theorem dX9_readsThing_118 : decode cX9_readsThing 118 = .ok (.iload_n 1, 1) := by decide +kernel
theorem dX9_readsThing_119 : decode cX9_readsThing 119 = .ok (.iload 5, 2) := by decide +kernel
theorem dX9_readsThing_121 : decode cX9_readsThing 121 = .ok (.iastore, 1) := by decide +kernel
theorem dX9_readsThing_122 : decode cX9_readsThing 122 = .ok (.aload_n 0, 1) := by decide +kernel
theorem dX9_readsThing_123 : decode cX9_readsThing 123 = .ok (.getfield 25, 3) := by decide +kernel
theorem dX9_readsThing_126 : decode cX9_readsThing 126 = .ok (.iload_n 1, 1) := by decide +kernel
theorem dX9_readsThing_127 : decode cX9_readsThing 127 = .ok (.iload 6, 2) := by decide +kernel
theorem dX9_readsThing_129 : decode cX9_readsThing 129 = .ok (.iastore, 1) := by decide +kernel
theorem dX9_readsThing_130 : decode cX9_readsThing 130 = .ok (.iconst 3, 1) := by decide +kernel
theorem dX9_readsThing_131 : decode cX9_readsThing 131 = .ok (.ireturn, 1) := by decide +kernel
theorem dX9_readsThings_0 : decode cX9_readsThings 0 = .ok (.iconst 0, 1) := by decide +kernel
theorem dX9_readsThings_1 : decode cX9_readsThings 1 = .ok (.istore_n 1, 1) := by decide +kernel
theorem dX9_readsThings_2 : decode cX9_readsThings 2 = .ok (.iconst 0, 1) := by decide +kernel
theorem dX9_readsThings_3 : decode cX9_readsThings 3 = .ok (.istore_n 2, 1) := by decide +kernel
theorem dX9_readsThings_4 : decode cX9_readsThings 4 = .ok (.aload_n 0, 1) := by decide +kernel
theorem dX9_readsThings_5 : decode cX9_readsThings 5 = .ok (.iconst 0, 1) := by decide +kernel
theorem dX9_readsThings_6 : decode cX9_readsThings 6 = .ok (.putfield 125, 3) := by decide +kernel
theorem dX9_readsThings_9 : decode cX9_readsThings 9 = .ok (.iload_n 2, 1) := by decide +kernel
theorem dX9_readsThings_10 : decode cX9_readsThings 10 = .ok (.aload_n 0, 1) := by decide +kernel
theorem dX9_readsThings_11 : decode cX9_readsThings 11 = .ok (.getfield 7, 3) := by decide +kernel
theorem dX9_readsThings_14 : decode cX9_readsThings 14 = .ok (.iconst 1, 1) := by decide +kernel
theorem dX9_readsThings_15 : decode cX9_readsThings 15 = .ok (.iaload, 1) := by decide +kernel
theorem dX9_readsThings_16 : decode cX9_readsThings 16 = .ok (.if_icmp .lt 7, 3) := by decide +kernel
theorem dX9_readsThings_19 : decode cX9_readsThings 19 = .ok (.iload_n 2, 1) := by decide +kernel
theorem dX9_readsThings_20 : decode cX9_readsThings 20 = .ok (.ifCond .le 61, 3) := by decide +kernel
theorem dX9_readsThings_23 : decode cX9_readsThings 23 = .ok (.aload_n 0, 1) := by decide +kernel
theorem dX9_readsThings_24 : decode cX9_readsThings 24 = .ok (.iload_n 1, 1) := by decide +kernel
theorem dX9_readsThings_25 : decode cX9_readsThings 25 = .ok (.iload_n 2, 1) := by decide +kernel
theorem dX9_readsThings_26 : decode cX9_readsThings 26 = .ok (.invokevirtual 128, 3) := by decide +kernel
theorem dX9_readsThings_29 : decode cX9_readsThings 29 = .ok (.istore_n 3, 1) := by decide +kernel
theorem dX9_readsThings_30 : decode cX9_readsThings 30 = .ok (.iload_n 3, 1) := by decide +kernel
theorem dX9_readsThings_31 : decode cX9_readsThings 31 = .ok (.iconst 3, 1) := by decide +kernel
theorem dX9_readsThings_32 : decode cX9_readsThings 32 = .ok (.if_icmp .ge 7, 3) := by decide +kernel
theorem dX9_readsThings_35 : decode cX9_readsThings 35 = .ok (.iload_n 2, 1) := by decide +kernel
theorem dX9_readsThings_36 : decode cX9_readsThings 36 = .ok (.iload_n 3, 1) := by decide +kernel
theorem dX9_readsThings_37 : decode cX9_readsThings 37 = .ok (.iadd, 1) := by decide +kernel
theorem dX9_readsThings_38 : decode cX9_readsThings 38 = .ok (.ireturn, 1) := by decide +kernel
theorem dX9_readsThings_39 : decode cX9_readsThings 39 = .ok (.iinc 1 1, 3) := by decide +kernel
theorem dX9_readsThings_42 : decode cX9_readsThings 42 = .ok (.iinc 2 3, 3) := by decide +kernel
theorem dX9_readsThings_45 : decode cX9_readsThings 45 = .ok (.iload_n 2, 1) := by decide +kernel
theorem dX9_readsThings_46 : decode cX9_readsThings 46 = .ok (.aload_n 0, 1) := by decide +kernel
theorem dX9_readsThings_47 : decode cX9_readsThings 47 = .ok (.getfield 7, 3) := by decide +kernel
theorem dX9_readsThings_50 : decode cX9_readsThings 50 = .ok (.iconst 1, 1) := by decide +kernel
theorem dX9_readsThings_51 : decode cX9_readsThings 51 = .ok (.iaload, 1) := by decide +kernel
theorem dX9_readsThings_52 : decode cX9_readsThings 52 = .ok (.if_icmp .ne 10, 3) := by decide +kernel
theorem dX9_readsThings_55 : decode cX9_readsThings 55 = .ok (.aload_n 0, 1) := by decide +kernel
theorem dX9_readsThings_56 : decode cX9_readsThings 56 = .ok (.iload_n 1, 1) := by decide +kernel
theorem dX9_readsThings_57 : decode cX9_readsThings 57 = .ok (.putfield 125, 3) := by decide +kernel
theorem dX9_readsThings_60 : decode cX9_readsThings 60 = .ok (.iconst (-1), 1) := by decide +kernel
theorem dX9_readsThings_61 : decode cX9_readsThings 61 = .ok (.ireturn, 1) := by decide +kernel
theorem dX9_readsThings_62 : decode cX9_readsThings 62 = .ok (.aload_n 0, 1) := by decide +kernel
theorem dX9_readsThings_63 : decode cX9_readsThings 63 = .ok (.iconst 1, 1) := by decide +kernel
theorem dX9_readsThings_64 : decode cX9_readsThings 64 = .ok (.iload_n 2, 1) := by decide +kernel
theorem dX9_readsThings_65 : decode cX9_readsThings 65 = .ok (.invokevirtual 121, 3) := by decide +kernel
theorem dX9_readsThings_68 : decode cX9_readsThings 68 = .ok (.bipush 59, 2) := by decide +kernel
theorem dX9_readsThings_70 : decode cX9_readsThings 70 = .ok (.if_icmp .eq 5, 3) := by decide +kernel
theorem dX9_readsThings_73 : decode cX9_readsThings 73 = .ok (.iload_n 2, 1) := by decide +kernel
theorem dX9_readsThings_74 : decode cX9_readsThings 74 = .ok (.ireturn, 1) := by decide +kernel
theorem dX9_readsThings_75 : decode cX9_readsThings 75 = .ok (.iinc 2 1, 3) := by decide +kernel
theorem dX9_readsThings_78 : decode cX9_readsThings 78 = .ok (.goto (-69), 3) := by decide +kernel
theorem dX9_readsThings_81 : decode cX9_readsThings 81 = .ok (.iconst (-1), 1) := by decide +kernel
theorem dX9_readsThings_82 : decode cX9_readsThings 82 = .ok (.ireturn, 1) := by decide +kernel
theorem dX9_faultOf_0 : decode cX9_faultOf 0 = .ok (.aload_n 0, 1) := by decide +kernel
theorem dX9_faultOf_1 : decode cX9_faultOf 1 = .ok (.invokevirtual 131, 3) := by decide +kernel
theorem dX9_faultOf_4 : decode cX9_faultOf 4 = .ok (.istore_n 2, 1) := by decide +kernel
theorem dX9_faultOf_5 : decode cX9_faultOf 5 = .ok (.aload_n 0, 1) := by decide +kernel
theorem dX9_faultOf_6 : decode cX9_faultOf 6 = .ok (.invokevirtual 135, 3) := by decide +kernel
theorem dX9_faultOf_9 : decode cX9_faultOf 9 = .ok (.istore_n 3, 1) := by decide +kernel
theorem dX9_faultOf_10 : decode cX9_faultOf 10 = .ok (.iload_n 1, 1) := by decide +kernel
theorem dX9_faultOf_11 : decode cX9_faultOf 11 = .ok (.ifCond .ne 7, 3) := by decide +kernel
theorem dX9_faultOf_14 : decode cX9_faultOf 14 = .ok (.iload_n 2, 1) := by decide +kernel
theorem dX9_faultOf_15 : decode cX9_faultOf 15 = .ok (.goto 4, 3) := by decide +kernel
theorem dX9_faultOf_18 : decode cX9_faultOf 18 = .ok (.iload_n 3, 1) := by decide +kernel
theorem dX9_faultOf_19 : decode cX9_faultOf 19 = .ok (.ireturn, 1) := by decide +kernel
theorem dX9_reads_0 : decode cX9_reads 0 = .ok (.aload_n 0, 1) := by decide +kernel
theorem dX9_reads_1 : decode cX9_reads 1 = .ok (.iconst 0, 1) := by decide +kernel
theorem dX9_reads_2 : decode cX9_reads 2 = .ok (.invokevirtual 138, 3) := by decide +kernel
theorem dX9_reads_5 : decode cX9_reads 5 = .ok (.istore_n 1, 1) := by decide +kernel
theorem dX9_reads_6 : decode cX9_reads 6 = .ok (.return_, 1) := by decide +kernel
theorem dX9_fault_0 : decode cX9_fault 0 = .ok (.iload_n 1, 1) := by decide +kernel
theorem dX9_fault_1 : decode cX9_fault 1 = .ok (.invokestatic 113, 3) := by decide +kernel
theorem dX9_fault_4 : decode cX9_fault 4 = .ok (.ifCond .eq 11, 3) := by decide +kernel
theorem dX9_fault_7 : decode cX9_fault 7 = .ok (.aload_n 0, 1) := by decide +kernel
theorem dX9_fault_8 : decode cX9_fault 8 = .ok (.iload_n 1, 1) := by decide +kernel
theorem dX9_fault_9 : decode cX9_fault 9 = .ok (.invokevirtual 138, 3) := by decide +kernel
theorem dX9_fault_12 : decode cX9_fault 12 = .ok (.goto 5, 3) := by decide +kernel
theorem dX9_fault_15 : decode cX9_fault 15 = .ok (.bipush (-2), 2) := by decide +kernel
theorem dX9_fault_17 : decode cX9_fault 17 = .ok (.ireturn, 1) := by decide +kernel
theorem dX9_isHook_0 : decode cX9_isHook 0 = .ok (.aload_n 0, 1) := by decide +kernel
theorem dX9_isHook_1 : decode cX9_isHook 1 = .ok (.invokevirtual 142, 3) := by decide +kernel
theorem dX9_isHook_4 : decode cX9_isHook 4 = .ok (.iload_n 1, 1) := by decide +kernel
theorem dX9_isHook_5 : decode cX9_isHook 5 = .ok (.iconst 0, 1) := by decide +kernel
theorem dX9_isHook_6 : decode cX9_isHook 6 = .ok (.aload_n 0, 1) := by decide +kernel
theorem dX9_isHook_7 : decode cX9_isHook 7 = .ok (.getfield 117, 3) := by decide +kernel
theorem dX9_isHook_10 : decode cX9_isHook 10 = .ok (.iconst 1, 1) := by decide +kernel
theorem dX9_isHook_11 : decode cX9_isHook 11 = .ok (.isub, 1) := by decide +kernel
theorem dX9_isHook_12 : decode cX9_isHook 12 = .ok (.invokestatic 109, 3) := by decide +kernel
theorem dX9_isHook_15 : decode cX9_isHook 15 = .ok (.ireturn, 1) := by decide +kernel
theorem dX9_isThing_0 : decode cX9_isThing 0 = .ok (.aload_n 0, 1) := by decide +kernel
theorem dX9_isThing_1 : decode cX9_isThing 1 = .ok (.invokevirtual 142, 3) := by decide +kernel
theorem dX9_isThing_4 : decode cX9_isThing 4 = .ok (.iload_n 1, 1) := by decide +kernel
theorem dX9_isThing_5 : decode cX9_isThing 5 = .ok (.iconst 0, 1) := by decide +kernel
theorem dX9_isThing_6 : decode cX9_isThing 6 = .ok (.aload_n 0, 1) := by decide +kernel
theorem dX9_isThing_7 : decode cX9_isThing 7 = .ok (.getfield 125, 3) := by decide +kernel
theorem dX9_isThing_10 : decode cX9_isThing 10 = .ok (.iconst 1, 1) := by decide +kernel
theorem dX9_isThing_11 : decode cX9_isThing 11 = .ok (.isub, 1) := by decide +kernel
theorem dX9_isThing_12 : decode cX9_isThing 12 = .ok (.invokestatic 109, 3) := by decide +kernel
theorem dX9_isThing_15 : decode cX9_isThing 15 = .ok (.ireturn, 1) := by decide +kernel
theorem dX9_hook_0 : decode cX9_hook 0 = .ok (.aload_n 0, 1) := by decide +kernel
theorem dX9_hook_1 : decode cX9_hook 1 = .ok (.iload_n 1, 1) := by decide +kernel
theorem dX9_hook_2 : decode cX9_hook 2 = .ok (.invokevirtual 145, 3) := by decide +kernel
theorem dX9_hook_5 : decode cX9_hook 5 = .ok (.ifCond .eq 12, 3) := by decide +kernel
theorem dX9_hook_8 : decode cX9_hook 8 = .ok (.aload_n 0, 1) := by decide +kernel
theorem dX9_hook_9 : decode cX9_hook 9 = .ok (.getfield 16, 3) := by decide +kernel
theorem dX9_hook_12 : decode cX9_hook 12 = .ok (.iload_n 1, 1) := by decide +kernel
theorem dX9_hook_13 : decode cX9_hook 13 = .ok (.iaload, 1) := by decide +kernel
theorem dX9_hook_14 : decode cX9_hook 14 = .ok (.goto 5, 3) := by decide +kernel
theorem dX9_hook_17 : decode cX9_hook 17 = .ok (.bipush (-2), 2) := by decide +kernel
theorem dX9_hook_19 : decode cX9_hook 19 = .ok (.ireturn, 1) := by decide +kernel
theorem dX9_thingOf_0 : decode cX9_thingOf 0 = .ok (.iload_n 2, 1) := by decide +kernel
theorem dX9_thingOf_1 : decode cX9_thingOf 1 = .ok (.ifCond .ne 12, 3) := by decide +kernel
theorem dX9_thingOf_4 : decode cX9_thingOf 4 = .ok (.aload_n 0, 1) := by decide +kernel
theorem dX9_thingOf_5 : decode cX9_thingOf 5 = .ok (.getfield 19, 3) := by decide +kernel
theorem dX9_thingOf_8 : decode cX9_thingOf 8 = .ok (.iload_n 1, 1) := by decide +kernel
theorem dX9_thingOf_9 : decode cX9_thingOf 9 = .ok (.iaload, 1) := by decide +kernel
theorem dX9_thingOf_10 : decode cX9_thingOf 10 = .ok (.goto 23, 3) := by decide +kernel
theorem dX9_thingOf_13 : decode cX9_thingOf 13 = .ok (.iload_n 2, 1) := by decide +kernel
theorem dX9_thingOf_14 : decode cX9_thingOf 14 = .ok (.iconst 1, 1) := by decide +kernel
theorem dX9_thingOf_15 : decode cX9_thingOf 15 = .ok (.if_icmp .ne 12, 3) := by decide +kernel
theorem dX9_thingOf_18 : decode cX9_thingOf 18 = .ok (.aload_n 0, 1) := by decide +kernel
theorem dX9_thingOf_19 : decode cX9_thingOf 19 = .ok (.getfield 22, 3) := by decide +kernel
theorem dX9_thingOf_22 : decode cX9_thingOf 22 = .ok (.iload_n 1, 1) := by decide +kernel
theorem dX9_thingOf_23 : decode cX9_thingOf 23 = .ok (.iaload, 1) := by decide +kernel
theorem dX9_thingOf_24 : decode cX9_thingOf 24 = .ok (.goto 9, 3) := by decide +kernel
theorem dX9_thingOf_27 : decode cX9_thingOf 27 = .ok (.aload_n 0, 1) := by decide +kernel
theorem dX9_thingOf_28 : decode cX9_thingOf 28 = .ok (.getfield 25, 3) := by decide +kernel
theorem dX9_thingOf_31 : decode cX9_thingOf 31 = .ok (.iload_n 1, 1) := by decide +kernel
theorem dX9_thingOf_32 : decode cX9_thingOf 32 = .ok (.iaload, 1) := by decide +kernel
theorem dX9_thingOf_33 : decode cX9_thingOf 33 = .ok (.ireturn, 1) := by decide +kernel
theorem dX9_thing_0 : decode cX9_thing 0 = .ok (.aload_n 0, 1) := by decide +kernel
theorem dX9_thing_1 : decode cX9_thing 1 = .ok (.iload_n 1, 1) := by decide +kernel
theorem dX9_thing_2 : decode cX9_thing 2 = .ok (.invokevirtual 148, 3) := by decide +kernel
theorem dX9_thing_5 : decode cX9_thing 5 = .ok (.ifCond .eq 19, 3) := by decide +kernel
theorem dX9_thing_8 : decode cX9_thing 8 = .ok (.iload_n 2, 1) := by decide +kernel
theorem dX9_thing_9 : decode cX9_thing 9 = .ok (.invokestatic 151, 3) := by decide +kernel
theorem dX9_thing_12 : decode cX9_thing 12 = .ok (.ifCond .eq 12, 3) := by decide +kernel
theorem dX9_thing_15 : decode cX9_thing 15 = .ok (.aload_n 0, 1) := by decide +kernel
theorem dX9_thing_16 : decode cX9_thing 16 = .ok (.iload_n 1, 1) := by decide +kernel
theorem dX9_thing_17 : decode cX9_thing 17 = .ok (.iload_n 2, 1) := by decide +kernel
theorem dX9_thing_18 : decode cX9_thing 18 = .ok (.invokevirtual 154, 3) := by decide +kernel
theorem dX9_thing_21 : decode cX9_thing 21 = .ok (.goto 5, 3) := by decide +kernel
theorem dX9_thing_24 : decode cX9_thing 24 = .ok (.bipush (-2), 2) := by decide +kernel
theorem dX9_thing_26 : decode cX9_thing 26 = .ok (.ireturn, 1) := by decide +kernel
theorem dX9_event_0 : decode cX9_event 0 = .ok (.iload_n 1, 1) := by decide +kernel
theorem dX9_event_1 : decode cX9_event 1 = .ok (.invokestatic 151, 3) := by decide +kernel
theorem dX9_event_4 : decode cX9_event 4 = .ok (.ifCond .eq 17, 3) := by decide +kernel
theorem dX9_event_7 : decode cX9_event 7 = .ok (.iload_n 2, 1) := by decide +kernel
theorem dX9_event_8 : decode cX9_event 8 = .ok (.invokestatic 157, 3) := by decide +kernel
theorem dX9_event_11 : decode cX9_event 11 = .ok (.ifCond .eq 10, 3) := by decide +kernel
theorem dX9_event_14 : decode cX9_event 14 = .ok (.iload_n 3, 1) := by decide +kernel
theorem dX9_event_15 : decode cX9_event 15 = .ok (.invokestatic 157, 3) := by decide +kernel
theorem dX9_event_18 : decode cX9_event 18 = .ok (.ifCond .ne 6, 3) := by decide +kernel
theorem dX9_event_21 : decode cX9_event 21 = .ok (.bipush (-2), 2) := by decide +kernel
theorem dX9_event_23 : decode cX9_event 23 = .ok (.ireturn, 1) := by decide +kernel
theorem dX9_event_24 : decode cX9_event 24 = .ok (.aload_n 0, 1) := by decide +kernel
theorem dX9_event_25 : decode cX9_event 25 = .ok (.getfield 160, 3) := by decide +kernel
theorem dX9_event_28 : decode cX9_event 28 = .ok (.bipush 8, 2) := by decide +kernel
theorem dX9_event_30 : decode cX9_event 30 = .ok (.if_icmp .ne 6, 3) := by decide +kernel
theorem dX9_event_33 : decode cX9_event 33 = .ok (.bipush (-4), 2) := by decide +kernel
theorem dX9_event_35 : decode cX9_event 35 = .ok (.ireturn, 1) := by decide +kernel
theorem dX9_event_36 : decode cX9_event 36 = .ok (.aload_n 0, 1) := by decide +kernel
theorem dX9_event_37 : decode cX9_event 37 = .ok (.getfield 28, 3) := by decide +kernel
theorem dX9_event_40 : decode cX9_event 40 = .ok (.aload_n 0, 1) := by decide +kernel
theorem dX9_event_41 : decode cX9_event 41 = .ok (.getfield 160, 3) := by decide +kernel
theorem dX9_event_44 : decode cX9_event 44 = .ok (.iload_n 1, 1) := by decide +kernel
theorem dX9_event_45 : decode cX9_event 45 = .ok (.iastore, 1) := by decide +kernel
theorem dX9_event_46 : decode cX9_event 46 = .ok (.aload_n 0, 1) := by decide +kernel
theorem dX9_event_47 : decode cX9_event 47 = .ok (.getfield 31, 3) := by decide +kernel
theorem dX9_event_50 : decode cX9_event 50 = .ok (.aload_n 0, 1) := by decide +kernel
theorem dX9_event_51 : decode cX9_event 51 = .ok (.getfield 160, 3) := by decide +kernel
theorem dX9_event_54 : decode cX9_event 54 = .ok (.iload_n 2, 1) := by decide +kernel
theorem dX9_event_55 : decode cX9_event 55 = .ok (.iastore, 1) := by decide +kernel
theorem dX9_event_56 : decode cX9_event 56 = .ok (.aload_n 0, 1) := by decide +kernel
theorem dX9_event_57 : decode cX9_event 57 = .ok (.getfield 34, 3) := by decide +kernel
theorem dX9_event_60 : decode cX9_event 60 = .ok (.aload_n 0, 1) := by decide +kernel
theorem dX9_event_61 : decode cX9_event 61 = .ok (.getfield 160, 3) := by decide +kernel
theorem dX9_event_64 : decode cX9_event 64 = .ok (.iload_n 3, 1) := by decide +kernel
theorem dX9_event_65 : decode cX9_event 65 = .ok (.iastore, 1) := by decide +kernel
theorem dX9_event_66 : decode cX9_event 66 = .ok (.aload_n 0, 1) := by decide +kernel
theorem dX9_event_67 : decode cX9_event 67 = .ok (.dup, 1) := by decide +kernel
theorem dX9_event_68 : decode cX9_event 68 = .ok (.getfield 160, 3) := by decide +kernel
theorem dX9_event_71 : decode cX9_event 71 = .ok (.iconst 1, 1) := by decide +kernel
theorem dX9_event_72 : decode cX9_event 72 = .ok (.iadd, 1) := by decide +kernel
theorem dX9_event_73 : decode cX9_event 73 = .ok (.putfield 160, 3) := by decide +kernel
theorem dX9_event_76 : decode cX9_event 76 = .ok (.aload_n 0, 1) := by decide +kernel
theorem dX9_event_77 : decode cX9_event 77 = .ok (.getfield 160, 3) := by decide +kernel
theorem dX9_event_80 : decode cX9_event 80 = .ok (.ireturn, 1) := by decide +kernel
theorem dX9_back_0 : decode cX9_back 0 = .ok (.aload_n 0, 1) := by decide +kernel
theorem dX9_back_1 : decode cX9_back 1 = .ok (.getfield 160, 3) := by decide +kernel
theorem dX9_back_4 : decode cX9_back 4 = .ok (.ifCond .ne 6, 3) := by decide +kernel
theorem dX9_back_7 : decode cX9_back 7 = .ok (.bipush (-3), 2) := by decide +kernel
theorem dX9_back_9 : decode cX9_back 9 = .ok (.ireturn, 1) := by decide +kernel
theorem dX9_back_10 : decode cX9_back 10 = .ok (.aload_n 0, 1) := by decide +kernel
theorem dX9_back_11 : decode cX9_back 11 = .ok (.dup, 1) := by decide +kernel
theorem dX9_back_12 : decode cX9_back 12 = .ok (.getfield 160, 3) := by decide +kernel
theorem dX9_back_15 : decode cX9_back 15 = .ok (.iconst 1, 1) := by decide +kernel
theorem dX9_back_16 : decode cX9_back 16 = .ok (.isub, 1) := by decide +kernel
theorem dX9_back_17 : decode cX9_back 17 = .ok (.putfield 160, 3) := by decide +kernel
theorem dX9_back_20 : decode cX9_back 20 = .ok (.aload_n 0, 1) := by decide +kernel
theorem dX9_back_21 : decode cX9_back 21 = .ok (.getfield 160, 3) := by decide +kernel
theorem dX9_back_24 : decode cX9_back 24 = .ok (.ireturn, 1) := by decide +kernel
theorem dX9_read_0 : decode cX9_read 0 = .ok (.iload_n 1, 1) := by decide +kernel
theorem dX9_read_1 : decode cX9_read 1 = .ok (.invokestatic 163, 3) := by decide +kernel
theorem dX9_read_4 : decode cX9_read 4 = .ok (.ifCond .ne 6, 3) := by decide +kernel
theorem dX9_read_7 : decode cX9_read 7 = .ok (.bipush (-2), 2) := by decide +kernel
theorem dX9_read_9 : decode cX9_read 9 = .ok (.ireturn, 1) := by decide +kernel
theorem dX9_read_10 : decode cX9_read 10 = .ok (.aload_n 0, 1) := by decide +kernel
theorem dX9_read_11 : decode cX9_read 11 = .ok (.getfield 91, 3) := by decide +kernel
theorem dX9_read_14 : decode cX9_read 14 = .ok (.iload_n 1, 1) := by decide +kernel
theorem dX9_read_15 : decode cX9_read 15 = .ok (.baload, 1) := by decide +kernel
theorem dX9_read_16 : decode cX9_read 16 = .ok (.ifCond .ne 9, 3) := by decide +kernel
theorem dX9_read_19 : decode cX9_read 19 = .ok (.aload_n 0, 1) := by decide +kernel
theorem dX9_read_20 : decode cX9_read 20 = .ok (.iconst 1, 1) := by decide +kernel
theorem dX9_read_21 : decode cX9_read 21 = .ok (.invokevirtual 166, 3) := by decide +kernel
theorem dX9_read_24 : decode cX9_read 24 = .ok (.ireturn, 1) := by decide +kernel
theorem dX9_read_25 : decode cX9_read 25 = .ok (.iconst 0, 1) := by decide +kernel
theorem dX9_read_26 : decode cX9_read 26 = .ok (.istore_n 2, 1) := by decide +kernel
theorem dX9_read_27 : decode cX9_read 27 = .ok (.bipush 60, 2) := by decide +kernel
theorem dX9_read_29 : decode cX9_read 29 = .ok (.iload_n 1, 1) := by decide +kernel
theorem dX9_read_30 : decode cX9_read 30 = .ok (.imul, 1) := by decide +kernel
theorem dX9_read_31 : decode cX9_read 31 = .ok (.istore_n 3, 1) := by decide +kernel
theorem dX9_read_32 : decode cX9_read 32 = .ok (.iconst 3, 1) := by decide +kernel
theorem dX9_read_33 : decode cX9_read 33 = .ok (.iload_n 2, 1) := by decide +kernel
theorem dX9_read_34 : decode cX9_read 34 = .ok (.imul, 1) := by decide +kernel
theorem dX9_read_35 : decode cX9_read 35 = .ok (.iconst 2, 1) := by decide +kernel
theorem dX9_read_36 : decode cX9_read 36 = .ok (.iadd, 1) := by decide +kernel
theorem dX9_read_37 : decode cX9_read 37 = .ok (.aload_n 0, 1) := by decide +kernel
theorem dX9_read_38 : decode cX9_read 38 = .ok (.getfield 98, 3) := by decide +kernel
theorem dX9_read_41 : decode cX9_read 41 = .ok (.iload_n 1, 1) := by decide +kernel
theorem dX9_read_42 : decode cX9_read 42 = .ok (.iaload, 1) := by decide +kernel
theorem dX9_read_43 : decode cX9_read 43 = .ok (.if_icmp .ge 50, 3) := by decide +kernel
theorem dX9_read_46 : decode cX9_read 46 = .ok (.aload_n 0, 1) := by decide +kernel
theorem dX9_read_47 : decode cX9_read 47 = .ok (.aload_n 0, 1) := by decide +kernel
theorem dX9_read_48 : decode cX9_read 48 = .ok (.getfield 101, 3) := by decide +kernel
theorem dX9_read_51 : decode cX9_read 51 = .ok (.iload_n 3, 1) := by decide +kernel
theorem dX9_read_52 : decode cX9_read 52 = .ok (.iconst 3, 1) := by decide +kernel
theorem dX9_read_53 : decode cX9_read 53 = .ok (.iload_n 2, 1) := by decide +kernel
theorem dX9_read_54 : decode cX9_read 54 = .ok (.imul, 1) := by decide +kernel
theorem dX9_read_55 : decode cX9_read 55 = .ok (.iadd, 1) := by decide +kernel
theorem dX9_read_56 : decode cX9_read 56 = .ok (.iaload, 1) := by decide +kernel
theorem dX9_read_57 : decode cX9_read 57 = .ok (.aload_n 0, 1) := by decide +kernel
theorem dX9_read_58 : decode cX9_read 58 = .ok (.getfield 101, 3) := by decide +kernel
theorem dX9_read_61 : decode cX9_read 61 = .ok (.iload_n 3, 1) := by decide +kernel
theorem dX9_read_62 : decode cX9_read 62 = .ok (.iconst 3, 1) := by decide +kernel
theorem dX9_read_63 : decode cX9_read 63 = .ok (.iload_n 2, 1) := by decide +kernel
theorem dX9_read_64 : decode cX9_read 64 = .ok (.imul, 1) := by decide +kernel
theorem dX9_read_65 : decode cX9_read 65 = .ok (.iadd, 1) := by decide +kernel
theorem dX9_read_66 : decode cX9_read 66 = .ok (.iconst 1, 1) := by decide +kernel
theorem dX9_read_67 : decode cX9_read 67 = .ok (.iadd, 1) := by decide +kernel
theorem dX9_read_68 : decode cX9_read 68 = .ok (.iaload, 1) := by decide +kernel
theorem dX9_read_69 : decode cX9_read 69 = .ok (.aload_n 0, 1) := by decide +kernel
theorem dX9_read_70 : decode cX9_read 70 = .ok (.getfield 101, 3) := by decide +kernel
theorem dX9_read_73 : decode cX9_read 73 = .ok (.iload_n 3, 1) := by decide +kernel
theorem dX9_read_74 : decode cX9_read 74 = .ok (.iconst 3, 1) := by decide +kernel
theorem dX9_read_75 : decode cX9_read 75 = .ok (.iload_n 2, 1) := by decide +kernel
theorem dX9_read_76 : decode cX9_read 76 = .ok (.imul, 1) := by decide +kernel
theorem dX9_read_77 : decode cX9_read 77 = .ok (.iadd, 1) := by decide +kernel
theorem dX9_read_78 : decode cX9_read 78 = .ok (.iconst 2, 1) := by decide +kernel
theorem dX9_read_79 : decode cX9_read 79 = .ok (.iadd, 1) := by decide +kernel
theorem dX9_read_80 : decode cX9_read 80 = .ok (.iaload, 1) := by decide +kernel
theorem dX9_read_81 : decode cX9_read 81 = .ok (.invokevirtual 169, 3) := by decide +kernel
theorem dX9_read_84 : decode cX9_read 84 = .ok (.ifCond .le 9, 3) := by decide +kernel
theorem dX9_read_87 : decode cX9_read 87 = .ok (.iinc 2 1, 3) := by decide +kernel
theorem dX9_read_90 : decode cX9_read 90 = .ok (.goto (-58), 3) := by decide +kernel
theorem dX9_read_93 : decode cX9_read 93 = .ok (.iload_n 2, 1) := by decide +kernel
theorem dX9_read_94 : decode cX9_read 94 = .ok (.ireturn, 1) := by decide +kernel
theorem dX9_asTold_0 : decode cX9_asTold 0 = .ok (.aload_n 0, 1) := by decide +kernel
theorem dX9_asTold_1 : decode cX9_asTold 1 = .ok (.invokevirtual 142, 3) := by decide +kernel
theorem dX9_asTold_4 : decode cX9_asTold 4 = .ok (.aload_n 0, 1) := by decide +kernel
theorem dX9_asTold_5 : decode cX9_asTold 5 = .ok (.aload_n 0, 1) := by decide +kernel
theorem dX9_asTold_6 : decode cX9_asTold 6 = .ok (.getfield 125, 3) := by decide +kernel
theorem dX9_asTold_9 : decode cX9_asTold 9 = .ok (.putfield 173, 3) := by decide +kernel
theorem dX9_asTold_12 : decode cX9_asTold 12 = .ok (.iconst 0, 1) := by decide +kernel
theorem dX9_asTold_13 : decode cX9_asTold 13 = .ok (.istore_n 1, 1) := by decide +kernel
theorem dX9_asTold_14 : decode cX9_asTold 14 = .ok (.iload_n 1, 1) := by decide +kernel
theorem dX9_asTold_15 : decode cX9_asTold 15 = .ok (.aload_n 0, 1) := by decide +kernel
theorem dX9_asTold_16 : decode cX9_asTold 16 = .ok (.getfield 125, 3) := by decide +kernel
theorem dX9_asTold_19 : decode cX9_asTold 19 = .ok (.if_icmp .ge 45, 3) := by decide +kernel
theorem dX9_asTold_22 : decode cX9_asTold 22 = .ok (.aload_n 0, 1) := by decide +kernel
theorem dX9_asTold_23 : decode cX9_asTold 23 = .ok (.getfield 37, 3) := by decide +kernel
theorem dX9_asTold_26 : decode cX9_asTold 26 = .ok (.iload_n 1, 1) := by decide +kernel
theorem dX9_asTold_27 : decode cX9_asTold 27 = .ok (.aload_n 0, 1) := by decide +kernel
theorem dX9_asTold_28 : decode cX9_asTold 28 = .ok (.getfield 19, 3) := by decide +kernel
theorem dX9_asTold_31 : decode cX9_asTold 31 = .ok (.iload_n 1, 1) := by decide +kernel
theorem dX9_asTold_32 : decode cX9_asTold 32 = .ok (.iaload, 1) := by decide +kernel
theorem dX9_asTold_33 : decode cX9_asTold 33 = .ok (.iastore, 1) := by decide +kernel
theorem dX9_asTold_34 : decode cX9_asTold 34 = .ok (.aload_n 0, 1) := by decide +kernel
theorem dX9_asTold_35 : decode cX9_asTold 35 = .ok (.getfield 40, 3) := by decide +kernel
theorem dX9_asTold_38 : decode cX9_asTold 38 = .ok (.iload_n 1, 1) := by decide +kernel
theorem dX9_asTold_39 : decode cX9_asTold 39 = .ok (.aload_n 0, 1) := by decide +kernel
theorem dX9_asTold_40 : decode cX9_asTold 40 = .ok (.getfield 22, 3) := by decide +kernel
theorem dX9_asTold_43 : decode cX9_asTold 43 = .ok (.iload_n 1, 1) := by decide +kernel
theorem dX9_asTold_44 : decode cX9_asTold 44 = .ok (.iaload, 1) := by decide +kernel
theorem dX9_asTold_45 : decode cX9_asTold 45 = .ok (.iastore, 1) := by decide +kernel
theorem dX9_asTold_46 : decode cX9_asTold 46 = .ok (.aload_n 0, 1) := by decide +kernel
theorem dX9_asTold_47 : decode cX9_asTold 47 = .ok (.getfield 43, 3) := by decide +kernel
theorem dX9_asTold_50 : decode cX9_asTold 50 = .ok (.iload_n 1, 1) := by decide +kernel
theorem dX9_asTold_51 : decode cX9_asTold 51 = .ok (.aload_n 0, 1) := by decide +kernel
theorem dX9_asTold_52 : decode cX9_asTold 52 = .ok (.getfield 25, 3) := by decide +kernel
theorem dX9_asTold_55 : decode cX9_asTold 55 = .ok (.iload_n 1, 1) := by decide +kernel
theorem dX9_asTold_56 : decode cX9_asTold 56 = .ok (.iaload, 1) := by decide +kernel
theorem dX9_asTold_57 : decode cX9_asTold 57 = .ok (.iastore, 1) := by decide +kernel
theorem dX9_asTold_58 : decode cX9_asTold 58 = .ok (.iinc 1 1, 3) := by decide +kernel
theorem dX9_asTold_61 : decode cX9_asTold 61 = .ok (.goto (-47), 3) := by decide +kernel
theorem dX9_asTold_64 : decode cX9_asTold 64 = .ok (.aload_n 0, 1) := by decide +kernel
theorem dX9_asTold_65 : decode cX9_asTold 65 = .ok (.aload_n 0, 1) := by decide +kernel
theorem dX9_asTold_66 : decode cX9_asTold 66 = .ok (.getfield 117, 3) := by decide +kernel
theorem dX9_asTold_69 : decode cX9_asTold 69 = .ok (.putfield 176, 3) := by decide +kernel
theorem dX9_asTold_72 : decode cX9_asTold 72 = .ok (.aload_n 0, 1) := by decide +kernel
theorem dX9_asTold_73 : decode cX9_asTold 73 = .ok (.iconst (-1), 1) := by decide +kernel
theorem dX9_asTold_74 : decode cX9_asTold 74 = .ok (.putfield 179, 3) := by decide +kernel
theorem dX9_asTold_77 : decode cX9_asTold 77 = .ok (.aload_n 0, 1) := by decide +kernel
theorem dX9_asTold_78 : decode cX9_asTold 78 = .ok (.iconst (-1), 1) := by decide +kernel
theorem dX9_asTold_79 : decode cX9_asTold 79 = .ok (.putfield 182, 3) := by decide +kernel
theorem dX9_asTold_82 : decode cX9_asTold 82 = .ok (.aload_n 0, 1) := by decide +kernel
theorem dX9_asTold_83 : decode cX9_asTold 83 = .ok (.iconst 0, 1) := by decide +kernel
theorem dX9_asTold_84 : decode cX9_asTold 84 = .ok (.putfield 185, 3) := by decide +kernel
theorem dX9_asTold_87 : decode cX9_asTold 87 = .ok (.return_, 1) := by decide +kernel
theorem dX9_befalls_0 : decode cX9_befalls 0 = .ok (.aload_n 0, 1) := by decide +kernel
theorem dX9_befalls_1 : decode cX9_befalls 1 = .ok (.iconst 0, 1) := by decide +kernel
theorem dX9_befalls_2 : decode cX9_befalls 2 = .ok (.putfield 188, 3) := by decide +kernel
theorem dX9_befalls_5 : decode cX9_befalls 5 = .ok (.aload_n 0, 1) := by decide +kernel
theorem dX9_befalls_6 : decode cX9_befalls 6 = .ok (.iconst 0, 1) := by decide +kernel
theorem dX9_befalls_7 : decode cX9_befalls 7 = .ok (.putfield 191, 3) := by decide +kernel
theorem dX9_befalls_10 : decode cX9_befalls 10 = .ok (.aload_n 0, 1) := by decide +kernel
theorem dX9_befalls_11 : decode cX9_befalls 11 = .ok (.aload_n 0, 1) := by decide +kernel
theorem dX9_befalls_12 : decode cX9_befalls 12 = .ok (.getfield 179, 3) := by decide +kernel
theorem dX9_befalls_15 : decode cX9_befalls 15 = .ok (.iload_n 1, 1) := by decide +kernel
theorem dX9_befalls_16 : decode cX9_befalls 16 = .ok (.if_icmp .ne 12, 3) := by decide +kernel
theorem dX9_befalls_19 : decode cX9_befalls 19 = .ok (.iconst 1, 1) := by decide +kernel
theorem dX9_befalls_20 : decode cX9_befalls 20 = .ok (.aload_n 0, 1) := by decide +kernel
theorem dX9_befalls_21 : decode cX9_befalls 21 = .ok (.getfield 182, 3) := by decide +kernel
theorem dX9_befalls_24 : decode cX9_befalls 24 = .ok (.ishl, 1) := by decide +kernel
theorem dX9_befalls_25 : decode cX9_befalls 25 = .ok (.goto 4, 3) := by decide +kernel
theorem dX9_befalls_28 : decode cX9_befalls 28 = .ok (.iconst 0, 1) := by decide +kernel
theorem dX9_befalls_29 : decode cX9_befalls 29 = .ok (.putfield 194, 3) := by decide +kernel
theorem dX9_befalls_32 : decode cX9_befalls 32 = .ok (.iconst 0, 1) := by decide +kernel
theorem dX9_befalls_33 : decode cX9_befalls 33 = .ok (.istore_n 2, 1) := by decide +kernel
theorem dX9_befalls_34 : decode cX9_befalls 34 = .ok (.iload_n 2, 1) := by decide +kernel
theorem dX9_befalls_35 : decode cX9_befalls 35 = .ok (.aload_n 0, 1) := by decide +kernel
theorem dX9_befalls_36 : decode cX9_befalls 36 = .ok (.getfield 160, 3) := by decide +kernel
theorem dX9_befalls_39 : decode cX9_befalls 39 = .ok (.if_icmp .ge 104, 3) := by decide +kernel
theorem dX9_befalls_42 : decode cX9_befalls 42 = .ok (.aload_n 0, 1) := by decide +kernel
theorem dX9_befalls_43 : decode cX9_befalls 43 = .ok (.getfield 31, 3) := by decide +kernel
theorem dX9_befalls_46 : decode cX9_befalls 46 = .ok (.iload_n 2, 1) := by decide +kernel
theorem dX9_befalls_47 : decode cX9_befalls 47 = .ok (.iaload, 1) := by decide +kernel
theorem dX9_befalls_48 : decode cX9_befalls 48 = .ok (.iload_n 1, 1) := by decide +kernel
theorem dX9_befalls_49 : decode cX9_befalls 49 = .ok (.if_icmp .ne 88, 3) := by decide +kernel
theorem dX9_befalls_52 : decode cX9_befalls 52 = .ok (.aload_n 0, 1) := by decide +kernel
theorem dX9_befalls_53 : decode cX9_befalls 53 = .ok (.getfield 185, 3) := by decide +kernel
theorem dX9_befalls_56 : decode cX9_befalls 56 = .ok (.iload_n 2, 1) := by decide +kernel
theorem dX9_befalls_57 : decode cX9_befalls 57 = .ok (.invokestatic 197, 3) := by decide +kernel
theorem dX9_befalls_60 : decode cX9_befalls 60 = .ok (.ifCond .ne 77, 3) := by decide +kernel
theorem dX9_befalls_63 : decode cX9_befalls 63 = .ok (.aload_n 0, 1) := by decide +kernel
theorem dX9_befalls_64 : decode cX9_befalls 64 = .ok (.aload_n 0, 1) := by decide +kernel
theorem dX9_befalls_65 : decode cX9_befalls 65 = .ok (.getfield 28, 3) := by decide +kernel
theorem dX9_befalls_68 : decode cX9_befalls 68 = .ok (.iload_n 2, 1) := by decide +kernel
theorem dX9_befalls_69 : decode cX9_befalls 69 = .ok (.iaload, 1) := by decide +kernel
theorem dX9_befalls_70 : decode cX9_befalls 70 = .ok (.ifCond .ne 7, 3) := by decide +kernel
theorem dX9_befalls_73 : decode cX9_befalls 73 = .ok (.iconst 1, 1) := by decide +kernel
theorem dX9_befalls_74 : decode cX9_befalls 74 = .ok (.goto 7, 3) := by decide +kernel
theorem dX9_befalls_77 : decode cX9_befalls 77 = .ok (.aload_n 0, 1) := by decide +kernel
theorem dX9_befalls_78 : decode cX9_befalls 78 = .ok (.getfield 188, 3) := by decide +kernel
theorem dX9_befalls_81 : decode cX9_befalls 81 = .ok (.putfield 188, 3) := by decide +kernel
theorem dX9_befalls_84 : decode cX9_befalls 84 = .ok (.aload_n 0, 1) := by decide +kernel
theorem dX9_befalls_85 : decode cX9_befalls 85 = .ok (.aload_n 0, 1) := by decide +kernel
theorem dX9_befalls_86 : decode cX9_befalls 86 = .ok (.getfield 28, 3) := by decide +kernel
theorem dX9_befalls_89 : decode cX9_befalls 89 = .ok (.iload_n 2, 1) := by decide +kernel
theorem dX9_befalls_90 : decode cX9_befalls 90 = .ok (.iaload, 1) := by decide +kernel
theorem dX9_befalls_91 : decode cX9_befalls 91 = .ok (.iconst 1, 1) := by decide +kernel
theorem dX9_befalls_92 : decode cX9_befalls 92 = .ok (.if_icmp .ne 7, 3) := by decide +kernel
theorem dX9_befalls_95 : decode cX9_befalls 95 = .ok (.iconst 1, 1) := by decide +kernel
theorem dX9_befalls_96 : decode cX9_befalls 96 = .ok (.goto 7, 3) := by decide +kernel
theorem dX9_befalls_99 : decode cX9_befalls 99 = .ok (.aload_n 0, 1) := by decide +kernel
theorem dX9_befalls_100 : decode cX9_befalls 100 = .ok (.getfield 191, 3) := by decide +kernel
theorem dX9_befalls_103 : decode cX9_befalls 103 = .ok (.putfield 191, 3) := by decide +kernel
theorem dX9_befalls_106 : decode cX9_befalls 106 = .ok (.aload_n 0, 1) := by decide +kernel
theorem dX9_befalls_107 : decode cX9_befalls 107 = .ok (.dup, 1) := by decide +kernel
theorem dX9_befalls_108 : decode cX9_befalls 108 = .ok (.getfield 194, 3) := by decide +kernel
theorem dX9_befalls_111 : decode cX9_befalls 111 = .ok (.aload_n 0, 1) := by decide +kernel
theorem dX9_befalls_112 : decode cX9_befalls 112 = .ok (.getfield 28, 3) := by decide +kernel
theorem dX9_befalls_115 : decode cX9_befalls 115 = .ok (.iload_n 2, 1) := by decide +kernel
theorem dX9_befalls_116 : decode cX9_befalls 116 = .ok (.iaload, 1) := by decide +kernel
theorem dX9_befalls_117 : decode cX9_befalls 117 = .ok (.iconst 2, 1) := by decide +kernel
theorem dX9_befalls_118 : decode cX9_befalls 118 = .ok (.if_icmp .ne 14, 3) := by decide +kernel
theorem dX9_befalls_121 : decode cX9_befalls 121 = .ok (.iconst 1, 1) := by decide +kernel
theorem dX9_befalls_122 : decode cX9_befalls 122 = .ok (.aload_n 0, 1) := by decide +kernel
theorem dX9_befalls_123 : decode cX9_befalls 123 = .ok (.getfield 34, 3) := by decide +kernel
theorem dX9_befalls_126 : decode cX9_befalls 126 = .ok (.iload_n 2, 1) := by decide +kernel
theorem dX9_befalls_127 : decode cX9_befalls 127 = .ok (.iaload, 1) := by decide +kernel
theorem dX9_befalls_128 : decode cX9_befalls 128 = .ok (.ishl, 1) := by decide +kernel
theorem dX9_befalls_129 : decode cX9_befalls 129 = .ok (.goto 4, 3) := by decide +kernel
theorem dX9_befalls_132 : decode cX9_befalls 132 = .ok (.iconst 0, 1) := by decide +kernel
theorem dX9_befalls_133 : decode cX9_befalls 133 = .ok (.ior, 1) := by decide +kernel
theorem dX9_befalls_134 : decode cX9_befalls 134 = .ok (.putfield 194, 3) := by decide +kernel
theorem dX9_befalls_137 : decode cX9_befalls 137 = .ok (.iinc 2 1, 3) := by decide +kernel
theorem dX9_befalls_140 : decode cX9_befalls 140 = .ok (.goto (-106), 3) := by decide +kernel
theorem dX9_befalls_143 : decode cX9_befalls 143 = .ok (.return_, 1) := by decide +kernel
theorem dX9_isOpen_0 : decode cX9_isOpen 0 = .ok (.aload_n 0, 1) := by decide +kernel
theorem dX9_isOpen_1 : decode cX9_isOpen 1 = .ok (.getfield 55, 3) := by decide +kernel
theorem dX9_isOpen_4 : decode cX9_isOpen 4 = .ok (.iload_n 1, 1) := by decide +kernel
theorem dX9_isOpen_5 : decode cX9_isOpen 5 = .ok (.iaload, 1) := by decide +kernel
theorem dX9_isOpen_6 : decode cX9_isOpen 6 = .ok (.iconst (-1), 1) := by decide +kernel
theorem dX9_isOpen_7 : decode cX9_isOpen 7 = .ok (.if_icmp .ne 7, 3) := by decide +kernel
theorem dX9_isOpen_10 : decode cX9_isOpen 10 = .ok (.iconst 1, 1) := by decide +kernel
theorem dX9_isOpen_11 : decode cX9_isOpen 11 = .ok (.goto 4, 3) := by decide +kernel
theorem dX9_isOpen_14 : decode cX9_isOpen 14 = .ok (.iconst 0, 1) := by decide +kernel
theorem dX9_isOpen_15 : decode cX9_isOpen 15 = .ok (.ireturn, 1) := by decide +kernel
theorem dX9_heatsUp_0 : decode cX9_heatsUp 0 = .ok (.iconst 0, 1) := by decide +kernel
theorem dX9_heatsUp_1 : decode cX9_heatsUp 1 = .ok (.istore_n 1, 1) := by decide +kernel
theorem dX9_heatsUp_2 : decode cX9_heatsUp 2 = .ok (.iload_n 1, 1) := by decide +kernel
theorem dX9_heatsUp_3 : decode cX9_heatsUp 3 = .ok (.aload_n 0, 1) := by decide +kernel
theorem dX9_heatsUp_4 : decode cX9_heatsUp 4 = .ok (.getfield 173, 3) := by decide +kernel
theorem dX9_heatsUp_7 : decode cX9_heatsUp 7 = .ok (.if_icmp .ge 42, 3) := by decide +kernel
theorem dX9_heatsUp_10 : decode cX9_heatsUp 10 = .ok (.aload_n 0, 1) := by decide +kernel
theorem dX9_heatsUp_11 : decode cX9_heatsUp 11 = .ok (.getfield 46, 3) := by decide +kernel
theorem dX9_heatsUp_14 : decode cX9_heatsUp 14 = .ok (.iload_n 1, 1) := by decide +kernel
theorem dX9_heatsUp_15 : decode cX9_heatsUp 15 = .ok (.dup2, 1) := by decide +kernel
theorem dX9_heatsUp_16 : decode cX9_heatsUp 16 = .ok (.iaload, 1) := by decide +kernel
theorem dX9_heatsUp_17 : decode cX9_heatsUp 17 = .ok (.aload_n 0, 1) := by decide +kernel
theorem dX9_heatsUp_18 : decode cX9_heatsUp 18 = .ok (.iload_n 1, 1) := by decide +kernel
theorem dX9_heatsUp_19 : decode cX9_heatsUp 19 = .ok (.invokevirtual 201, 3) := by decide +kernel
theorem dX9_heatsUp_22 : decode cX9_heatsUp 22 = .ok (.ifCond .eq 18, 3) := by decide +kernel
theorem dX9_heatsUp_25 : decode cX9_heatsUp 25 = .ok (.aload_n 0, 1) := by decide +kernel
theorem dX9_heatsUp_26 : decode cX9_heatsUp 26 = .ok (.getfield 46, 3) := by decide +kernel
theorem dX9_heatsUp_29 : decode cX9_heatsUp 29 = .ok (.iload_n 1, 1) := by decide +kernel
theorem dX9_heatsUp_30 : decode cX9_heatsUp 30 = .ok (.iaload, 1) := by decide +kernel
theorem dX9_heatsUp_31 : decode cX9_heatsUp 31 = .ok (.bipush 9, 2) := by decide +kernel
theorem dX9_heatsUp_33 : decode cX9_heatsUp 33 = .ok (.if_icmp .ge 7, 3) := by decide +kernel
theorem dX9_heatsUp_36 : decode cX9_heatsUp 36 = .ok (.iconst 1, 1) := by decide +kernel
theorem dX9_heatsUp_37 : decode cX9_heatsUp 37 = .ok (.goto 4, 3) := by decide +kernel
theorem dX9_heatsUp_40 : decode cX9_heatsUp 40 = .ok (.iconst 0, 1) := by decide +kernel
theorem dX9_heatsUp_41 : decode cX9_heatsUp 41 = .ok (.iadd, 1) := by decide +kernel
theorem dX9_heatsUp_42 : decode cX9_heatsUp 42 = .ok (.iastore, 1) := by decide +kernel
theorem dX9_heatsUp_43 : decode cX9_heatsUp 43 = .ok (.iinc 1 1, 3) := by decide +kernel
theorem dX9_heatsUp_46 : decode cX9_heatsUp 46 = .ok (.goto (-44), 3) := by decide +kernel
theorem dX9_heatsUp_49 : decode cX9_heatsUp 49 = .ok (.return_, 1) := by decide +kernel
theorem dX9_chosen_0 : decode cX9_chosen 0 = .ok (.iconst (-1), 1) := by decide +kernel
theorem dX9_chosen_1 : decode cX9_chosen 1 = .ok (.istore_n 2, 1) := by decide +kernel
theorem dX9_chosen_2 : decode cX9_chosen 2 = .ok (.iconst 0, 1) := by decide +kernel
theorem dX9_chosen_3 : decode cX9_chosen 3 = .ok (.istore_n 3, 1) := by decide +kernel
theorem dX9_chosen_4 : decode cX9_chosen 4 = .ok (.iconst 0, 1) := by decide +kernel
theorem dX9_chosen_5 : decode cX9_chosen 5 = .ok (.istore 4, 2) := by decide +kernel
theorem dX9_chosen_7 : decode cX9_chosen 7 = .ok (.iload 4, 2) := by decide +kernel
theorem dX9_chosen_9 : decode cX9_chosen 9 = .ok (.aload_n 0, 1) := by decide +kernel
theorem dX9_chosen_10 : decode cX9_chosen 10 = .ok (.getfield 173, 3) := by decide +kernel
theorem dX9_chosen_13 : decode cX9_chosen 13 = .ok (.if_icmp .ge 102, 3) := by decide +kernel
theorem dX9_chosen_16 : decode cX9_chosen 16 = .ok (.aload_n 0, 1) := by decide +kernel
theorem dX9_chosen_17 : decode cX9_chosen 17 = .ok (.iload 4, 2) := by decide +kernel
theorem dX9_chosen_19 : decode cX9_chosen 19 = .ok (.invokevirtual 201, 3) := by decide +kernel
theorem dX9_chosen_22 : decode cX9_chosen 22 = .ok (.ifCond .eq 87, 3) := by decide +kernel
theorem dX9_chosen_25 : decode cX9_chosen 25 = .ok (.aload_n 0, 1) := by decide +kernel
theorem dX9_chosen_26 : decode cX9_chosen 26 = .ok (.getfield 37, 3) := by decide +kernel
theorem dX9_chosen_29 : decode cX9_chosen 29 = .ok (.iload 4, 2) := by decide +kernel
theorem dX9_chosen_31 : decode cX9_chosen 31 = .ok (.iaload, 1) := by decide +kernel
theorem dX9_chosen_32 : decode cX9_chosen 32 = .ok (.ifCond .ne 14, 3) := by decide +kernel
theorem dX9_chosen_35 : decode cX9_chosen 35 = .ok (.iload_n 1, 1) := by decide +kernel
theorem dX9_chosen_36 : decode cX9_chosen 36 = .ok (.aload_n 0, 1) := by decide +kernel
theorem dX9_chosen_37 : decode cX9_chosen 37 = .ok (.getfield 43, 3) := by decide +kernel
theorem dX9_chosen_40 : decode cX9_chosen 40 = .ok (.iload 4, 2) := by decide +kernel
theorem dX9_chosen_42 : decode cX9_chosen 42 = .ok (.iaload, 1) := by decide +kernel
theorem dX9_chosen_43 : decode cX9_chosen 43 = .ok (.if_icmp .le 25, 3) := by decide +kernel
theorem dX9_chosen_46 : decode cX9_chosen 46 = .ok (.aload_n 0, 1) := by decide +kernel
theorem dX9_chosen_47 : decode cX9_chosen 47 = .ok (.getfield 37, 3) := by decide +kernel
theorem dX9_chosen_50 : decode cX9_chosen 50 = .ok (.iload 4, 2) := by decide +kernel
theorem dX9_chosen_52 : decode cX9_chosen 52 = .ok (.iaload, 1) := by decide +kernel
theorem dX9_chosen_53 : decode cX9_chosen 53 = .ok (.iconst 1, 1) := by decide +kernel
theorem dX9_chosen_54 : decode cX9_chosen 54 = .ok (.if_icmp .ne 18, 3) := by decide +kernel
theorem dX9_chosen_57 : decode cX9_chosen 57 = .ok (.iload_n 1, 1) := by decide +kernel
theorem dX9_chosen_58 : decode cX9_chosen 58 = .ok (.aload_n 0, 1) := by decide +kernel
theorem dX9_chosen_59 : decode cX9_chosen 59 = .ok (.getfield 43, 3) := by decide +kernel
theorem dX9_chosen_62 : decode cX9_chosen 62 = .ok (.iload 4, 2) := by decide +kernel
theorem dX9_chosen_64 : decode cX9_chosen 64 = .ok (.iaload, 1) := by decide +kernel
theorem dX9_chosen_65 : decode cX9_chosen 65 = .ok (.if_icmp .lt 7, 3) := by decide +kernel
theorem dX9_chosen_68 : decode cX9_chosen 68 = .ok (.iconst 1, 1) := by decide +kernel
theorem dX9_chosen_69 : decode cX9_chosen 69 = .ok (.goto 4, 3) := by decide +kernel
theorem dX9_chosen_72 : decode cX9_chosen 72 = .ok (.iconst 0, 1) := by decide +kernel
theorem dX9_chosen_73 : decode cX9_chosen 73 = .ok (.istore 5, 2) := by decide +kernel
theorem dX9_chosen_75 : decode cX9_chosen 75 = .ok (.iload 5, 2) := by decide +kernel
theorem dX9_chosen_77 : decode cX9_chosen 77 = .ok (.ifCond .eq 6, 3) := by decide +kernel
theorem dX9_chosen_80 : decode cX9_chosen 80 = .ok (.iload 4, 2) := by decide +kernel
theorem dX9_chosen_82 : decode cX9_chosen 82 = .ok (.ireturn, 1) := by decide +kernel
theorem dX9_chosen_83 : decode cX9_chosen 83 = .ok (.aload_n 0, 1) := by decide +kernel
theorem dX9_chosen_84 : decode cX9_chosen 84 = .ok (.getfield 37, 3) := by decide +kernel
theorem dX9_chosen_87 : decode cX9_chosen 87 = .ok (.iload 4, 2) := by decide +kernel
theorem dX9_chosen_89 : decode cX9_chosen 89 = .ok (.iaload, 1) := by decide +kernel
theorem dX9_chosen_90 : decode cX9_chosen 90 = .ok (.iconst 2, 1) := by decide +kernel
theorem dX9_chosen_91 : decode cX9_chosen 91 = .ok (.if_icmp .ne 13, 3) := by decide +kernel
theorem dX9_chosen_94 : decode cX9_chosen 94 = .ok (.iload_n 2, 1) := by decide +kernel
theorem dX9_chosen_95 : decode cX9_chosen 95 = .ok (.iconst (-1), 1) := by decide +kernel
theorem dX9_chosen_96 : decode cX9_chosen 96 = .ok (.if_icmp .ne 8, 3) := by decide +kernel
theorem dX9_chosen_99 : decode cX9_chosen 99 = .ok (.iload 4, 2) := by decide +kernel
theorem dX9_chosen_101 : decode cX9_chosen 101 = .ok (.goto 4, 3) := by decide +kernel
theorem dX9_chosen_104 : decode cX9_chosen 104 = .ok (.iload_n 2, 1) := by decide +kernel
theorem dX9_chosen_105 : decode cX9_chosen 105 = .ok (.istore_n 2, 1) := by decide +kernel
theorem dX9_chosen_106 : decode cX9_chosen 106 = .ok (.iinc 3 1, 3) := by decide +kernel
theorem dX9_chosen_109 : decode cX9_chosen 109 = .ok (.iinc 4 1, 3) := by decide +kernel
theorem dX9_chosen_112 : decode cX9_chosen 112 = .ok (.goto (-105), 3) := by decide +kernel
theorem dX9_chosen_115 : decode cX9_chosen 115 = .ok (.iload_n 2, 1) := by decide +kernel
theorem dX9_chosen_116 : decode cX9_chosen 116 = .ok (.iconst (-1), 1) := by decide +kernel
theorem dX9_chosen_117 : decode cX9_chosen 117 = .ok (.if_icmp .eq 7, 3) := by decide +kernel
theorem dX9_chosen_120 : decode cX9_chosen 120 = .ok (.iload_n 2, 1) := by decide +kernel
theorem dX9_chosen_121 : decode cX9_chosen 121 = .ok (.goto 14, 3) := by decide +kernel
theorem dX9_chosen_124 : decode cX9_chosen 124 = .ok (.iload_n 3, 1) := by decide +kernel
theorem dX9_chosen_125 : decode cX9_chosen 125 = .ok (.ifCond .ne 8, 3) := by decide +kernel
theorem dX9_chosen_128 : decode cX9_chosen 128 = .ok (.bipush 8, 2) := by decide +kernel
theorem dX9_chosen_130 : decode cX9_chosen 130 = .ok (.goto 5, 3) := by decide +kernel
theorem dX9_chosen_133 : decode cX9_chosen 133 = .ok (.bipush 9, 2) := by decide +kernel
theorem dX9_chosen_135 : decode cX9_chosen 135 = .ok (.ireturn, 1) := by decide +kernel
theorem dX9_says_0 : decode cX9_says 0 = .ok (.aload_n 0, 1) := by decide +kernel
theorem dX9_says_1 : decode cX9_says 1 = .ok (.iload_n 2, 1) := by decide +kernel
theorem dX9_says_2 : decode cX9_says 2 = .ok (.invokevirtual 204, 3) := by decide +kernel
theorem dX9_says_5 : decode cX9_says 5 = .ok (.istore_n 3, 1) := by decide +kernel
theorem dX9_says_6 : decode cX9_says 6 = .ok (.aload_n 0, 1) := by decide +kernel
theorem dX9_says_7 : decode cX9_says 7 = .ok (.dup, 1) := by decide +kernel
theorem dX9_says_8 : decode cX9_says 8 = .ok (.getfield 207, 3) := by decide +kernel
theorem dX9_says_11 : decode cX9_says 11 = .ok (.iconst 1, 1) := by decide +kernel
theorem dX9_says_12 : decode cX9_says 12 = .ok (.iadd, 1) := by decide +kernel
theorem dX9_says_13 : decode cX9_says 13 = .ok (.putfield 207, 3) := by decide +kernel
theorem dX9_says_16 : decode cX9_says 16 = .ok (.aload_n 0, 1) := by decide +kernel
theorem dX9_says_17 : decode cX9_says 17 = .ok (.dup, 1) := by decide +kernel
theorem dX9_says_18 : decode cX9_says 18 = .ok (.getfield 210, 3) := by decide +kernel
theorem dX9_says_21 : decode cX9_says 21 = .ok (.iload_n 3, 1) := by decide +kernel
theorem dX9_says_22 : decode cX9_says 22 = .ok (.bipush 8, 2) := by decide +kernel
theorem dX9_says_24 : decode cX9_says 24 = .ok (.if_icmp .ne 7, 3) := by decide +kernel
theorem dX9_says_27 : decode cX9_says 27 = .ok (.iconst 1, 1) := by decide +kernel
theorem dX9_says_28 : decode cX9_says 28 = .ok (.goto 4, 3) := by decide +kernel
theorem dX9_says_31 : decode cX9_says 31 = .ok (.iconst 0, 1) := by decide +kernel
theorem dX9_says_32 : decode cX9_says 32 = .ok (.iadd, 1) := by decide +kernel
theorem dX9_says_33 : decode cX9_says 33 = .ok (.putfield 210, 3) := by decide +kernel
theorem dX9_says_36 : decode cX9_says 36 = .ok (.aload_n 0, 1) := by decide +kernel
theorem dX9_says_37 : decode cX9_says 37 = .ok (.dup, 1) := by decide +kernel
theorem dX9_says_38 : decode cX9_says 38 = .ok (.getfield 213, 3) := by decide +kernel
theorem dX9_says_41 : decode cX9_says 41 = .ok (.iload_n 3, 1) := by decide +kernel
theorem dX9_says_42 : decode cX9_says 42 = .ok (.bipush 9, 2) := by decide +kernel
theorem dX9_says_44 : decode cX9_says 44 = .ok (.if_icmp .ne 7, 3) := by decide +kernel
theorem dX9_says_47 : decode cX9_says 47 = .ok (.iconst 1, 1) := by decide +kernel
theorem dX9_says_48 : decode cX9_says 48 = .ok (.goto 4, 3) := by decide +kernel
theorem dX9_says_51 : decode cX9_says 51 = .ok (.iconst 0, 1) := by decide +kernel
theorem dX9_says_52 : decode cX9_says 52 = .ok (.iadd, 1) := by decide +kernel
theorem dX9_says_53 : decode cX9_says 53 = .ok (.putfield 213, 3) := by decide +kernel
theorem dX9_says_56 : decode cX9_says 56 = .ok (.aload_n 0, 1) := by decide +kernel
theorem dX9_says_57 : decode cX9_says 57 = .ok (.getfield 67, 3) := by decide +kernel
theorem dX9_says_60 : decode cX9_says 60 = .ok (.bipush 12, 2) := by decide +kernel
theorem dX9_says_62 : decode cX9_says 62 = .ok (.iload_n 1, 1) := by decide +kernel
theorem dX9_says_63 : decode cX9_says 63 = .ok (.imul, 1) := by decide +kernel
theorem dX9_says_64 : decode cX9_says 64 = .ok (.iload_n 2, 1) := by decide +kernel
theorem dX9_says_65 : decode cX9_says 65 = .ok (.iadd, 1) := by decide +kernel
theorem dX9_says_66 : decode cX9_says 66 = .ok (.iload_n 3, 1) := by decide +kernel
theorem dX9_says_67 : decode cX9_says 67 = .ok (.iastore, 1) := by decide +kernel
theorem dX9_says_68 : decode cX9_says 68 = .ok (.iload_n 3, 1) := by decide +kernel
theorem dX9_says_69 : decode cX9_says 69 = .ok (.bipush 8, 2) := by decide +kernel
theorem dX9_says_71 : decode cX9_says 71 = .ok (.if_icmp .ge 141, 3) := by decide +kernel
theorem dX9_says_74 : decode cX9_says 74 = .ok (.aload_n 0, 1) := by decide +kernel
theorem dX9_says_75 : decode cX9_says 75 = .ok (.getfield 37, 3) := by decide +kernel
theorem dX9_says_78 : decode cX9_says 78 = .ok (.iload_n 3, 1) := by decide +kernel
theorem dX9_says_79 : decode cX9_says 79 = .ok (.iaload, 1) := by decide +kernel
theorem dX9_says_80 : decode cX9_says 80 = .ok (.iconst 1, 1) := by decide +kernel
theorem dX9_says_81 : decode cX9_says 81 = .ok (.if_icmp .ne 14, 3) := by decide +kernel
theorem dX9_says_84 : decode cX9_says 84 = .ok (.aload_n 0, 1) := by decide +kernel
theorem dX9_says_85 : decode cX9_says 85 = .ok (.getfield 216, 3) := by decide +kernel
theorem dX9_says_88 : decode cX9_says 88 = .ok (.ifCond .le 7, 3) := by decide +kernel
theorem dX9_says_91 : decode cX9_says 91 = .ok (.iconst 2, 1) := by decide +kernel
theorem dX9_says_92 : decode cX9_says 92 = .ok (.goto 26, 3) := by decide +kernel
theorem dX9_says_95 : decode cX9_says 95 = .ok (.aload_n 0, 1) := by decide +kernel
theorem dX9_says_96 : decode cX9_says 96 = .ok (.getfield 37, 3) := by decide +kernel
theorem dX9_says_99 : decode cX9_says 99 = .ok (.iload_n 3, 1) := by decide +kernel
theorem dX9_says_100 : decode cX9_says 100 = .ok (.iaload, 1) := by decide +kernel
theorem dX9_says_101 : decode cX9_says 101 = .ok (.iconst 2, 1) := by decide +kernel
theorem dX9_says_102 : decode cX9_says 102 = .ok (.if_icmp .ne 15, 3) := by decide +kernel
theorem dX9_says_105 : decode cX9_says 105 = .ok (.iload_n 2, 1) := by decide +kernel
theorem dX9_says_106 : decode cX9_says 106 = .ok (.aload_n 0, 1) := by decide +kernel
theorem dX9_says_107 : decode cX9_says 107 = .ok (.getfield 219, 3) := by decide +kernel
theorem dX9_says_110 : decode cX9_says 110 = .ok (.if_icmp .ne 7, 3) := by decide +kernel
theorem dX9_says_113 : decode cX9_says 113 = .ok (.iconst 3, 1) := by decide +kernel
theorem dX9_says_114 : decode cX9_says 114 = .ok (.goto 4, 3) := by decide +kernel
theorem dX9_says_117 : decode cX9_says 117 = .ok (.iconst 1, 1) := by decide +kernel
theorem dX9_says_118 : decode cX9_says 118 = .ok (.istore 4, 2) := by decide +kernel
theorem dX9_says_120 : decode cX9_says 120 = .ok (.aload_n 0, 1) := by decide +kernel
theorem dX9_says_121 : decode cX9_says 121 = .ok (.getfield 49, 3) := by decide +kernel
theorem dX9_says_124 : decode cX9_says 124 = .ok (.iload_n 3, 1) := by decide +kernel
theorem dX9_says_125 : decode cX9_says 125 = .ok (.dup2, 1) := by decide +kernel
theorem dX9_says_126 : decode cX9_says 126 = .ok (.iaload, 1) := by decide +kernel
theorem dX9_says_127 : decode cX9_says 127 = .ok (.iconst 1, 1) := by decide +kernel
theorem dX9_says_128 : decode cX9_says 128 = .ok (.iadd, 1) := by decide +kernel
theorem dX9_says_129 : decode cX9_says 129 = .ok (.iastore, 1) := by decide +kernel
theorem dX9_says_130 : decode cX9_says 130 = .ok (.aload_n 0, 1) := by decide +kernel
theorem dX9_says_131 : decode cX9_says 131 = .ok (.getfield 58, 3) := by decide +kernel
theorem dX9_says_134 : decode cX9_says 134 = .ok (.iload_n 3, 1) := by decide +kernel
theorem dX9_says_135 : decode cX9_says 135 = .ok (.iload_n 2, 1) := by decide +kernel
theorem dX9_says_136 : decode cX9_says 136 = .ok (.aload_n 0, 1) := by decide +kernel
theorem dX9_says_137 : decode cX9_says 137 = .ok (.getfield 58, 3) := by decide +kernel
theorem dX9_says_140 : decode cX9_says 140 = .ok (.iload_n 3, 1) := by decide +kernel
theorem dX9_says_141 : decode cX9_says 141 = .ok (.iaload, 1) := by decide +kernel
theorem dX9_says_142 : decode cX9_says 142 = .ok (.if_icmp .le 7, 3) := by decide +kernel
theorem dX9_says_145 : decode cX9_says 145 = .ok (.iload_n 2, 1) := by decide +kernel
theorem dX9_says_146 : decode cX9_says 146 = .ok (.goto 9, 3) := by decide +kernel
theorem dX9_says_149 : decode cX9_says 149 = .ok (.aload_n 0, 1) := by decide +kernel
theorem dX9_says_150 : decode cX9_says 150 = .ok (.getfield 58, 3) := by decide +kernel
theorem dX9_says_153 : decode cX9_says 153 = .ok (.iload_n 3, 1) := by decide +kernel
theorem dX9_says_154 : decode cX9_says 154 = .ok (.iaload, 1) := by decide +kernel
theorem dX9_says_155 : decode cX9_says 155 = .ok (.iastore, 1) := by decide +kernel
theorem dX9_says_156 : decode cX9_says 156 = .ok (.aload_n 0, 1) := by decide +kernel
theorem dX9_says_157 : decode cX9_says 157 = .ok (.getfield 46, 3) := by decide +kernel
theorem dX9_says_160 : decode cX9_says 160 = .ok (.iload_n 3, 1) := by decide +kernel
theorem dX9_says_161 : decode cX9_says 161 = .ok (.aload_n 0, 1) := by decide +kernel
theorem dX9_says_162 : decode cX9_says 162 = .ok (.getfield 46, 3) := by decide +kernel
theorem dX9_says_165 : decode cX9_says 165 = .ok (.iload_n 3, 1) := by decide +kernel
theorem dX9_says_166 : decode cX9_says 166 = .ok (.iaload, 1) := by decide +kernel
theorem dX9_says_167 : decode cX9_says 167 = .ok (.iload 4, 2) := by decide +kernel
theorem dX9_says_169 : decode cX9_says 169 = .ok (.if_icmp .ge 7, 3) := by decide +kernel
theorem dX9_says_172 : decode cX9_says 172 = .ok (.iconst 0, 1) := by decide +kernel
theorem dX9_says_173 : decode cX9_says 173 = .ok (.goto 12, 3) := by decide +kernel
theorem dX9_says_176 : decode cX9_says 176 = .ok (.aload_n 0, 1) := by decide +kernel
theorem dX9_says_177 : decode cX9_says 177 = .ok (.getfield 46, 3) := by decide +kernel
theorem dX9_says_180 : decode cX9_says 180 = .ok (.iload_n 3, 1) := by decide +kernel
theorem dX9_says_181 : decode cX9_says 181 = .ok (.iaload, 1) := by decide +kernel
theorem dX9_says_182 : decode cX9_says 182 = .ok (.iload 4, 2) := by decide +kernel
theorem dX9_says_184 : decode cX9_says 184 = .ok (.isub, 1) := by decide +kernel
theorem dX9_says_185 : decode cX9_says 185 = .ok (.iastore, 1) := by decide +kernel
theorem dX9_says_186 : decode cX9_says 186 = .ok (.aload_n 0, 1) := by decide +kernel
theorem dX9_says_187 : decode cX9_says 187 = .ok (.getfield 46, 3) := by decide +kernel
theorem dX9_says_190 : decode cX9_says 190 = .ok (.iload_n 3, 1) := by decide +kernel
theorem dX9_says_191 : decode cX9_says 191 = .ok (.iaload, 1) := by decide +kernel
theorem dX9_says_192 : decode cX9_says 192 = .ok (.ifCond .ne 20, 3) := by decide +kernel
theorem dX9_says_195 : decode cX9_says 195 = .ok (.aload_n 0, 1) := by decide +kernel
theorem dX9_says_196 : decode cX9_says 196 = .ok (.getfield 55, 3) := by decide +kernel
theorem dX9_says_199 : decode cX9_says 199 = .ok (.iload_n 3, 1) := by decide +kernel
theorem dX9_says_200 : decode cX9_says 200 = .ok (.iload_n 1, 1) := by decide +kernel
theorem dX9_says_201 : decode cX9_says 201 = .ok (.iastore, 1) := by decide +kernel
theorem dX9_says_202 : decode cX9_says 202 = .ok (.aload_n 0, 1) := by decide +kernel
theorem dX9_says_203 : decode cX9_says 203 = .ok (.dup, 1) := by decide +kernel
theorem dX9_says_204 : decode cX9_says 204 = .ok (.getfield 216, 3) := by decide +kernel
theorem dX9_says_207 : decode cX9_says 207 = .ok (.iconst 1, 1) := by decide +kernel
theorem dX9_says_208 : decode cX9_says 208 = .ok (.iadd, 1) := by decide +kernel
theorem dX9_says_209 : decode cX9_says 209 = .ok (.putfield 216, 3) := by decide +kernel
theorem dX9_says_212 : decode cX9_says 212 = .ok (.return_, 1) := by decide +kernel
theorem dX9_takes_0 : decode cX9_takes 0 = .ok (.aload_n 0, 1) := by decide +kernel
theorem dX9_takes_1 : decode cX9_takes 1 = .ok (.getfield 16, 3) := by decide +kernel
theorem dX9_takes_4 : decode cX9_takes 4 = .ok (.iload_n 1, 1) := by decide +kernel
theorem dX9_takes_5 : decode cX9_takes 5 = .ok (.iaload, 1) := by decide +kernel
theorem dX9_takes_6 : decode cX9_takes 6 = .ok (.aload_n 0, 1) := by decide +kernel
theorem dX9_takes_7 : decode cX9_takes 7 = .ok (.getfield 194, 3) := by decide +kernel
theorem dX9_takes_10 : decode cX9_takes 10 = .ok (.iload_n 1, 1) := by decide +kernel
theorem dX9_takes_11 : decode cX9_takes 11 = .ok (.invokestatic 197, 3) := by decide +kernel
theorem dX9_takes_14 : decode cX9_takes 14 = .ok (.ifCond .eq 7, 3) := by decide +kernel
theorem dX9_takes_17 : decode cX9_takes 17 = .ok (.iconst 1, 1) := by decide +kernel
theorem dX9_takes_18 : decode cX9_takes 18 = .ok (.goto 4, 3) := by decide +kernel
theorem dX9_takes_21 : decode cX9_takes 21 = .ok (.iconst 0, 1) := by decide +kernel
theorem dX9_takes_22 : decode cX9_takes 22 = .ok (.iadd, 1) := by decide +kernel
theorem dX9_takes_23 : decode cX9_takes 23 = .ok (.ireturn, 1) := by decide +kernel
theorem dX9_lastOf_0 : decode cX9_lastOf 0 = .ok (.iconst (-1), 1) := by decide +kernel
theorem dX9_lastOf_1 : decode cX9_lastOf 1 = .ok (.istore_n 1, 1) := by decide +kernel
theorem dX9_lastOf_2 : decode cX9_lastOf 2 = .ok (.iconst 0, 1) := by decide +kernel
theorem dX9_lastOf_3 : decode cX9_lastOf 3 = .ok (.istore_n 2, 1) := by decide +kernel
theorem dX9_lastOf_4 : decode cX9_lastOf 4 = .ok (.iload_n 2, 1) := by decide +kernel
theorem dX9_lastOf_5 : decode cX9_lastOf 5 = .ok (.aload_n 0, 1) := by decide +kernel
theorem dX9_lastOf_6 : decode cX9_lastOf 6 = .ok (.getfield 176, 3) := by decide +kernel
theorem dX9_lastOf_9 : decode cX9_lastOf 9 = .ok (.if_icmp .ge 34, 3) := by decide +kernel
theorem dX9_lastOf_12 : decode cX9_lastOf 12 = .ok (.aload_n 0, 1) := by decide +kernel
theorem dX9_lastOf_13 : decode cX9_lastOf 13 = .ok (.getfield 194, 3) := by decide +kernel
theorem dX9_lastOf_16 : decode cX9_lastOf 16 = .ok (.iload_n 2, 1) := by decide +kernel
theorem dX9_lastOf_17 : decode cX9_lastOf 17 = .ok (.invokestatic 197, 3) := by decide +kernel
theorem dX9_lastOf_20 : decode cX9_lastOf 20 = .ok (.ifCond .ne 15, 3) := by decide +kernel
theorem dX9_lastOf_23 : decode cX9_lastOf 23 = .ok (.aload_n 0, 1) := by decide +kernel
theorem dX9_lastOf_24 : decode cX9_lastOf 24 = .ok (.iload_n 2, 1) := by decide +kernel
theorem dX9_lastOf_25 : decode cX9_lastOf 25 = .ok (.invokevirtual 222, 3) := by decide +kernel
theorem dX9_lastOf_28 : decode cX9_lastOf 28 = .ok (.ifCond .le 7, 3) := by decide +kernel
theorem dX9_lastOf_31 : decode cX9_lastOf 31 = .ok (.iload_n 2, 1) := by decide +kernel
theorem dX9_lastOf_32 : decode cX9_lastOf 32 = .ok (.goto 4, 3) := by decide +kernel
theorem dX9_lastOf_35 : decode cX9_lastOf 35 = .ok (.iload_n 1, 1) := by decide +kernel
theorem dX9_lastOf_36 : decode cX9_lastOf 36 = .ok (.istore_n 1, 1) := by decide +kernel
theorem dX9_lastOf_37 : decode cX9_lastOf 37 = .ok (.iinc 2 1, 3) := by decide +kernel
theorem dX9_lastOf_40 : decode cX9_lastOf 40 = .ok (.goto (-36), 3) := by decide +kernel
theorem dX9_lastOf_43 : decode cX9_lastOf 43 = .ok (.iconst 0, 1) := by decide +kernel
theorem dX9_lastOf_44 : decode cX9_lastOf 44 = .ok (.istore_n 2, 1) := by decide +kernel
theorem dX9_lastOf_45 : decode cX9_lastOf 45 = .ok (.iload_n 2, 1) := by decide +kernel
theorem dX9_lastOf_46 : decode cX9_lastOf 46 = .ok (.aload_n 0, 1) := by decide +kernel
theorem dX9_lastOf_47 : decode cX9_lastOf 47 = .ok (.getfield 176, 3) := by decide +kernel
theorem dX9_lastOf_50 : decode cX9_lastOf 50 = .ok (.if_icmp .ge 34, 3) := by decide +kernel
theorem dX9_lastOf_53 : decode cX9_lastOf 53 = .ok (.aload_n 0, 1) := by decide +kernel
theorem dX9_lastOf_54 : decode cX9_lastOf 54 = .ok (.getfield 194, 3) := by decide +kernel
theorem dX9_lastOf_57 : decode cX9_lastOf 57 = .ok (.iload_n 2, 1) := by decide +kernel
theorem dX9_lastOf_58 : decode cX9_lastOf 58 = .ok (.invokestatic 197, 3) := by decide +kernel
theorem dX9_lastOf_61 : decode cX9_lastOf 61 = .ok (.ifCond .eq 15, 3) := by decide +kernel
theorem dX9_lastOf_64 : decode cX9_lastOf 64 = .ok (.aload_n 0, 1) := by decide +kernel
theorem dX9_lastOf_65 : decode cX9_lastOf 65 = .ok (.iload_n 2, 1) := by decide +kernel
theorem dX9_lastOf_66 : decode cX9_lastOf 66 = .ok (.invokevirtual 222, 3) := by decide +kernel
theorem dX9_lastOf_69 : decode cX9_lastOf 69 = .ok (.ifCond .le 7, 3) := by decide +kernel
theorem dX9_lastOf_72 : decode cX9_lastOf 72 = .ok (.iload_n 2, 1) := by decide +kernel
theorem dX9_lastOf_73 : decode cX9_lastOf 73 = .ok (.goto 4, 3) := by decide +kernel
theorem dX9_lastOf_76 : decode cX9_lastOf 76 = .ok (.iload_n 1, 1) := by decide +kernel
theorem dX9_lastOf_77 : decode cX9_lastOf 77 = .ok (.istore_n 1, 1) := by decide +kernel
theorem dX9_lastOf_78 : decode cX9_lastOf 78 = .ok (.iinc 2 1, 3) := by decide +kernel
theorem dX9_lastOf_81 : decode cX9_lastOf 81 = .ok (.goto (-36), 3) := by decide +kernel
theorem dX9_lastOf_84 : decode cX9_lastOf 84 = .ok (.iload_n 1, 1) := by decide +kernel
theorem dX9_lastOf_85 : decode cX9_lastOf 85 = .ok (.ireturn, 1) := by decide +kernel
theorem dX9_does_0 : decode cX9_does 0 = .ok (.iconst 0, 1) := by decide +kernel
theorem dX9_does_1 : decode cX9_does 1 = .ok (.istore_n 3, 1) := by decide +kernel
theorem dX9_does_2 : decode cX9_does 2 = .ok (.iload_n 3, 1) := by decide +kernel
theorem dX9_does_3 : decode cX9_does 3 = .ok (.aload_n 0, 1) := by decide +kernel
theorem dX9_does_4 : decode cX9_does 4 = .ok (.getfield 176, 3) := by decide +kernel
theorem dX9_does_7 : decode cX9_does 7 = .ok (.if_icmp .ge 45, 3) := by decide +kernel
theorem dX9_does_10 : decode cX9_does 10 = .ok (.aload_n 0, 1) := by decide +kernel
theorem dX9_does_11 : decode cX9_does 11 = .ok (.getfield 194, 3) := by decide +kernel
theorem dX9_does_14 : decode cX9_does 14 = .ok (.iload_n 3, 1) := by decide +kernel
theorem dX9_does_15 : decode cX9_does 15 = .ok (.invokestatic 197, 3) := by decide +kernel
theorem dX9_does_18 : decode cX9_does 18 = .ok (.iload_n 2, 1) := by decide +kernel
theorem dX9_does_19 : decode cX9_does 19 = .ok (.if_icmp .ne 27, 3) := by decide +kernel
theorem dX9_does_22 : decode cX9_does 22 = .ok (.aload_n 0, 1) := by decide +kernel
theorem dX9_does_23 : decode cX9_does 23 = .ok (.iload_n 3, 1) := by decide +kernel
theorem dX9_does_24 : decode cX9_does 24 = .ok (.invokevirtual 222, 3) := by decide +kernel
theorem dX9_does_27 : decode cX9_does 27 = .ok (.istore 4, 2) := by decide +kernel
theorem dX9_does_29 : decode cX9_does 29 = .ok (.iload 4, 2) := by decide +kernel
theorem dX9_does_31 : decode cX9_does 31 = .ok (.ifCond .le 15, 3) := by decide +kernel
theorem dX9_does_34 : decode cX9_does 34 = .ok (.aload_n 0, 1) := by decide +kernel
theorem dX9_does_35 : decode cX9_does 35 = .ok (.iload_n 1, 1) := by decide +kernel
theorem dX9_does_36 : decode cX9_does 36 = .ok (.iload_n 3, 1) := by decide +kernel
theorem dX9_does_37 : decode cX9_does 37 = .ok (.invokevirtual 225, 3) := by decide +kernel
theorem dX9_does_40 : decode cX9_does 40 = .ok (.iinc 4 (-1), 3) := by decide +kernel
theorem dX9_does_43 : decode cX9_does 43 = .ok (.goto (-14), 3) := by decide +kernel
theorem dX9_does_46 : decode cX9_does 46 = .ok (.iinc 3 1, 3) := by decide +kernel
theorem dX9_does_49 : decode cX9_does 49 = .ok (.goto (-47), 3) := by decide +kernel
theorem dX9_does_52 : decode cX9_does 52 = .ok (.return_, 1) := by decide +kernel
theorem dX9_goesBy_0 : decode cX9_goesBy 0 = .ok (.aload_n 0, 1) := by decide +kernel
theorem dX9_goesBy_1 : decode cX9_goesBy 1 = .ok (.iload_n 1, 1) := by decide +kernel
theorem dX9_goesBy_2 : decode cX9_goesBy 2 = .ok (.invokevirtual 229, 3) := by decide +kernel
theorem dX9_goesBy_5 : decode cX9_goesBy 5 = .ok (.aload_n 0, 1) := by decide +kernel
theorem dX9_goesBy_6 : decode cX9_goesBy 6 = .ok (.iconst 0, 1) := by decide +kernel
theorem dX9_goesBy_7 : decode cX9_goesBy 7 = .ok (.putfield 216, 3) := by decide +kernel
theorem dX9_goesBy_10 : decode cX9_goesBy 10 = .ok (.aload_n 0, 1) := by decide +kernel
theorem dX9_goesBy_11 : decode cX9_goesBy 11 = .ok (.iconst 0, 1) := by decide +kernel
theorem dX9_goesBy_12 : decode cX9_goesBy 12 = .ok (.putfield 207, 3) := by decide +kernel
theorem dX9_goesBy_15 : decode cX9_goesBy 15 = .ok (.aload_n 0, 1) := by decide +kernel
theorem dX9_goesBy_16 : decode cX9_goesBy 16 = .ok (.iconst 0, 1) := by decide +kernel
theorem dX9_goesBy_17 : decode cX9_goesBy 17 = .ok (.putfield 210, 3) := by decide +kernel
theorem dX9_goesBy_20 : decode cX9_goesBy 20 = .ok (.aload_n 0, 1) := by decide +kernel
theorem dX9_goesBy_21 : decode cX9_goesBy 21 = .ok (.iconst 0, 1) := by decide +kernel
theorem dX9_goesBy_22 : decode cX9_goesBy 22 = .ok (.putfield 213, 3) := by decide +kernel
theorem dX9_goesBy_25 : decode cX9_goesBy 25 = .ok (.iconst 0, 1) := by decide +kernel
theorem dX9_goesBy_26 : decode cX9_goesBy 26 = .ok (.istore_n 2, 1) := by decide +kernel
theorem dX9_goesBy_27 : decode cX9_goesBy 27 = .ok (.iload_n 2, 1) := by decide +kernel
theorem dX9_goesBy_28 : decode cX9_goesBy 28 = .ok (.bipush 8, 2) := by decide +kernel
theorem dX9_goesBy_30 : decode cX9_goesBy 30 = .ok (.if_icmp .ge 16, 3) := by decide +kernel
theorem dX9_goesBy_33 : decode cX9_goesBy 33 = .ok (.aload_n 0, 1) := by decide +kernel
theorem dX9_goesBy_34 : decode cX9_goesBy 34 = .ok (.getfield 49, 3) := by decide +kernel
theorem dX9_goesBy_37 : decode cX9_goesBy 37 = .ok (.iload_n 2, 1) := by decide +kernel
theorem dX9_goesBy_38 : decode cX9_goesBy 38 = .ok (.iconst 0, 1) := by decide +kernel
theorem dX9_goesBy_39 : decode cX9_goesBy 39 = .ok (.iastore, 1) := by decide +kernel
theorem dX9_goesBy_40 : decode cX9_goesBy 40 = .ok (.iinc 2 1, 3) := by decide +kernel
theorem dX9_goesBy_43 : decode cX9_goesBy 43 = .ok (.goto (-16), 3) := by decide +kernel
theorem dX9_goesBy_46 : decode cX9_goesBy 46 = .ok (.iconst 0, 1) := by decide +kernel
theorem dX9_goesBy_47 : decode cX9_goesBy 47 = .ok (.istore_n 2, 1) := by decide +kernel
theorem dX9_goesBy_48 : decode cX9_goesBy 48 = .ok (.iload_n 2, 1) := by decide +kernel
theorem dX9_goesBy_49 : decode cX9_goesBy 49 = .ok (.bipush 12, 2) := by decide +kernel
theorem dX9_goesBy_51 : decode cX9_goesBy 51 = .ok (.if_icmp .ge 21, 3) := by decide +kernel
theorem dX9_goesBy_54 : decode cX9_goesBy 54 = .ok (.aload_n 0, 1) := by decide +kernel
theorem dX9_goesBy_55 : decode cX9_goesBy 55 = .ok (.getfield 67, 3) := by decide +kernel
theorem dX9_goesBy_58 : decode cX9_goesBy 58 = .ok (.bipush 12, 2) := by decide +kernel
theorem dX9_goesBy_60 : decode cX9_goesBy 60 = .ok (.iload_n 1, 1) := by decide +kernel
theorem dX9_goesBy_61 : decode cX9_goesBy 61 = .ok (.imul, 1) := by decide +kernel
theorem dX9_goesBy_62 : decode cX9_goesBy 62 = .ok (.iload_n 2, 1) := by decide +kernel
theorem dX9_goesBy_63 : decode cX9_goesBy 63 = .ok (.iadd, 1) := by decide +kernel
theorem dX9_goesBy_64 : decode cX9_goesBy 64 = .ok (.iconst (-1), 1) := by decide +kernel
theorem dX9_goesBy_65 : decode cX9_goesBy 65 = .ok (.iastore, 1) := by decide +kernel
theorem dX9_goesBy_66 : decode cX9_goesBy 66 = .ok (.iinc 2 1, 3) := by decide +kernel
theorem dX9_goesBy_69 : decode cX9_goesBy 69 = .ok (.goto (-21), 3) := by decide +kernel
theorem dX9_goesBy_72 : decode cX9_goesBy 72 = .ok (.aload_n 0, 1) := by decide +kernel
theorem dX9_goesBy_73 : decode cX9_goesBy 73 = .ok (.getfield 191, 3) := by decide +kernel
theorem dX9_goesBy_76 : decode cX9_goesBy 76 = .ok (.iconst 1, 1) := by decide +kernel
theorem dX9_goesBy_77 : decode cX9_goesBy 77 = .ok (.if_icmp .ne 7, 3) := by decide +kernel
theorem dX9_goesBy_80 : decode cX9_goesBy 80 = .ok (.aload_n 0, 1) := by decide +kernel
theorem dX9_goesBy_81 : decode cX9_goesBy 81 = .ok (.invokevirtual 233, 3) := by decide +kernel
theorem dX9_goesBy_84 : decode cX9_goesBy 84 = .ok (.aload_n 0, 1) := by decide +kernel
theorem dX9_goesBy_85 : decode cX9_goesBy 85 = .ok (.getfield 188, 3) := by decide +kernel
theorem dX9_goesBy_88 : decode cX9_goesBy 88 = .ok (.ifCond .ne 30, 3) := by decide +kernel
theorem dX9_goesBy_91 : decode cX9_goesBy 91 = .ok (.aload_n 0, 1) := by decide +kernel
theorem dX9_goesBy_92 : decode cX9_goesBy 92 = .ok (.getfield 191, 3) := by decide +kernel
theorem dX9_goesBy_95 : decode cX9_goesBy 95 = .ok (.ifCond .ne 23, 3) := by decide +kernel
theorem dX9_goesBy_98 : decode cX9_goesBy 98 = .ok (.aload_n 0, 1) := by decide +kernel
theorem dX9_goesBy_99 : decode cX9_goesBy 99 = .ok (.aload_n 0, 1) := by decide +kernel
theorem dX9_goesBy_100 : decode cX9_goesBy 100 = .ok (.invokevirtual 236, 3) := by decide +kernel
theorem dX9_goesBy_103 : decode cX9_goesBy 103 = .ok (.putfield 219, 3) := by decide +kernel
theorem dX9_goesBy_106 : decode cX9_goesBy 106 = .ok (.aload_n 0, 1) := by decide +kernel
theorem dX9_goesBy_107 : decode cX9_goesBy 107 = .ok (.iload_n 1, 1) := by decide +kernel
theorem dX9_goesBy_108 : decode cX9_goesBy 108 = .ok (.iconst 0, 1) := by decide +kernel
theorem dX9_goesBy_109 : decode cX9_goesBy 109 = .ok (.invokevirtual 239, 3) := by decide +kernel
theorem dX9_goesBy_112 : decode cX9_goesBy 112 = .ok (.aload_n 0, 1) := by decide +kernel
theorem dX9_goesBy_113 : decode cX9_goesBy 113 = .ok (.iload_n 1, 1) := by decide +kernel
theorem dX9_goesBy_114 : decode cX9_goesBy 114 = .ok (.iconst 1, 1) := by decide +kernel
theorem dX9_goesBy_115 : decode cX9_goesBy 115 = .ok (.invokevirtual 239, 3) := by decide +kernel
theorem dX9_goesBy_118 : decode cX9_goesBy 118 = .ok (.return_, 1) := by decide +kernel
theorem dX9_notes_0 : decode cX9_notes 0 = .ok (.iconst 0, 1) := by decide +kernel
theorem dX9_notes_1 : decode cX9_notes 1 = .ok (.istore_n 2, 1) := by decide +kernel
theorem dX9_notes_2 : decode cX9_notes 2 = .ok (.aload_n 0, 1) := by decide +kernel
theorem dX9_notes_3 : decode cX9_notes 3 = .ok (.getfield 73, 3) := by decide +kernel
theorem dX9_notes_6 : decode cX9_notes 6 = .ok (.iload_n 1, 1) := by decide +kernel
theorem dX9_notes_7 : decode cX9_notes 7 = .ok (.iconst 0, 1) := by decide +kernel
theorem dX9_notes_8 : decode cX9_notes 8 = .ok (.iastore, 1) := by decide +kernel
theorem dX9_notes_9 : decode cX9_notes 9 = .ok (.iconst 0, 1) := by decide +kernel
theorem dX9_notes_10 : decode cX9_notes 10 = .ok (.istore_n 3, 1) := by decide +kernel
theorem dX9_notes_11 : decode cX9_notes 11 = .ok (.iload_n 3, 1) := by decide +kernel
theorem dX9_notes_12 : decode cX9_notes 12 = .ok (.aload_n 0, 1) := by decide +kernel
theorem dX9_notes_13 : decode cX9_notes 13 = .ok (.getfield 173, 3) := by decide +kernel
theorem dX9_notes_16 : decode cX9_notes 16 = .ok (.if_icmp .ge 98, 3) := by decide +kernel
theorem dX9_notes_19 : decode cX9_notes 19 = .ok (.aload_n 0, 1) := by decide +kernel
theorem dX9_notes_20 : decode cX9_notes 20 = .ok (.getfield 61, 3) := by decide +kernel
theorem dX9_notes_23 : decode cX9_notes 23 = .ok (.bipush 8, 2) := by decide +kernel
theorem dX9_notes_25 : decode cX9_notes 25 = .ok (.iload_n 1, 1) := by decide +kernel
theorem dX9_notes_26 : decode cX9_notes 26 = .ok (.imul, 1) := by decide +kernel
theorem dX9_notes_27 : decode cX9_notes 27 = .ok (.iload_n 3, 1) := by decide +kernel
theorem dX9_notes_28 : decode cX9_notes 28 = .ok (.iadd, 1) := by decide +kernel
theorem dX9_notes_29 : decode cX9_notes 29 = .ok (.aload_n 0, 1) := by decide +kernel
theorem dX9_notes_30 : decode cX9_notes 30 = .ok (.getfield 46, 3) := by decide +kernel
theorem dX9_notes_33 : decode cX9_notes 33 = .ok (.iload_n 3, 1) := by decide +kernel
theorem dX9_notes_34 : decode cX9_notes 34 = .ok (.iaload, 1) := by decide +kernel
theorem dX9_notes_35 : decode cX9_notes 35 = .ok (.iastore, 1) := by decide +kernel
theorem dX9_notes_36 : decode cX9_notes 36 = .ok (.aload_n 0, 1) := by decide +kernel
theorem dX9_notes_37 : decode cX9_notes 37 = .ok (.getfield 64, 3) := by decide +kernel
theorem dX9_notes_40 : decode cX9_notes 40 = .ok (.bipush 8, 2) := by decide +kernel
theorem dX9_notes_42 : decode cX9_notes 42 = .ok (.iload_n 1, 1) := by decide +kernel
theorem dX9_notes_43 : decode cX9_notes 43 = .ok (.imul, 1) := by decide +kernel
theorem dX9_notes_44 : decode cX9_notes 44 = .ok (.iload_n 3, 1) := by decide +kernel
theorem dX9_notes_45 : decode cX9_notes 45 = .ok (.iadd, 1) := by decide +kernel
theorem dX9_notes_46 : decode cX9_notes 46 = .ok (.aload_n 0, 1) := by decide +kernel
theorem dX9_notes_47 : decode cX9_notes 47 = .ok (.getfield 49, 3) := by decide +kernel
theorem dX9_notes_50 : decode cX9_notes 50 = .ok (.iload_n 3, 1) := by decide +kernel
theorem dX9_notes_51 : decode cX9_notes 51 = .ok (.iaload, 1) := by decide +kernel
theorem dX9_notes_52 : decode cX9_notes 52 = .ok (.iastore, 1) := by decide +kernel
theorem dX9_notes_53 : decode cX9_notes 53 = .ok (.aload_n 0, 1) := by decide +kernel
theorem dX9_notes_54 : decode cX9_notes 54 = .ok (.getfield 52, 3) := by decide +kernel
theorem dX9_notes_57 : decode cX9_notes 57 = .ok (.iload_n 3, 1) := by decide +kernel
theorem dX9_notes_58 : decode cX9_notes 58 = .ok (.dup2, 1) := by decide +kernel
theorem dX9_notes_59 : decode cX9_notes 59 = .ok (.iaload, 1) := by decide +kernel
theorem dX9_notes_60 : decode cX9_notes 60 = .ok (.aload_n 0, 1) := by decide +kernel
theorem dX9_notes_61 : decode cX9_notes 61 = .ok (.getfield 49, 3) := by decide +kernel
theorem dX9_notes_64 : decode cX9_notes 64 = .ok (.iload_n 3, 1) := by decide +kernel
theorem dX9_notes_65 : decode cX9_notes 65 = .ok (.iaload, 1) := by decide +kernel
theorem dX9_notes_66 : decode cX9_notes 66 = .ok (.iadd, 1) := by decide +kernel
theorem dX9_notes_67 : decode cX9_notes 67 = .ok (.iastore, 1) := by decide +kernel
theorem dX9_notes_68 : decode cX9_notes 68 = .ok (.iload_n 2, 1) := by decide +kernel
theorem dX9_notes_69 : decode cX9_notes 69 = .ok (.aload_n 0, 1) := by decide +kernel
theorem dX9_notes_70 : decode cX9_notes 70 = .ok (.iload_n 3, 1) := by decide +kernel
theorem dX9_notes_71 : decode cX9_notes 71 = .ok (.invokevirtual 201, 3) := by decide +kernel
theorem dX9_notes_74 : decode cX9_notes 74 = .ok (.ifCond .eq 7, 3) := by decide +kernel
theorem dX9_notes_77 : decode cX9_notes 77 = .ok (.iconst 1, 1) := by decide +kernel
theorem dX9_notes_78 : decode cX9_notes 78 = .ok (.goto 4, 3) := by decide +kernel
theorem dX9_notes_81 : decode cX9_notes 81 = .ok (.iconst 0, 1) := by decide +kernel
theorem dX9_notes_82 : decode cX9_notes 82 = .ok (.iadd, 1) := by decide +kernel
theorem dX9_notes_83 : decode cX9_notes 83 = .ok (.istore_n 2, 1) := by decide +kernel
theorem dX9_notes_84 : decode cX9_notes 84 = .ok (.aload_n 0, 1) := by decide +kernel
theorem dX9_notes_85 : decode cX9_notes 85 = .ok (.getfield 73, 3) := by decide +kernel
theorem dX9_notes_88 : decode cX9_notes 88 = .ok (.iload_n 1, 1) := by decide +kernel
theorem dX9_notes_89 : decode cX9_notes 89 = .ok (.dup2, 1) := by decide +kernel
theorem dX9_notes_90 : decode cX9_notes 90 = .ok (.iaload, 1) := by decide +kernel
theorem dX9_notes_91 : decode cX9_notes 91 = .ok (.aload_n 0, 1) := by decide +kernel
theorem dX9_notes_92 : decode cX9_notes 92 = .ok (.iload_n 3, 1) := by decide +kernel
theorem dX9_notes_93 : decode cX9_notes 93 = .ok (.invokevirtual 201, 3) := by decide +kernel
theorem dX9_notes_96 : decode cX9_notes 96 = .ok (.ifCond .eq 7, 3) := by decide +kernel
theorem dX9_notes_99 : decode cX9_notes 99 = .ok (.iconst 0, 1) := by decide +kernel
theorem dX9_notes_100 : decode cX9_notes 100 = .ok (.goto 6, 3) := by decide +kernel
theorem dX9_notes_103 : decode cX9_notes 103 = .ok (.iconst 1, 1) := by decide +kernel
theorem dX9_notes_104 : decode cX9_notes 104 = .ok (.iload_n 3, 1) := by decide +kernel
theorem dX9_notes_105 : decode cX9_notes 105 = .ok (.ishl, 1) := by decide +kernel
theorem dX9_notes_106 : decode cX9_notes 106 = .ok (.ior, 1) := by decide +kernel
theorem dX9_notes_107 : decode cX9_notes 107 = .ok (.iastore, 1) := by decide +kernel
theorem dX9_notes_108 : decode cX9_notes 108 = .ok (.iinc 3 1, 3) := by decide +kernel
theorem dX9_notes_111 : decode cX9_notes 111 = .ok (.goto (-100), 3) := by decide +kernel
theorem dX9_notes_114 : decode cX9_notes 114 = .ok (.aload_n 0, 1) := by decide +kernel
theorem dX9_notes_115 : decode cX9_notes 115 = .ok (.getfield 70, 3) := by decide +kernel
theorem dX9_notes_118 : decode cX9_notes 118 = .ok (.iconst 4, 1) := by decide +kernel
theorem dX9_notes_119 : decode cX9_notes 119 = .ok (.iload_n 1, 1) := by decide +kernel
theorem dX9_notes_120 : decode cX9_notes 120 = .ok (.imul, 1) := by decide +kernel
theorem dX9_notes_121 : decode cX9_notes 121 = .ok (.aload_n 0, 1) := by decide +kernel
theorem dX9_notes_122 : decode cX9_notes 122 = .ok (.getfield 207, 3) := by decide +kernel
theorem dX9_notes_125 : decode cX9_notes 125 = .ok (.iastore, 1) := by decide +kernel
theorem dX9_notes_126 : decode cX9_notes 126 = .ok (.aload_n 0, 1) := by decide +kernel
theorem dX9_notes_127 : decode cX9_notes 127 = .ok (.getfield 70, 3) := by decide +kernel
theorem dX9_notes_130 : decode cX9_notes 130 = .ok (.iconst 4, 1) := by decide +kernel
theorem dX9_notes_131 : decode cX9_notes 131 = .ok (.iload_n 1, 1) := by decide +kernel
theorem dX9_notes_132 : decode cX9_notes 132 = .ok (.imul, 1) := by decide +kernel
theorem dX9_notes_133 : decode cX9_notes 133 = .ok (.iconst 1, 1) := by decide +kernel
theorem dX9_notes_134 : decode cX9_notes 134 = .ok (.iadd, 1) := by decide +kernel
theorem dX9_notes_135 : decode cX9_notes 135 = .ok (.aload_n 0, 1) := by decide +kernel
theorem dX9_notes_136 : decode cX9_notes 136 = .ok (.getfield 210, 3) := by decide +kernel
theorem dX9_notes_139 : decode cX9_notes 139 = .ok (.iastore, 1) := by decide +kernel
theorem dX9_notes_140 : decode cX9_notes 140 = .ok (.aload_n 0, 1) := by decide +kernel
theorem dX9_notes_141 : decode cX9_notes 141 = .ok (.getfield 70, 3) := by decide +kernel
theorem dX9_notes_144 : decode cX9_notes 144 = .ok (.iconst 4, 1) := by decide +kernel
theorem dX9_notes_145 : decode cX9_notes 145 = .ok (.iload_n 1, 1) := by decide +kernel
theorem dX9_notes_146 : decode cX9_notes 146 = .ok (.imul, 1) := by decide +kernel
theorem dX9_notes_147 : decode cX9_notes 147 = .ok (.iconst 2, 1) := by decide +kernel
theorem dX9_notes_148 : decode cX9_notes 148 = .ok (.iadd, 1) := by decide +kernel
theorem dX9_notes_149 : decode cX9_notes 149 = .ok (.aload_n 0, 1) := by decide +kernel
theorem dX9_notes_150 : decode cX9_notes 150 = .ok (.getfield 213, 3) := by decide +kernel
theorem dX9_notes_153 : decode cX9_notes 153 = .ok (.iastore, 1) := by decide +kernel
theorem dX9_notes_154 : decode cX9_notes 154 = .ok (.aload_n 0, 1) := by decide +kernel
theorem dX9_notes_155 : decode cX9_notes 155 = .ok (.getfield 70, 3) := by decide +kernel
theorem dX9_notes_158 : decode cX9_notes 158 = .ok (.iconst 4, 1) := by decide +kernel
theorem dX9_notes_159 : decode cX9_notes 159 = .ok (.iload_n 1, 1) := by decide +kernel
theorem dX9_notes_160 : decode cX9_notes 160 = .ok (.imul, 1) := by decide +kernel
theorem dX9_notes_161 : decode cX9_notes 161 = .ok (.iconst 3, 1) := by decide +kernel
theorem dX9_notes_162 : decode cX9_notes 162 = .ok (.iadd, 1) := by decide +kernel
theorem dX9_notes_163 : decode cX9_notes 163 = .ok (.aload_n 0, 1) := by decide +kernel
theorem dX9_notes_164 : decode cX9_notes 164 = .ok (.getfield 216, 3) := by decide +kernel
theorem dX9_notes_167 : decode cX9_notes 167 = .ok (.iastore, 1) := by decide +kernel
theorem dX9_notes_168 : decode cX9_notes 168 = .ok (.aload_n 0, 1) := by decide +kernel
theorem dX9_notes_169 : decode cX9_notes 169 = .ok (.dup, 1) := by decide +kernel
theorem dX9_notes_170 : decode cX9_notes 170 = .ok (.getfield 243, 3) := by decide +kernel
theorem dX9_notes_173 : decode cX9_notes 173 = .ok (.aload_n 0, 1) := by decide +kernel
theorem dX9_notes_174 : decode cX9_notes 174 = .ok (.getfield 207, 3) := by decide +kernel
theorem dX9_notes_177 : decode cX9_notes 177 = .ok (.iadd, 1) := by decide +kernel
theorem dX9_notes_178 : decode cX9_notes 178 = .ok (.putfield 243, 3) := by decide +kernel
theorem dX9_notes_181 : decode cX9_notes 181 = .ok (.aload_n 0, 1) := by decide +kernel
theorem dX9_notes_182 : decode cX9_notes 182 = .ok (.dup, 1) := by decide +kernel
theorem dX9_notes_183 : decode cX9_notes 183 = .ok (.getfield 246, 3) := by decide +kernel
theorem dX9_notes_186 : decode cX9_notes 186 = .ok (.aload_n 0, 1) := by decide +kernel
theorem dX9_notes_187 : decode cX9_notes 187 = .ok (.getfield 210, 3) := by decide +kernel
theorem dX9_notes_190 : decode cX9_notes 190 = .ok (.iadd, 1) := by decide +kernel
theorem dX9_notes_191 : decode cX9_notes 191 = .ok (.putfield 246, 3) := by decide +kernel
theorem dX9_notes_194 : decode cX9_notes 194 = .ok (.aload_n 0, 1) := by decide +kernel
theorem dX9_notes_195 : decode cX9_notes 195 = .ok (.dup, 1) := by decide +kernel
theorem dX9_notes_196 : decode cX9_notes 196 = .ok (.getfield 249, 3) := by decide +kernel
theorem dX9_notes_199 : decode cX9_notes 199 = .ok (.aload_n 0, 1) := by decide +kernel
theorem dX9_notes_200 : decode cX9_notes 200 = .ok (.getfield 213, 3) := by decide +kernel
theorem dX9_notes_203 : decode cX9_notes 203 = .ok (.iadd, 1) := by decide +kernel
theorem dX9_notes_204 : decode cX9_notes 204 = .ok (.putfield 249, 3) := by decide +kernel
theorem dX9_notes_207 : decode cX9_notes 207 = .ok (.aload_n 0, 1) := by decide +kernel
theorem dX9_notes_208 : decode cX9_notes 208 = .ok (.iload_n 2, 1) := by decide +kernel
theorem dX9_notes_209 : decode cX9_notes 209 = .ok (.ifCond .ne 15, 3) := by decide +kernel
theorem dX9_notes_212 : decode cX9_notes 212 = .ok (.aload_n 0, 1) := by decide +kernel
theorem dX9_notes_213 : decode cX9_notes 213 = .ok (.getfield 252, 3) := by decide +kernel
theorem dX9_notes_216 : decode cX9_notes 216 = .ok (.iconst (-1), 1) := by decide +kernel
theorem dX9_notes_217 : decode cX9_notes 217 = .ok (.if_icmp .ne 7, 3) := by decide +kernel
theorem dX9_notes_220 : decode cX9_notes 220 = .ok (.iload_n 1, 1) := by decide +kernel
theorem dX9_notes_221 : decode cX9_notes 221 = .ok (.goto 7, 3) := by decide +kernel
theorem dX9_notes_224 : decode cX9_notes 224 = .ok (.aload_n 0, 1) := by decide +kernel
theorem dX9_notes_225 : decode cX9_notes 225 = .ok (.getfield 252, 3) := by decide +kernel
theorem dX9_notes_228 : decode cX9_notes 228 = .ok (.putfield 252, 3) := by decide +kernel
theorem dX9_notes_231 : decode cX9_notes 231 = .ok (.return_, 1) := by decide +kernel
theorem dX9_runs_0 : decode cX9_runs 0 = .ok (.aload_n 0, 1) := by decide +kernel
theorem dX9_runs_1 : decode cX9_runs 1 = .ok (.iconst 0, 1) := by decide +kernel
theorem dX9_runs_2 : decode cX9_runs 2 = .ok (.putfield 243, 3) := by decide +kernel
theorem dX9_runs_5 : decode cX9_runs 5 = .ok (.aload_n 0, 1) := by decide +kernel
theorem dX9_runs_6 : decode cX9_runs 6 = .ok (.iconst 0, 1) := by decide +kernel
theorem dX9_runs_7 : decode cX9_runs 7 = .ok (.putfield 246, 3) := by decide +kernel
theorem dX9_runs_10 : decode cX9_runs 10 = .ok (.aload_n 0, 1) := by decide +kernel
theorem dX9_runs_11 : decode cX9_runs 11 = .ok (.iconst 0, 1) := by decide +kernel
theorem dX9_runs_12 : decode cX9_runs 12 = .ok (.putfield 249, 3) := by decide +kernel
theorem dX9_runs_15 : decode cX9_runs 15 = .ok (.aload_n 0, 1) := by decide +kernel
theorem dX9_runs_16 : decode cX9_runs 16 = .ok (.iconst (-1), 1) := by decide +kernel
theorem dX9_runs_17 : decode cX9_runs 17 = .ok (.putfield 252, 3) := by decide +kernel
theorem dX9_runs_20 : decode cX9_runs 20 = .ok (.iconst 0, 1) := by decide +kernel
theorem dX9_runs_21 : decode cX9_runs 21 = .ok (.istore_n 1, 1) := by decide +kernel
theorem dX9_runs_22 : decode cX9_runs 22 = .ok (.iload_n 1, 1) := by decide +kernel
theorem dX9_runs_23 : decode cX9_runs 23 = .ok (.bipush 8, 2) := by decide +kernel
theorem dX9_runs_25 : decode cX9_runs 25 = .ok (.if_icmp .ge 54, 3) := by decide +kernel
theorem dX9_runs_28 : decode cX9_runs 28 = .ok (.aload_n 0, 1) := by decide +kernel
theorem dX9_runs_29 : decode cX9_runs 29 = .ok (.getfield 46, 3) := by decide +kernel
theorem dX9_runs_32 : decode cX9_runs 32 = .ok (.iload_n 1, 1) := by decide +kernel
theorem dX9_runs_33 : decode cX9_runs 33 = .ok (.iload_n 1, 1) := by decide +kernel
theorem dX9_runs_34 : decode cX9_runs 34 = .ok (.aload_n 0, 1) := by decide +kernel
theorem dX9_runs_35 : decode cX9_runs 35 = .ok (.getfield 173, 3) := by decide +kernel
theorem dX9_runs_38 : decode cX9_runs 38 = .ok (.if_icmp .ge 12, 3) := by decide +kernel
theorem dX9_runs_41 : decode cX9_runs 41 = .ok (.aload_n 0, 1) := by decide +kernel
theorem dX9_runs_42 : decode cX9_runs 42 = .ok (.getfield 40, 3) := by decide +kernel
theorem dX9_runs_45 : decode cX9_runs 45 = .ok (.iload_n 1, 1) := by decide +kernel
theorem dX9_runs_46 : decode cX9_runs 46 = .ok (.iaload, 1) := by decide +kernel
theorem dX9_runs_47 : decode cX9_runs 47 = .ok (.goto 4, 3) := by decide +kernel
theorem dX9_runs_50 : decode cX9_runs 50 = .ok (.iconst 0, 1) := by decide +kernel
theorem dX9_runs_51 : decode cX9_runs 51 = .ok (.iastore, 1) := by decide +kernel
theorem dX9_runs_52 : decode cX9_runs 52 = .ok (.aload_n 0, 1) := by decide +kernel
theorem dX9_runs_53 : decode cX9_runs 53 = .ok (.getfield 52, 3) := by decide +kernel
theorem dX9_runs_56 : decode cX9_runs 56 = .ok (.iload_n 1, 1) := by decide +kernel
theorem dX9_runs_57 : decode cX9_runs 57 = .ok (.iconst 0, 1) := by decide +kernel
theorem dX9_runs_58 : decode cX9_runs 58 = .ok (.iastore, 1) := by decide +kernel
theorem dX9_runs_59 : decode cX9_runs 59 = .ok (.aload_n 0, 1) := by decide +kernel
theorem dX9_runs_60 : decode cX9_runs 60 = .ok (.getfield 55, 3) := by decide +kernel
theorem dX9_runs_63 : decode cX9_runs 63 = .ok (.iload_n 1, 1) := by decide +kernel
theorem dX9_runs_64 : decode cX9_runs 64 = .ok (.iconst (-1), 1) := by decide +kernel
theorem dX9_runs_65 : decode cX9_runs 65 = .ok (.iastore, 1) := by decide +kernel
theorem dX9_runs_66 : decode cX9_runs 66 = .ok (.aload_n 0, 1) := by decide +kernel
theorem dX9_runs_67 : decode cX9_runs 67 = .ok (.getfield 58, 3) := by decide +kernel
theorem dX9_runs_70 : decode cX9_runs 70 = .ok (.iload_n 1, 1) := by decide +kernel
theorem dX9_runs_71 : decode cX9_runs 71 = .ok (.iconst (-1), 1) := by decide +kernel
theorem dX9_runs_72 : decode cX9_runs 72 = .ok (.iastore, 1) := by decide +kernel
theorem dX9_runs_73 : decode cX9_runs 73 = .ok (.iinc 1 1, 3) := by decide +kernel
theorem dX9_runs_76 : decode cX9_runs 76 = .ok (.goto (-54), 3) := by decide +kernel
theorem dX9_runs_79 : decode cX9_runs 79 = .ok (.iconst 0, 1) := by decide +kernel
theorem dX9_runs_80 : decode cX9_runs 80 = .ok (.istore_n 1, 1) := by decide +kernel
theorem dX9_runs_81 : decode cX9_runs 81 = .ok (.iload_n 1, 1) := by decide +kernel
theorem dX9_runs_82 : decode cX9_runs 82 = .ok (.bipush 12, 2) := by decide +kernel
theorem dX9_runs_84 : decode cX9_runs 84 = .ok (.if_icmp .ge 23, 3) := by decide +kernel
theorem dX9_runs_87 : decode cX9_runs 87 = .ok (.aload_n 0, 1) := by decide +kernel
theorem dX9_runs_88 : decode cX9_runs 88 = .ok (.iload_n 1, 1) := by decide +kernel
theorem dX9_runs_89 : decode cX9_runs 89 = .ok (.invokevirtual 255, 3) := by decide +kernel
theorem dX9_runs_92 : decode cX9_runs 92 = .ok (.aload_n 0, 1) := by decide +kernel
theorem dX9_runs_93 : decode cX9_runs 93 = .ok (.iload_n 1, 1) := by decide +kernel
theorem dX9_runs_94 : decode cX9_runs 94 = .ok (.invokevirtual 258, 3) := by decide +kernel
theorem dX9_runs_97 : decode cX9_runs 97 = .ok (.aload_n 0, 1) := by decide +kernel
theorem dX9_runs_98 : decode cX9_runs 98 = .ok (.invokevirtual 233, 3) := by decide +kernel
theorem dX9_runs_101 : decode cX9_runs 101 = .ok (.iinc 1 1, 3) := by decide +kernel
theorem dX9_runs_104 : decode cX9_runs 104 = .ok (.goto (-23), 3) := by decide +kernel
theorem dX9_runs_107 : decode cX9_runs 107 = .ok (.return_, 1) := by decide +kernel
theorem dX9_runsTold_0 : decode cX9_runsTold 0 = .ok (.aload_n 0, 1) := by decide +kernel
theorem dX9_runsTold_1 : decode cX9_runsTold 1 = .ok (.invokevirtual 261, 3) := by decide +kernel
theorem dX9_runsTold_4 : decode cX9_runsTold 4 = .ok (.aload_n 0, 1) := by decide +kernel
theorem dX9_runsTold_5 : decode cX9_runsTold 5 = .ok (.invokevirtual 264, 3) := by decide +kernel
theorem dX9_runsTold_8 : decode cX9_runsTold 8 = .ok (.return_, 1) := by decide +kernel
theorem dX9_heatOf_0 : decode cX9_heatOf 0 = .ok (.aload_n 0, 1) := by decide +kernel
theorem dX9_heatOf_1 : decode cX9_heatOf 1 = .ok (.invokevirtual 267, 3) := by decide +kernel
theorem dX9_heatOf_4 : decode cX9_heatOf 4 = .ok (.iload_n 3, 1) := by decide +kernel
theorem dX9_heatOf_5 : decode cX9_heatOf 5 = .ok (.ifCond .ne 17, 3) := by decide +kernel
theorem dX9_heatOf_8 : decode cX9_heatOf 8 = .ok (.aload_n 0, 1) := by decide +kernel
theorem dX9_heatOf_9 : decode cX9_heatOf 9 = .ok (.getfield 61, 3) := by decide +kernel
theorem dX9_heatOf_12 : decode cX9_heatOf 12 = .ok (.bipush 8, 2) := by decide +kernel
theorem dX9_heatOf_14 : decode cX9_heatOf 14 = .ok (.iload_n 1, 1) := by decide +kernel
theorem dX9_heatOf_15 : decode cX9_heatOf 15 = .ok (.imul, 1) := by decide +kernel
theorem dX9_heatOf_16 : decode cX9_heatOf 16 = .ok (.iload_n 2, 1) := by decide +kernel
theorem dX9_heatOf_17 : decode cX9_heatOf 17 = .ok (.iadd, 1) := by decide +kernel
theorem dX9_heatOf_18 : decode cX9_heatOf 18 = .ok (.iaload, 1) := by decide +kernel
theorem dX9_heatOf_19 : decode cX9_heatOf 19 = .ok (.goto 14, 3) := by decide +kernel
theorem dX9_heatOf_22 : decode cX9_heatOf 22 = .ok (.aload_n 0, 1) := by decide +kernel
theorem dX9_heatOf_23 : decode cX9_heatOf 23 = .ok (.getfield 64, 3) := by decide +kernel
theorem dX9_heatOf_26 : decode cX9_heatOf 26 = .ok (.bipush 8, 2) := by decide +kernel
theorem dX9_heatOf_28 : decode cX9_heatOf 28 = .ok (.iload_n 1, 1) := by decide +kernel
theorem dX9_heatOf_29 : decode cX9_heatOf 29 = .ok (.imul, 1) := by decide +kernel
theorem dX9_heatOf_30 : decode cX9_heatOf 30 = .ok (.iload_n 2, 1) := by decide +kernel
theorem dX9_heatOf_31 : decode cX9_heatOf 31 = .ok (.iadd, 1) := by decide +kernel
theorem dX9_heatOf_32 : decode cX9_heatOf 32 = .ok (.iaload, 1) := by decide +kernel
theorem dX9_heatOf_33 : decode cX9_heatOf 33 = .ok (.ireturn, 1) := by decide +kernel
theorem dX9_heat_0 : decode cX9_heat 0 = .ok (.iload_n 1, 1) := by decide +kernel
theorem dX9_heat_1 : decode cX9_heat 1 = .ok (.invokestatic 157, 3) := by decide +kernel
theorem dX9_heat_4 : decode cX9_heat 4 = .ok (.ifCond .eq 28, 3) := by decide +kernel
theorem dX9_heat_7 : decode cX9_heat 7 = .ok (.aload_n 0, 1) := by decide +kernel
theorem dX9_heat_8 : decode cX9_heat 8 = .ok (.iload_n 2, 1) := by decide +kernel
theorem dX9_heat_9 : decode cX9_heat 9 = .ok (.invokevirtual 148, 3) := by decide +kernel
theorem dX9_heat_12 : decode cX9_heat 12 = .ok (.ifCond .eq 20, 3) := by decide +kernel
theorem dX9_heat_15 : decode cX9_heat 15 = .ok (.iload_n 3, 1) := by decide +kernel
theorem dX9_heat_16 : decode cX9_heat 16 = .ok (.invokestatic 113, 3) := by decide +kernel
theorem dX9_heat_19 : decode cX9_heat 19 = .ok (.ifCond .eq 13, 3) := by decide +kernel
theorem dX9_heat_22 : decode cX9_heat 22 = .ok (.aload_n 0, 1) := by decide +kernel
theorem dX9_heat_23 : decode cX9_heat 23 = .ok (.iload_n 1, 1) := by decide +kernel
theorem dX9_heat_24 : decode cX9_heat 24 = .ok (.iload_n 2, 1) := by decide +kernel
theorem dX9_heat_25 : decode cX9_heat 25 = .ok (.iload_n 3, 1) := by decide +kernel
theorem dX9_heat_26 : decode cX9_heat 26 = .ok (.invokevirtual 270, 3) := by decide +kernel
theorem dX9_heat_29 : decode cX9_heat 29 = .ok (.goto 5, 3) := by decide +kernel
theorem dX9_heat_32 : decode cX9_heat 32 = .ok (.bipush (-2), 2) := by decide +kernel
theorem dX9_heat_34 : decode cX9_heat 34 = .ok (.ireturn, 1) := by decide +kernel
theorem dX9_saidOf_0 : decode cX9_saidOf 0 = .ok (.aload_n 0, 1) := by decide +kernel
theorem dX9_saidOf_1 : decode cX9_saidOf 1 = .ok (.invokevirtual 267, 3) := by decide +kernel
theorem dX9_saidOf_4 : decode cX9_saidOf 4 = .ok (.aload_n 0, 1) := by decide +kernel
theorem dX9_saidOf_5 : decode cX9_saidOf 5 = .ok (.getfield 67, 3) := by decide +kernel
theorem dX9_saidOf_8 : decode cX9_saidOf 8 = .ok (.bipush 12, 2) := by decide +kernel
theorem dX9_saidOf_10 : decode cX9_saidOf 10 = .ok (.iload_n 1, 1) := by decide +kernel
theorem dX9_saidOf_11 : decode cX9_saidOf 11 = .ok (.imul, 1) := by decide +kernel
theorem dX9_saidOf_12 : decode cX9_saidOf 12 = .ok (.iload_n 2, 1) := by decide +kernel
theorem dX9_saidOf_13 : decode cX9_saidOf 13 = .ok (.iadd, 1) := by decide +kernel
theorem dX9_saidOf_14 : decode cX9_saidOf 14 = .ok (.iaload, 1) := by decide +kernel
theorem dX9_saidOf_15 : decode cX9_saidOf 15 = .ok (.ireturn, 1) := by decide +kernel
theorem dX9_said_0 : decode cX9_said 0 = .ok (.iload_n 1, 1) := by decide +kernel
theorem dX9_said_1 : decode cX9_said 1 = .ok (.invokestatic 157, 3) := by decide +kernel
theorem dX9_said_4 : decode cX9_said 4 = .ok (.ifCond .eq 20, 3) := by decide +kernel
theorem dX9_said_7 : decode cX9_said 7 = .ok (.aload_n 0, 1) := by decide +kernel
theorem dX9_said_8 : decode cX9_said 8 = .ok (.iload_n 2, 1) := by decide +kernel
theorem dX9_said_9 : decode cX9_said 9 = .ok (.invokevirtual 145, 3) := by decide +kernel
theorem dX9_said_12 : decode cX9_said 12 = .ok (.ifCond .eq 12, 3) := by decide +kernel
theorem dX9_said_15 : decode cX9_said 15 = .ok (.aload_n 0, 1) := by decide +kernel
theorem dX9_said_16 : decode cX9_said 16 = .ok (.iload_n 1, 1) := by decide +kernel
theorem dX9_said_17 : decode cX9_said 17 = .ok (.iload_n 2, 1) := by decide +kernel
theorem dX9_said_18 : decode cX9_said 18 = .ok (.invokevirtual 273, 3) := by decide +kernel
theorem dX9_said_21 : decode cX9_said 21 = .ok (.goto 5, 3) := by decide +kernel
theorem dX9_said_24 : decode cX9_said 24 = .ok (.bipush (-2), 2) := by decide +kernel
theorem dX9_said_26 : decode cX9_said 26 = .ok (.ireturn, 1) := by decide +kernel
theorem dX9_atOf_0 : decode cX9_atOf 0 = .ok (.aload_n 0, 1) := by decide +kernel
theorem dX9_atOf_1 : decode cX9_atOf 1 = .ok (.invokevirtual 267, 3) := by decide +kernel
theorem dX9_atOf_4 : decode cX9_atOf 4 = .ok (.aload_n 0, 1) := by decide +kernel
theorem dX9_atOf_5 : decode cX9_atOf 5 = .ok (.getfield 70, 3) := by decide +kernel
theorem dX9_atOf_8 : decode cX9_atOf 8 = .ok (.iconst 4, 1) := by decide +kernel
theorem dX9_atOf_9 : decode cX9_atOf 9 = .ok (.iload_n 1, 1) := by decide +kernel
theorem dX9_atOf_10 : decode cX9_atOf 10 = .ok (.imul, 1) := by decide +kernel
theorem dX9_atOf_11 : decode cX9_atOf 11 = .ok (.iload_n 2, 1) := by decide +kernel
theorem dX9_atOf_12 : decode cX9_atOf 12 = .ok (.iadd, 1) := by decide +kernel
theorem dX9_atOf_13 : decode cX9_atOf 13 = .ok (.iaload, 1) := by decide +kernel
theorem dX9_atOf_14 : decode cX9_atOf 14 = .ok (.ireturn, 1) := by decide +kernel
theorem dX9_at_0 : decode cX9_at 0 = .ok (.iload_n 1, 1) := by decide +kernel
theorem dX9_at_1 : decode cX9_at 1 = .ok (.invokestatic 157, 3) := by decide +kernel
theorem dX9_at_4 : decode cX9_at 4 = .ok (.ifCond .eq 21, 3) := by decide +kernel
theorem dX9_at_7 : decode cX9_at 7 = .ok (.iload_n 2, 1) := by decide +kernel
theorem dX9_at_8 : decode cX9_at 8 = .ok (.iconst 0, 1) := by decide +kernel
theorem dX9_at_9 : decode cX9_at 9 = .ok (.iconst 3, 1) := by decide +kernel
theorem dX9_at_10 : decode cX9_at 10 = .ok (.invokestatic 109, 3) := by decide +kernel
theorem dX9_at_13 : decode cX9_at 13 = .ok (.ifCond .eq 12, 3) := by decide +kernel
theorem dX9_at_16 : decode cX9_at 16 = .ok (.aload_n 0, 1) := by decide +kernel
theorem dX9_at_17 : decode cX9_at 17 = .ok (.iload_n 1, 1) := by decide +kernel
theorem dX9_at_18 : decode cX9_at 18 = .ok (.iload_n 2, 1) := by decide +kernel
theorem dX9_at_19 : decode cX9_at 19 = .ok (.invokevirtual 276, 3) := by decide +kernel
theorem dX9_at_22 : decode cX9_at 22 = .ok (.goto 5, 3) := by decide +kernel
theorem dX9_at_25 : decode cX9_at 25 = .ok (.bipush (-2), 2) := by decide +kernel
theorem dX9_at_27 : decode cX9_at 27 = .ok (.ireturn, 1) := by decide +kernel
theorem dX9_settledOf_0 : decode cX9_settledOf 0 = .ok (.aload_n 0, 1) := by decide +kernel
theorem dX9_settledOf_1 : decode cX9_settledOf 1 = .ok (.invokevirtual 267, 3) := by decide +kernel
theorem dX9_settledOf_4 : decode cX9_settledOf 4 = .ok (.aload_n 0, 1) := by decide +kernel
theorem dX9_settledOf_5 : decode cX9_settledOf 5 = .ok (.getfield 55, 3) := by decide +kernel
theorem dX9_settledOf_8 : decode cX9_settledOf 8 = .ok (.iload_n 1, 1) := by decide +kernel
theorem dX9_settledOf_9 : decode cX9_settledOf 9 = .ok (.iaload, 1) := by decide +kernel
theorem dX9_settledOf_10 : decode cX9_settledOf 10 = .ok (.ireturn, 1) := by decide +kernel
theorem dX9_settled_0 : decode cX9_settled 0 = .ok (.aload_n 0, 1) := by decide +kernel
theorem dX9_settled_1 : decode cX9_settled 1 = .ok (.iload_n 1, 1) := by decide +kernel
theorem dX9_settled_2 : decode cX9_settled 2 = .ok (.invokevirtual 148, 3) := by decide +kernel
theorem dX9_settled_5 : decode cX9_settled 5 = .ok (.ifCond .eq 11, 3) := by decide +kernel
theorem dX9_settled_8 : decode cX9_settled 8 = .ok (.aload_n 0, 1) := by decide +kernel
theorem dX9_settled_9 : decode cX9_settled 9 = .ok (.iload_n 1, 1) := by decide +kernel
theorem dX9_settled_10 : decode cX9_settled 10 = .ok (.invokevirtual 279, 3) := by decide +kernel
theorem dX9_settled_13 : decode cX9_settled 13 = .ok (.goto 5, 3) := by decide +kernel
theorem dX9_settled_16 : decode cX9_settled 16 = .ok (.bipush (-2), 2) := by decide +kernel
theorem dX9_settled_18 : decode cX9_settled 18 = .ok (.ireturn, 1) := by decide +kernel
theorem dX9_manySettled_0 : decode cX9_manySettled 0 = .ok (.iconst 0, 1) := by decide +kernel
theorem dX9_manySettled_1 : decode cX9_manySettled 1 = .ok (.istore_n 1, 1) := by decide +kernel
theorem dX9_manySettled_2 : decode cX9_manySettled 2 = .ok (.iconst 0, 1) := by decide +kernel
theorem dX9_manySettled_3 : decode cX9_manySettled 3 = .ok (.istore_n 2, 1) := by decide +kernel
theorem dX9_manySettled_4 : decode cX9_manySettled 4 = .ok (.iload_n 2, 1) := by decide +kernel
theorem dX9_manySettled_5 : decode cX9_manySettled 5 = .ok (.aload_n 0, 1) := by decide +kernel
theorem dX9_manySettled_6 : decode cX9_manySettled 6 = .ok (.getfield 173, 3) := by decide +kernel
theorem dX9_manySettled_9 : decode cX9_manySettled 9 = .ok (.if_icmp .ge 25, 3) := by decide +kernel
theorem dX9_manySettled_12 : decode cX9_manySettled 12 = .ok (.iload_n 1, 1) := by decide +kernel
theorem dX9_manySettled_13 : decode cX9_manySettled 13 = .ok (.aload_n 0, 1) := by decide +kernel
theorem dX9_manySettled_14 : decode cX9_manySettled 14 = .ok (.iload_n 2, 1) := by decide +kernel
theorem dX9_manySettled_15 : decode cX9_manySettled 15 = .ok (.invokevirtual 201, 3) := by decide +kernel
theorem dX9_manySettled_18 : decode cX9_manySettled 18 = .ok (.ifCond .eq 7, 3) := by decide +kernel
theorem dX9_manySettled_21 : decode cX9_manySettled 21 = .ok (.iconst 0, 1) := by decide +kernel
theorem dX9_manySettled_22 : decode cX9_manySettled 22 = .ok (.goto 4, 3) := by decide +kernel
theorem dX9_manySettled_25 : decode cX9_manySettled 25 = .ok (.iconst 1, 1) := by decide +kernel
theorem dX9_manySettled_26 : decode cX9_manySettled 26 = .ok (.iadd, 1) := by decide +kernel
theorem dX9_manySettled_27 : decode cX9_manySettled 27 = .ok (.istore_n 1, 1) := by decide +kernel
theorem dX9_manySettled_28 : decode cX9_manySettled 28 = .ok (.iinc 2 1, 3) := by decide +kernel
theorem dX9_manySettled_31 : decode cX9_manySettled 31 = .ok (.goto (-27), 3) := by decide +kernel
theorem dX9_manySettled_34 : decode cX9_manySettled 34 = .ok (.iload_n 1, 1) := by decide +kernel
theorem dX9_manySettled_35 : decode cX9_manySettled 35 = .ok (.ireturn, 1) := by decide +kernel
theorem dX9_sumOf_0 : decode cX9_sumOf 0 = .ok (.aload_n 0, 1) := by decide +kernel
theorem dX9_sumOf_1 : decode cX9_sumOf 1 = .ok (.invokevirtual 267, 3) := by decide +kernel
theorem dX9_sumOf_4 : decode cX9_sumOf 4 = .ok (.iload_n 1, 1) := by decide +kernel
theorem dX9_sumOf_5 : decode cX9_sumOf 5 = .ok (.ifCond .ne 10, 3) := by decide +kernel
theorem dX9_sumOf_8 : decode cX9_sumOf 8 = .ok (.aload_n 0, 1) := by decide +kernel
theorem dX9_sumOf_9 : decode cX9_sumOf 9 = .ok (.invokevirtual 282, 3) := by decide +kernel
theorem dX9_sumOf_12 : decode cX9_sumOf 12 = .ok (.goto 31, 3) := by decide +kernel
theorem dX9_sumOf_15 : decode cX9_sumOf 15 = .ok (.iload_n 1, 1) := by decide +kernel
theorem dX9_sumOf_16 : decode cX9_sumOf 16 = .ok (.iconst 1, 1) := by decide +kernel
theorem dX9_sumOf_17 : decode cX9_sumOf 17 = .ok (.if_icmp .ne 10, 3) := by decide +kernel
theorem dX9_sumOf_20 : decode cX9_sumOf 20 = .ok (.aload_n 0, 1) := by decide +kernel
theorem dX9_sumOf_21 : decode cX9_sumOf 21 = .ok (.getfield 243, 3) := by decide +kernel
theorem dX9_sumOf_24 : decode cX9_sumOf 24 = .ok (.goto 19, 3) := by decide +kernel
theorem dX9_sumOf_27 : decode cX9_sumOf 27 = .ok (.iload_n 1, 1) := by decide +kernel
theorem dX9_sumOf_28 : decode cX9_sumOf 28 = .ok (.iconst 2, 1) := by decide +kernel
theorem dX9_sumOf_29 : decode cX9_sumOf 29 = .ok (.if_icmp .ne 10, 3) := by decide +kernel
theorem dX9_sumOf_32 : decode cX9_sumOf 32 = .ok (.aload_n 0, 1) := by decide +kernel
theorem dX9_sumOf_33 : decode cX9_sumOf 33 = .ok (.getfield 246, 3) := by decide +kernel
theorem dX9_sumOf_36 : decode cX9_sumOf 36 = .ok (.goto 7, 3) := by decide +kernel
theorem dX9_sumOf_39 : decode cX9_sumOf 39 = .ok (.aload_n 0, 1) := by decide +kernel
theorem dX9_sumOf_40 : decode cX9_sumOf 40 = .ok (.getfield 249, 3) := by decide +kernel
theorem dX9_sumOf_43 : decode cX9_sumOf 43 = .ok (.ireturn, 1) := by decide +kernel
theorem dX9_sum_0 : decode cX9_sum 0 = .ok (.iload_n 1, 1) := by decide +kernel
theorem dX9_sum_1 : decode cX9_sum 1 = .ok (.iconst 0, 1) := by decide +kernel
theorem dX9_sum_2 : decode cX9_sum 2 = .ok (.iconst 3, 1) := by decide +kernel
theorem dX9_sum_3 : decode cX9_sum 3 = .ok (.invokestatic 109, 3) := by decide +kernel
theorem dX9_sum_6 : decode cX9_sum 6 = .ok (.ifCond .eq 11, 3) := by decide +kernel
theorem dX9_sum_9 : decode cX9_sum 9 = .ok (.aload_n 0, 1) := by decide +kernel
theorem dX9_sum_10 : decode cX9_sum 10 = .ok (.iload_n 1, 1) := by decide +kernel
theorem dX9_sum_11 : decode cX9_sum 11 = .ok (.invokevirtual 285, 3) := by decide +kernel
theorem dX9_sum_14 : decode cX9_sum 14 = .ok (.goto 5, 3) := by decide +kernel
theorem dX9_sum_17 : decode cX9_sum 17 = .ok (.bipush (-2), 2) := by decide +kernel
theorem dX9_sum_19 : decode cX9_sum 19 = .ok (.ireturn, 1) := by decide +kernel
theorem dX9_peaceOf_0 : decode cX9_peaceOf 0 = .ok (.aload_n 0, 1) := by decide +kernel
theorem dX9_peaceOf_1 : decode cX9_peaceOf 1 = .ok (.invokevirtual 267, 3) := by decide +kernel
theorem dX9_peaceOf_4 : decode cX9_peaceOf 4 = .ok (.aload_n 0, 1) := by decide +kernel
theorem dX9_peaceOf_5 : decode cX9_peaceOf 5 = .ok (.getfield 252, 3) := by decide +kernel
theorem dX9_peaceOf_8 : decode cX9_peaceOf 8 = .ok (.ireturn, 1) := by decide +kernel
theorem dX9_peace_0 : decode cX9_peace 0 = .ok (.aload_n 0, 1) := by decide +kernel
theorem dX9_peace_1 : decode cX9_peace 1 = .ok (.invokevirtual 288, 3) := by decide +kernel
theorem dX9_peace_4 : decode cX9_peace 4 = .ok (.ireturn, 1) := by decide +kernel
theorem dX9_longestOf_0 : decode cX9_longestOf 0 = .ok (.aload_n 0, 1) := by decide +kernel
theorem dX9_longestOf_1 : decode cX9_longestOf 1 = .ok (.invokevirtual 267, 3) := by decide +kernel
theorem dX9_longestOf_4 : decode cX9_longestOf 4 = .ok (.iconst (-1), 1) := by decide +kernel
theorem dX9_longestOf_5 : decode cX9_longestOf 5 = .ok (.istore_n 1, 1) := by decide +kernel
theorem dX9_longestOf_6 : decode cX9_longestOf 6 = .ok (.iconst 0, 1) := by decide +kernel
theorem dX9_longestOf_7 : decode cX9_longestOf 7 = .ok (.istore_n 2, 1) := by decide +kernel
theorem dX9_longestOf_8 : decode cX9_longestOf 8 = .ok (.iconst 0, 1) := by decide +kernel
theorem dX9_longestOf_9 : decode cX9_longestOf 9 = .ok (.istore_n 3, 1) := by decide +kernel
theorem dX9_longestOf_10 : decode cX9_longestOf 10 = .ok (.iload_n 3, 1) := by decide +kernel
theorem dX9_longestOf_11 : decode cX9_longestOf 11 = .ok (.aload_n 0, 1) := by decide +kernel
theorem dX9_longestOf_12 : decode cX9_longestOf 12 = .ok (.getfield 125, 3) := by decide +kernel
theorem dX9_longestOf_15 : decode cX9_longestOf 15 = .ok (.if_icmp .ge 46, 3) := by decide +kernel
theorem dX9_longestOf_18 : decode cX9_longestOf 18 = .ok (.aload_n 0, 1) := by decide +kernel
theorem dX9_longestOf_19 : decode cX9_longestOf 19 = .ok (.getfield 52, 3) := by decide +kernel
theorem dX9_longestOf_22 : decode cX9_longestOf 22 = .ok (.iload_n 3, 1) := by decide +kernel
theorem dX9_longestOf_23 : decode cX9_longestOf 23 = .ok (.iaload, 1) := by decide +kernel
theorem dX9_longestOf_24 : decode cX9_longestOf 24 = .ok (.iload_n 2, 1) := by decide +kernel
theorem dX9_longestOf_25 : decode cX9_longestOf 25 = .ok (.if_icmp .le 7, 3) := by decide +kernel
theorem dX9_longestOf_28 : decode cX9_longestOf 28 = .ok (.iload_n 3, 1) := by decide +kernel
theorem dX9_longestOf_29 : decode cX9_longestOf 29 = .ok (.goto 4, 3) := by decide +kernel
theorem dX9_longestOf_32 : decode cX9_longestOf 32 = .ok (.iload_n 1, 1) := by decide +kernel
theorem dX9_longestOf_33 : decode cX9_longestOf 33 = .ok (.istore_n 1, 1) := by decide +kernel
theorem dX9_longestOf_34 : decode cX9_longestOf 34 = .ok (.aload_n 0, 1) := by decide +kernel
theorem dX9_longestOf_35 : decode cX9_longestOf 35 = .ok (.getfield 52, 3) := by decide +kernel
theorem dX9_longestOf_38 : decode cX9_longestOf 38 = .ok (.iload_n 3, 1) := by decide +kernel
theorem dX9_longestOf_39 : decode cX9_longestOf 39 = .ok (.iaload, 1) := by decide +kernel
theorem dX9_longestOf_40 : decode cX9_longestOf 40 = .ok (.iload_n 2, 1) := by decide +kernel
theorem dX9_longestOf_41 : decode cX9_longestOf 41 = .ok (.if_icmp .le 12, 3) := by decide +kernel
theorem dX9_longestOf_44 : decode cX9_longestOf 44 = .ok (.aload_n 0, 1) := by decide +kernel
theorem dX9_longestOf_45 : decode cX9_longestOf 45 = .ok (.getfield 52, 3) := by decide +kernel
theorem dX9_longestOf_48 : decode cX9_longestOf 48 = .ok (.iload_n 3, 1) := by decide +kernel
theorem dX9_longestOf_49 : decode cX9_longestOf 49 = .ok (.iaload, 1) := by decide +kernel
theorem dX9_longestOf_50 : decode cX9_longestOf 50 = .ok (.goto 4, 3) := by decide +kernel
theorem dX9_longestOf_53 : decode cX9_longestOf 53 = .ok (.iload_n 2, 1) := by decide +kernel
theorem dX9_longestOf_54 : decode cX9_longestOf 54 = .ok (.istore_n 2, 1) := by decide +kernel
theorem dX9_longestOf_55 : decode cX9_longestOf 55 = .ok (.iinc 3 1, 3) := by decide +kernel
theorem dX9_longestOf_58 : decode cX9_longestOf 58 = .ok (.goto (-48), 3) := by decide +kernel
theorem dX9_longestOf_61 : decode cX9_longestOf 61 = .ok (.iload_n 1, 1) := by decide +kernel
theorem dX9_longestOf_62 : decode cX9_longestOf 62 = .ok (.ireturn, 1) := by decide +kernel
theorem dX9_longest_0 : decode cX9_longest 0 = .ok (.aload_n 0, 1) := by decide +kernel
theorem dX9_longest_1 : decode cX9_longest 1 = .ok (.invokevirtual 291, 3) := by decide +kernel
theorem dX9_longest_4 : decode cX9_longest 4 = .ok (.ireturn, 1) := by decide +kernel
theorem dX9_highestOf_0 : decode cX9_highestOf 0 = .ok (.aload_n 0, 1) := by decide +kernel
theorem dX9_highestOf_1 : decode cX9_highestOf 1 = .ok (.invokevirtual 267, 3) := by decide +kernel
theorem dX9_highestOf_4 : decode cX9_highestOf 4 = .ok (.aload_n 0, 1) := by decide +kernel
theorem dX9_highestOf_5 : decode cX9_highestOf 5 = .ok (.getfield 58, 3) := by decide +kernel
theorem dX9_highestOf_8 : decode cX9_highestOf 8 = .ok (.iload_n 1, 1) := by decide +kernel
theorem dX9_highestOf_9 : decode cX9_highestOf 9 = .ok (.iaload, 1) := by decide +kernel
theorem dX9_highestOf_10 : decode cX9_highestOf 10 = .ok (.ireturn, 1) := by decide +kernel
theorem dX9_highest_0 : decode cX9_highest 0 = .ok (.aload_n 0, 1) := by decide +kernel
theorem dX9_highest_1 : decode cX9_highest 1 = .ok (.iload_n 1, 1) := by decide +kernel
theorem dX9_highest_2 : decode cX9_highest 2 = .ok (.invokevirtual 148, 3) := by decide +kernel
theorem dX9_highest_5 : decode cX9_highest 5 = .ok (.ifCond .eq 11, 3) := by decide +kernel
theorem dX9_highest_8 : decode cX9_highest 8 = .ok (.aload_n 0, 1) := by decide +kernel
theorem dX9_highest_9 : decode cX9_highest 9 = .ok (.iload_n 1, 1) := by decide +kernel
theorem dX9_highest_10 : decode cX9_highest 10 = .ok (.invokevirtual 294, 3) := by decide +kernel
theorem dX9_highest_13 : decode cX9_highest 13 = .ok (.goto 5, 3) := by decide +kernel
theorem dX9_highest_16 : decode cX9_highest 16 = .ok (.bipush (-2), 2) := by decide +kernel
theorem dX9_highest_18 : decode cX9_highest 18 = .ok (.ireturn, 1) := by decide +kernel
theorem dX9_soreOf_0 : decode cX9_soreOf 0 = .ok (.aload_n 0, 1) := by decide +kernel
theorem dX9_soreOf_1 : decode cX9_soreOf 1 = .ok (.invokevirtual 267, 3) := by decide +kernel
theorem dX9_soreOf_4 : decode cX9_soreOf 4 = .ok (.iconst 1, 1) := by decide +kernel
theorem dX9_soreOf_5 : decode cX9_soreOf 5 = .ok (.aload_n 0, 1) := by decide +kernel
theorem dX9_soreOf_6 : decode cX9_soreOf 6 = .ok (.getfield 125, 3) := by decide +kernel
theorem dX9_soreOf_9 : decode cX9_soreOf 9 = .ok (.ishl, 1) := by decide +kernel
theorem dX9_soreOf_10 : decode cX9_soreOf 10 = .ok (.iconst 1, 1) := by decide +kernel
theorem dX9_soreOf_11 : decode cX9_soreOf 11 = .ok (.isub, 1) := by decide +kernel
theorem dX9_soreOf_12 : decode cX9_soreOf 12 = .ok (.aload_n 0, 1) := by decide +kernel
theorem dX9_soreOf_13 : decode cX9_soreOf 13 = .ok (.getfield 73, 3) := by decide +kernel
theorem dX9_soreOf_16 : decode cX9_soreOf 16 = .ok (.bipush 11, 2) := by decide +kernel
theorem dX9_soreOf_18 : decode cX9_soreOf 18 = .ok (.iaload, 1) := by decide +kernel
theorem dX9_soreOf_19 : decode cX9_soreOf 19 = .ok (.iconst (-1), 1) := by decide +kernel
theorem dX9_soreOf_20 : decode cX9_soreOf 20 = .ok (.ixor, 1) := by decide +kernel
theorem dX9_soreOf_21 : decode cX9_soreOf 21 = .ok (.iand, 1) := by decide +kernel
theorem dX9_soreOf_22 : decode cX9_soreOf 22 = .ok (.ireturn, 1) := by decide +kernel
theorem dX9_sore_0 : decode cX9_sore 0 = .ok (.aload_n 0, 1) := by decide +kernel
theorem dX9_sore_1 : decode cX9_sore 1 = .ok (.invokevirtual 297, 3) := by decide +kernel
theorem dX9_sore_4 : decode cX9_sore 4 = .ok (.ireturn, 1) := by decide +kernel
theorem dX9_starts_0 : decode cX9_starts 0 = .ok (.aload_n 0, 1) := by decide +kernel
theorem dX9_starts_1 : decode cX9_starts 1 = .ok (.invokevirtual 261, 3) := by decide +kernel
theorem dX9_starts_4 : decode cX9_starts 4 = .ok (.aload_n 0, 1) := by decide +kernel
theorem dX9_starts_5 : decode cX9_starts 5 = .ok (.iconst (-1), 1) := by decide +kernel
theorem dX9_starts_6 : decode cX9_starts 6 = .ok (.putfield 300, 3) := by decide +kernel
theorem dX9_starts_9 : decode cX9_starts 9 = .ok (.aload_n 0, 1) := by decide +kernel
theorem dX9_starts_10 : decode cX9_starts 10 = .ok (.iconst (-1), 1) := by decide +kernel
theorem dX9_starts_11 : decode cX9_starts 11 = .ok (.putfield 303, 3) := by decide +kernel
theorem dX9_starts_14 : decode cX9_starts 14 = .ok (.aload_n 0, 1) := by decide +kernel
theorem dX9_starts_15 : decode cX9_starts 15 = .ok (.iconst (-1), 1) := by decide +kernel
theorem dX9_starts_16 : decode cX9_starts 16 = .ok (.putfield 306, 3) := by decide +kernel
theorem dX9_starts_19 : decode cX9_starts 19 = .ok (.return_, 1) := by decide +kernel
theorem dX9_tries_0 : decode cX9_tries 0 = .ok (.aload_n 0, 1) := by decide +kernel
theorem dX9_tries_1 : decode cX9_tries 1 = .ok (.invokevirtual 264, 3) := by decide +kernel
theorem dX9_tries_4 : decode cX9_tries 4 = .ok (.aload_n 0, 1) := by decide +kernel
theorem dX9_tries_5 : decode cX9_tries 5 = .ok (.invokevirtual 282, 3) := by decide +kernel
theorem dX9_tries_8 : decode cX9_tries 8 = .ok (.istore_n 2, 1) := by decide +kernel
theorem dX9_tries_9 : decode cX9_tries 9 = .ok (.iload_n 2, 1) := by decide +kernel
theorem dX9_tries_10 : decode cX9_tries 10 = .ok (.aload_n 0, 1) := by decide +kernel
theorem dX9_tries_11 : decode cX9_tries 11 = .ok (.getfield 303, 3) := by decide +kernel
theorem dX9_tries_14 : decode cX9_tries 14 = .ok (.if_icmp .gt 22, 3) := by decide +kernel
theorem dX9_tries_17 : decode cX9_tries 17 = .ok (.iload_n 2, 1) := by decide +kernel
theorem dX9_tries_18 : decode cX9_tries 18 = .ok (.aload_n 0, 1) := by decide +kernel
theorem dX9_tries_19 : decode cX9_tries 19 = .ok (.getfield 303, 3) := by decide +kernel
theorem dX9_tries_22 : decode cX9_tries 22 = .ok (.if_icmp .ne 32, 3) := by decide +kernel
theorem dX9_tries_25 : decode cX9_tries 25 = .ok (.aload_n 0, 1) := by decide +kernel
theorem dX9_tries_26 : decode cX9_tries 26 = .ok (.getfield 246, 3) := by decide +kernel
theorem dX9_tries_29 : decode cX9_tries 29 = .ok (.aload_n 0, 1) := by decide +kernel
theorem dX9_tries_30 : decode cX9_tries 30 = .ok (.getfield 306, 3) := by decide +kernel
theorem dX9_tries_33 : decode cX9_tries 33 = .ok (.if_icmp .le 21, 3) := by decide +kernel
theorem dX9_tries_36 : decode cX9_tries 36 = .ok (.aload_n 0, 1) := by decide +kernel
theorem dX9_tries_37 : decode cX9_tries 37 = .ok (.iload_n 1, 1) := by decide +kernel
theorem dX9_tries_38 : decode cX9_tries 38 = .ok (.putfield 300, 3) := by decide +kernel
theorem dX9_tries_41 : decode cX9_tries 41 = .ok (.aload_n 0, 1) := by decide +kernel
theorem dX9_tries_42 : decode cX9_tries 42 = .ok (.iload_n 2, 1) := by decide +kernel
theorem dX9_tries_43 : decode cX9_tries 43 = .ok (.putfield 303, 3) := by decide +kernel
theorem dX9_tries_46 : decode cX9_tries 46 = .ok (.aload_n 0, 1) := by decide +kernel
theorem dX9_tries_47 : decode cX9_tries 47 = .ok (.aload_n 0, 1) := by decide +kernel
theorem dX9_tries_48 : decode cX9_tries 48 = .ok (.getfield 246, 3) := by decide +kernel
theorem dX9_tries_51 : decode cX9_tries 51 = .ok (.putfield 306, 3) := by decide +kernel
theorem dX9_tries_54 : decode cX9_tries 54 = .ok (.return_, 1) := by decide +kernel
theorem dX9_puts_0 : decode cX9_puts 0 = .ok (.aload_n 0, 1) := by decide +kernel
theorem dX9_puts_1 : decode cX9_puts 1 = .ok (.getfield 37, 3) := by decide +kernel
theorem dX9_puts_4 : decode cX9_puts 4 = .ok (.iload_n 1, 1) := by decide +kernel
theorem dX9_puts_5 : decode cX9_puts 5 = .ok (.aload_n 0, 1) := by decide +kernel
theorem dX9_puts_6 : decode cX9_puts 6 = .ok (.getfield 19, 3) := by decide +kernel
theorem dX9_puts_9 : decode cX9_puts 9 = .ok (.iload_n 2, 1) := by decide +kernel
theorem dX9_puts_10 : decode cX9_puts 10 = .ok (.iaload, 1) := by decide +kernel
theorem dX9_puts_11 : decode cX9_puts 11 = .ok (.iastore, 1) := by decide +kernel
theorem dX9_puts_12 : decode cX9_puts 12 = .ok (.aload_n 0, 1) := by decide +kernel
theorem dX9_puts_13 : decode cX9_puts 13 = .ok (.getfield 40, 3) := by decide +kernel
theorem dX9_puts_16 : decode cX9_puts 16 = .ok (.iload_n 1, 1) := by decide +kernel
theorem dX9_puts_17 : decode cX9_puts 17 = .ok (.aload_n 0, 1) := by decide +kernel
theorem dX9_puts_18 : decode cX9_puts 18 = .ok (.getfield 22, 3) := by decide +kernel
theorem dX9_puts_21 : decode cX9_puts 21 = .ok (.iload_n 2, 1) := by decide +kernel
theorem dX9_puts_22 : decode cX9_puts 22 = .ok (.iaload, 1) := by decide +kernel
theorem dX9_puts_23 : decode cX9_puts 23 = .ok (.iastore, 1) := by decide +kernel
theorem dX9_puts_24 : decode cX9_puts 24 = .ok (.aload_n 0, 1) := by decide +kernel
theorem dX9_puts_25 : decode cX9_puts 25 = .ok (.getfield 43, 3) := by decide +kernel
theorem dX9_puts_28 : decode cX9_puts 28 = .ok (.iload_n 1, 1) := by decide +kernel
theorem dX9_puts_29 : decode cX9_puts 29 = .ok (.aload_n 0, 1) := by decide +kernel
theorem dX9_puts_30 : decode cX9_puts 30 = .ok (.getfield 25, 3) := by decide +kernel
theorem dX9_puts_33 : decode cX9_puts 33 = .ok (.iload_n 2, 1) := by decide +kernel
theorem dX9_puts_34 : decode cX9_puts 34 = .ok (.iaload, 1) := by decide +kernel
theorem dX9_puts_35 : decode cX9_puts 35 = .ok (.iastore, 1) := by decide +kernel
theorem dX9_puts_36 : decode cX9_puts 36 = .ok (.return_, 1) := by decide +kernel
theorem dX9_swapOf_0 : decode cX9_swapOf 0 = .ok (.aload_n 0, 1) := by decide +kernel
theorem dX9_swapOf_1 : decode cX9_swapOf 1 = .ok (.invokevirtual 309, 3) := by decide +kernel
theorem dX9_swapOf_4 : decode cX9_swapOf 4 = .ok (.iconst 0, 1) := by decide +kernel
theorem dX9_swapOf_5 : decode cX9_swapOf 5 = .ok (.istore_n 2, 1) := by decide +kernel
theorem dX9_swapOf_6 : decode cX9_swapOf 6 = .ok (.iload_n 2, 1) := by decide +kernel
theorem dX9_swapOf_7 : decode cX9_swapOf 7 = .ok (.aload_n 0, 1) := by decide +kernel
theorem dX9_swapOf_8 : decode cX9_swapOf 8 = .ok (.getfield 125, 3) := by decide +kernel
theorem dX9_swapOf_11 : decode cX9_swapOf 11 = .ok (.if_icmp .ge 61, 3) := by decide +kernel
theorem dX9_swapOf_14 : decode cX9_swapOf 14 = .ok (.iload_n 2, 1) := by decide +kernel
theorem dX9_swapOf_15 : decode cX9_swapOf 15 = .ok (.iconst 1, 1) := by decide +kernel
theorem dX9_swapOf_16 : decode cX9_swapOf 16 = .ok (.iadd, 1) := by decide +kernel
theorem dX9_swapOf_17 : decode cX9_swapOf 17 = .ok (.istore_n 3, 1) := by decide +kernel
theorem dX9_swapOf_18 : decode cX9_swapOf 18 = .ok (.iload_n 3, 1) := by decide +kernel
theorem dX9_swapOf_19 : decode cX9_swapOf 19 = .ok (.aload_n 0, 1) := by decide +kernel
theorem dX9_swapOf_20 : decode cX9_swapOf 20 = .ok (.getfield 125, 3) := by decide +kernel
theorem dX9_swapOf_23 : decode cX9_swapOf 23 = .ok (.if_icmp .ge 43, 3) := by decide +kernel
theorem dX9_swapOf_26 : decode cX9_swapOf 26 = .ok (.aload_n 0, 1) := by decide +kernel
theorem dX9_swapOf_27 : decode cX9_swapOf 27 = .ok (.iload_n 2, 1) := by decide +kernel
theorem dX9_swapOf_28 : decode cX9_swapOf 28 = .ok (.iload_n 3, 1) := by decide +kernel
theorem dX9_swapOf_29 : decode cX9_swapOf 29 = .ok (.invokevirtual 312, 3) := by decide +kernel
theorem dX9_swapOf_32 : decode cX9_swapOf 32 = .ok (.aload_n 0, 1) := by decide +kernel
theorem dX9_swapOf_33 : decode cX9_swapOf 33 = .ok (.iload_n 3, 1) := by decide +kernel
theorem dX9_swapOf_34 : decode cX9_swapOf 34 = .ok (.iload_n 2, 1) := by decide +kernel
theorem dX9_swapOf_35 : decode cX9_swapOf 35 = .ok (.invokevirtual 312, 3) := by decide +kernel
theorem dX9_swapOf_38 : decode cX9_swapOf 38 = .ok (.aload_n 0, 1) := by decide +kernel
theorem dX9_swapOf_39 : decode cX9_swapOf 39 = .ok (.bipush 8, 2) := by decide +kernel
theorem dX9_swapOf_41 : decode cX9_swapOf 41 = .ok (.iload_n 2, 1) := by decide +kernel
theorem dX9_swapOf_42 : decode cX9_swapOf 42 = .ok (.imul, 1) := by decide +kernel
theorem dX9_swapOf_43 : decode cX9_swapOf 43 = .ok (.iload_n 3, 1) := by decide +kernel
theorem dX9_swapOf_44 : decode cX9_swapOf 44 = .ok (.iadd, 1) := by decide +kernel
theorem dX9_swapOf_45 : decode cX9_swapOf 45 = .ok (.invokevirtual 315, 3) := by decide +kernel
theorem dX9_swapOf_48 : decode cX9_swapOf 48 = .ok (.aload_n 0, 1) := by decide +kernel
theorem dX9_swapOf_49 : decode cX9_swapOf 49 = .ok (.iload_n 2, 1) := by decide +kernel
theorem dX9_swapOf_50 : decode cX9_swapOf 50 = .ok (.iload_n 2, 1) := by decide +kernel
theorem dX9_swapOf_51 : decode cX9_swapOf 51 = .ok (.invokevirtual 312, 3) := by decide +kernel
theorem dX9_swapOf_54 : decode cX9_swapOf 54 = .ok (.aload_n 0, 1) := by decide +kernel
theorem dX9_swapOf_55 : decode cX9_swapOf 55 = .ok (.iload_n 3, 1) := by decide +kernel
theorem dX9_swapOf_56 : decode cX9_swapOf 56 = .ok (.iload_n 3, 1) := by decide +kernel
theorem dX9_swapOf_57 : decode cX9_swapOf 57 = .ok (.invokevirtual 312, 3) := by decide +kernel
theorem dX9_swapOf_60 : decode cX9_swapOf 60 = .ok (.iinc 3 1, 3) := by decide +kernel
theorem dX9_swapOf_63 : decode cX9_swapOf 63 = .ok (.goto (-45), 3) := by decide +kernel
theorem dX9_swapOf_66 : decode cX9_swapOf 66 = .ok (.iinc 2 1, 3) := by decide +kernel
theorem dX9_swapOf_69 : decode cX9_swapOf 69 = .ok (.goto (-63), 3) := by decide +kernel
theorem dX9_swapOf_72 : decode cX9_swapOf 72 = .ok (.aload_n 0, 1) := by decide +kernel
theorem dX9_swapOf_73 : decode cX9_swapOf 73 = .ok (.getfield 300, 3) := by decide +kernel
theorem dX9_swapOf_76 : decode cX9_swapOf 76 = .ok (.iconst (-1), 1) := by decide +kernel
theorem dX9_swapOf_77 : decode cX9_swapOf 77 = .ok (.if_icmp .ne 7, 3) := by decide +kernel
theorem dX9_swapOf_80 : decode cX9_swapOf 80 = .ok (.iconst (-1), 1) := by decide +kernel
theorem dX9_swapOf_81 : decode cX9_swapOf 81 = .ok (.goto 48, 3) := by decide +kernel
theorem dX9_swapOf_84 : decode cX9_swapOf 84 = .ok (.iload_n 1, 1) := by decide +kernel
theorem dX9_swapOf_85 : decode cX9_swapOf 85 = .ok (.ifCond .ne 13, 3) := by decide +kernel
theorem dX9_swapOf_88 : decode cX9_swapOf 88 = .ok (.aload_n 0, 1) := by decide +kernel
theorem dX9_swapOf_89 : decode cX9_swapOf 89 = .ok (.getfield 300, 3) := by decide +kernel
theorem dX9_swapOf_92 : decode cX9_swapOf 92 = .ok (.bipush 8, 2) := by decide +kernel
theorem dX9_swapOf_94 : decode cX9_swapOf 94 = .ok (.idiv, 1) := by decide +kernel
theorem dX9_swapOf_95 : decode cX9_swapOf 95 = .ok (.goto 34, 3) := by decide +kernel
theorem dX9_swapOf_98 : decode cX9_swapOf 98 = .ok (.iload_n 1, 1) := by decide +kernel
theorem dX9_swapOf_99 : decode cX9_swapOf 99 = .ok (.iconst 1, 1) := by decide +kernel
theorem dX9_swapOf_100 : decode cX9_swapOf 100 = .ok (.if_icmp .ne 13, 3) := by decide +kernel
theorem dX9_swapOf_103 : decode cX9_swapOf 103 = .ok (.aload_n 0, 1) := by decide +kernel
theorem dX9_swapOf_104 : decode cX9_swapOf 104 = .ok (.getfield 300, 3) := by decide +kernel
theorem dX9_swapOf_107 : decode cX9_swapOf 107 = .ok (.bipush 8, 2) := by decide +kernel
theorem dX9_swapOf_109 : decode cX9_swapOf 109 = .ok (.irem, 1) := by decide +kernel
theorem dX9_swapOf_110 : decode cX9_swapOf 110 = .ok (.goto 19, 3) := by decide +kernel
theorem dX9_swapOf_113 : decode cX9_swapOf 113 = .ok (.iload_n 1, 1) := by decide +kernel
theorem dX9_swapOf_114 : decode cX9_swapOf 114 = .ok (.iconst 2, 1) := by decide +kernel
theorem dX9_swapOf_115 : decode cX9_swapOf 115 = .ok (.if_icmp .ne 10, 3) := by decide +kernel
theorem dX9_swapOf_118 : decode cX9_swapOf 118 = .ok (.aload_n 0, 1) := by decide +kernel
theorem dX9_swapOf_119 : decode cX9_swapOf 119 = .ok (.getfield 303, 3) := by decide +kernel
theorem dX9_swapOf_122 : decode cX9_swapOf 122 = .ok (.goto 7, 3) := by decide +kernel
theorem dX9_swapOf_125 : decode cX9_swapOf 125 = .ok (.aload_n 0, 1) := by decide +kernel
theorem dX9_swapOf_126 : decode cX9_swapOf 126 = .ok (.getfield 306, 3) := by decide +kernel
theorem dX9_swapOf_129 : decode cX9_swapOf 129 = .ok (.ireturn, 1) := by decide +kernel
theorem dX9_swap_0 : decode cX9_swap 0 = .ok (.iload_n 1, 1) := by decide +kernel
theorem dX9_swap_1 : decode cX9_swap 1 = .ok (.iconst 0, 1) := by decide +kernel
theorem dX9_swap_2 : decode cX9_swap 2 = .ok (.iconst 3, 1) := by decide +kernel
theorem dX9_swap_3 : decode cX9_swap 3 = .ok (.invokestatic 109, 3) := by decide +kernel
theorem dX9_swap_6 : decode cX9_swap 6 = .ok (.ifCond .eq 11, 3) := by decide +kernel
theorem dX9_swap_9 : decode cX9_swap 9 = .ok (.aload_n 0, 1) := by decide +kernel
theorem dX9_swap_10 : decode cX9_swap 10 = .ok (.iload_n 1, 1) := by decide +kernel
theorem dX9_swap_11 : decode cX9_swap 11 = .ok (.invokevirtual 318, 3) := by decide +kernel
theorem dX9_swap_14 : decode cX9_swap 14 = .ok (.goto 5, 3) := by decide +kernel
theorem dX9_swap_17 : decode cX9_swap 17 = .ok (.bipush (-2), 2) := by decide +kernel
theorem dX9_swap_19 : decode cX9_swap 19 = .ok (.ireturn, 1) := by decide +kernel
theorem dX9_fitOf_0 : decode cX9_fitOf 0 = .ok (.aload_n 0, 1) := by decide +kernel
theorem dX9_fitOf_1 : decode cX9_fitOf 1 = .ok (.invokevirtual 261, 3) := by decide +kernel
theorem dX9_fitOf_4 : decode cX9_fitOf 4 = .ok (.iconst 0, 1) := by decide +kernel
theorem dX9_fitOf_5 : decode cX9_fitOf 5 = .ok (.istore_n 1, 1) := by decide +kernel
theorem dX9_fitOf_6 : decode cX9_fitOf 6 = .ok (.iload_n 1, 1) := by decide +kernel
theorem dX9_fitOf_7 : decode cX9_fitOf 7 = .ok (.aload_n 0, 1) := by decide +kernel
theorem dX9_fitOf_8 : decode cX9_fitOf 8 = .ok (.getfield 117, 3) := by decide +kernel
theorem dX9_fitOf_11 : decode cX9_fitOf 11 = .ok (.if_icmp .gt 31, 3) := by decide +kernel
theorem dX9_fitOf_14 : decode cX9_fitOf 14 = .ok (.aload_n 0, 1) := by decide +kernel
theorem dX9_fitOf_15 : decode cX9_fitOf 15 = .ok (.iload_n 1, 1) := by decide +kernel
theorem dX9_fitOf_16 : decode cX9_fitOf 16 = .ok (.putfield 176, 3) := by decide +kernel
theorem dX9_fitOf_19 : decode cX9_fitOf 19 = .ok (.aload_n 0, 1) := by decide +kernel
theorem dX9_fitOf_20 : decode cX9_fitOf 20 = .ok (.invokevirtual 264, 3) := by decide +kernel
theorem dX9_fitOf_23 : decode cX9_fitOf 23 = .ok (.aload_n 0, 1) := by decide +kernel
theorem dX9_fitOf_24 : decode cX9_fitOf 24 = .ok (.invokevirtual 282, 3) := by decide +kernel
theorem dX9_fitOf_27 : decode cX9_fitOf 27 = .ok (.aload_n 0, 1) := by decide +kernel
theorem dX9_fitOf_28 : decode cX9_fitOf 28 = .ok (.getfield 125, 3) := by decide +kernel
theorem dX9_fitOf_31 : decode cX9_fitOf 31 = .ok (.if_icmp .ne 5, 3) := by decide +kernel
theorem dX9_fitOf_34 : decode cX9_fitOf 34 = .ok (.iload_n 1, 1) := by decide +kernel
theorem dX9_fitOf_35 : decode cX9_fitOf 35 = .ok (.ireturn, 1) := by decide +kernel
theorem dX9_fitOf_36 : decode cX9_fitOf 36 = .ok (.iinc 1 1, 3) := by decide +kernel
theorem dX9_fitOf_39 : decode cX9_fitOf 39 = .ok (.goto (-33), 3) := by decide +kernel
theorem dX9_fitOf_42 : decode cX9_fitOf 42 = .ok (.iconst (-1), 1) := by decide +kernel
theorem dX9_fitOf_43 : decode cX9_fitOf 43 = .ok (.ireturn, 1) := by decide +kernel
theorem dX9_fit_0 : decode cX9_fit 0 = .ok (.aload_n 0, 1) := by decide +kernel
theorem dX9_fit_1 : decode cX9_fit 1 = .ok (.invokevirtual 321, 3) := by decide +kernel
theorem dX9_fit_4 : decode cX9_fit 4 = .ok (.ireturn, 1) := by decide +kernel
theorem dX9_leaveOf_0 : decode cX9_leaveOf 0 = .ok (.aload_n 0, 1) := by decide +kernel
theorem dX9_leaveOf_1 : decode cX9_leaveOf 1 = .ok (.invokevirtual 309, 3) := by decide +kernel
theorem dX9_leaveOf_4 : decode cX9_leaveOf 4 = .ok (.aload_n 0, 1) := by decide +kernel
theorem dX9_leaveOf_5 : decode cX9_leaveOf 5 = .ok (.iload_n 1, 1) := by decide +kernel
theorem dX9_leaveOf_6 : decode cX9_leaveOf 6 = .ok (.putfield 179, 3) := by decide +kernel
theorem dX9_leaveOf_9 : decode cX9_leaveOf 9 = .ok (.iconst 0, 1) := by decide +kernel
theorem dX9_leaveOf_10 : decode cX9_leaveOf 10 = .ok (.istore_n 3, 1) := by decide +kernel
theorem dX9_leaveOf_11 : decode cX9_leaveOf 11 = .ok (.iload_n 3, 1) := by decide +kernel
theorem dX9_leaveOf_12 : decode cX9_leaveOf 12 = .ok (.aload_n 0, 1) := by decide +kernel
theorem dX9_leaveOf_13 : decode cX9_leaveOf 13 = .ok (.getfield 117, 3) := by decide +kernel
theorem dX9_leaveOf_16 : decode cX9_leaveOf 16 = .ok (.if_icmp .ge 19, 3) := by decide +kernel
theorem dX9_leaveOf_19 : decode cX9_leaveOf 19 = .ok (.aload_n 0, 1) := by decide +kernel
theorem dX9_leaveOf_20 : decode cX9_leaveOf 20 = .ok (.iload_n 3, 1) := by decide +kernel
theorem dX9_leaveOf_21 : decode cX9_leaveOf 21 = .ok (.putfield 182, 3) := by decide +kernel
theorem dX9_leaveOf_24 : decode cX9_leaveOf 24 = .ok (.aload_n 0, 1) := by decide +kernel
theorem dX9_leaveOf_25 : decode cX9_leaveOf 25 = .ok (.iload_n 3, 1) := by decide +kernel
theorem dX9_leaveOf_26 : decode cX9_leaveOf 26 = .ok (.invokevirtual 315, 3) := by decide +kernel
theorem dX9_leaveOf_29 : decode cX9_leaveOf 29 = .ok (.iinc 3 1, 3) := by decide +kernel
theorem dX9_leaveOf_32 : decode cX9_leaveOf 32 = .ok (.goto (-21), 3) := by decide +kernel
theorem dX9_leaveOf_35 : decode cX9_leaveOf 35 = .ok (.iload_n 2, 1) := by decide +kernel
theorem dX9_leaveOf_36 : decode cX9_leaveOf 36 = .ok (.ifCond .ne 10, 3) := by decide +kernel
theorem dX9_leaveOf_39 : decode cX9_leaveOf 39 = .ok (.aload_n 0, 1) := by decide +kernel
theorem dX9_leaveOf_40 : decode cX9_leaveOf 40 = .ok (.getfield 300, 3) := by decide +kernel
theorem dX9_leaveOf_43 : decode cX9_leaveOf 43 = .ok (.goto 19, 3) := by decide +kernel
theorem dX9_leaveOf_46 : decode cX9_leaveOf 46 = .ok (.iload_n 2, 1) := by decide +kernel
theorem dX9_leaveOf_47 : decode cX9_leaveOf 47 = .ok (.iconst 1, 1) := by decide +kernel
theorem dX9_leaveOf_48 : decode cX9_leaveOf 48 = .ok (.if_icmp .ne 10, 3) := by decide +kernel
theorem dX9_leaveOf_51 : decode cX9_leaveOf 51 = .ok (.aload_n 0, 1) := by decide +kernel
theorem dX9_leaveOf_52 : decode cX9_leaveOf 52 = .ok (.getfield 303, 3) := by decide +kernel
theorem dX9_leaveOf_55 : decode cX9_leaveOf 55 = .ok (.goto 7, 3) := by decide +kernel
theorem dX9_leaveOf_58 : decode cX9_leaveOf 58 = .ok (.aload_n 0, 1) := by decide +kernel
theorem dX9_leaveOf_59 : decode cX9_leaveOf 59 = .ok (.getfield 306, 3) := by decide +kernel
theorem dX9_leaveOf_62 : decode cX9_leaveOf 62 = .ok (.ireturn, 1) := by decide +kernel
theorem dX9_leaveTold_0 : decode cX9_leaveTold 0 = .ok (.aload_n 0, 1) := by decide +kernel
theorem dX9_leaveTold_1 : decode cX9_leaveTold 1 = .ok (.invokevirtual 142, 3) := by decide +kernel
theorem dX9_leaveTold_4 : decode cX9_leaveTold 4 = .ok (.aload_n 0, 1) := by decide +kernel
theorem dX9_leaveTold_5 : decode cX9_leaveTold 5 = .ok (.getfield 117, 3) := by decide +kernel
theorem dX9_leaveTold_8 : decode cX9_leaveTold 8 = .ok (.ifCond .ne 7, 3) := by decide +kernel
theorem dX9_leaveTold_11 : decode cX9_leaveTold 11 = .ok (.iconst (-1), 1) := by decide +kernel
theorem dX9_leaveTold_12 : decode cX9_leaveTold 12 = .ok (.goto 9, 3) := by decide +kernel
theorem dX9_leaveTold_15 : decode cX9_leaveTold 15 = .ok (.aload_n 0, 1) := by decide +kernel
theorem dX9_leaveTold_16 : decode cX9_leaveTold 16 = .ok (.iload_n 1, 1) := by decide +kernel
theorem dX9_leaveTold_17 : decode cX9_leaveTold 17 = .ok (.iload_n 2, 1) := by decide +kernel
theorem dX9_leaveTold_18 : decode cX9_leaveTold 18 = .ok (.invokevirtual 324, 3) := by decide +kernel
theorem dX9_leaveTold_21 : decode cX9_leaveTold 21 = .ok (.ireturn, 1) := by decide +kernel
theorem dX9_leave_0 : decode cX9_leave 0 = .ok (.iload_n 1, 1) := by decide +kernel
theorem dX9_leave_1 : decode cX9_leave 1 = .ok (.invokestatic 157, 3) := by decide +kernel
theorem dX9_leave_4 : decode cX9_leave 4 = .ok (.ifCond .eq 19, 3) := by decide +kernel
theorem dX9_leave_7 : decode cX9_leave 7 = .ok (.iload_n 2, 1) := by decide +kernel
theorem dX9_leave_8 : decode cX9_leave 8 = .ok (.invokestatic 151, 3) := by decide +kernel
theorem dX9_leave_11 : decode cX9_leave 11 = .ok (.ifCond .eq 12, 3) := by decide +kernel
theorem dX9_leave_14 : decode cX9_leave 14 = .ok (.aload_n 0, 1) := by decide +kernel
theorem dX9_leave_15 : decode cX9_leave 15 = .ok (.iload_n 1, 1) := by decide +kernel
theorem dX9_leave_16 : decode cX9_leave 16 = .ok (.iload_n 2, 1) := by decide +kernel
theorem dX9_leave_17 : decode cX9_leave 17 = .ok (.invokevirtual 327, 3) := by decide +kernel
theorem dX9_leave_20 : decode cX9_leave 20 = .ok (.goto 5, 3) := by decide +kernel
theorem dX9_leave_23 : decode cX9_leave 23 = .ok (.bipush (-2), 2) := by decide +kernel
theorem dX9_leave_25 : decode cX9_leave 25 = .ok (.ireturn, 1) := by decide +kernel
theorem dX9_isSpared_0 : decode cX9_isSpared 0 = .ok (.aload_n 0, 1) := by decide +kernel
theorem dX9_isSpared_1 : decode cX9_isSpared 1 = .ok (.iload_n 1, 1) := by decide +kernel
theorem dX9_isSpared_2 : decode cX9_isSpared 2 = .ok (.putfield 185, 3) := by decide +kernel
theorem dX9_isSpared_5 : decode cX9_isSpared 5 = .ok (.aload_n 0, 1) := by decide +kernel
theorem dX9_isSpared_6 : decode cX9_isSpared 6 = .ok (.invokevirtual 264, 3) := by decide +kernel
theorem dX9_isSpared_9 : decode cX9_isSpared 9 = .ok (.aload_n 0, 1) := by decide +kernel
theorem dX9_isSpared_10 : decode cX9_isSpared 10 = .ok (.invokevirtual 282, 3) := by decide +kernel
theorem dX9_isSpared_13 : decode cX9_isSpared 13 = .ok (.aload_n 0, 1) := by decide +kernel
theorem dX9_isSpared_14 : decode cX9_isSpared 14 = .ok (.getfield 125, 3) := by decide +kernel
theorem dX9_isSpared_17 : decode cX9_isSpared 17 = .ok (.if_icmp .ne 7, 3) := by decide +kernel
theorem dX9_isSpared_20 : decode cX9_isSpared 20 = .ok (.iconst 1, 1) := by decide +kernel
theorem dX9_isSpared_21 : decode cX9_isSpared 21 = .ok (.goto 4, 3) := by decide +kernel
theorem dX9_isSpared_24 : decode cX9_isSpared 24 = .ok (.iconst 0, 1) := by decide +kernel
theorem dX9_isSpared_25 : decode cX9_isSpared 25 = .ok (.ireturn, 1) := by decide +kernel
theorem dX9_spareBy_0 : decode cX9_spareBy 0 = .ok (.aload_n 0, 1) := by decide +kernel
theorem dX9_spareBy_1 : decode cX9_spareBy 1 = .ok (.invokevirtual 261, 3) := by decide +kernel
theorem dX9_spareBy_4 : decode cX9_spareBy 4 = .ok (.aload_n 0, 1) := by decide +kernel
theorem dX9_spareBy_5 : decode cX9_spareBy 5 = .ok (.iconst 0, 1) := by decide +kernel
theorem dX9_spareBy_6 : decode cX9_spareBy 6 = .ok (.invokevirtual 330, 3) := by decide +kernel
theorem dX9_spareBy_9 : decode cX9_spareBy 9 = .ok (.ifCond .eq 5, 3) := by decide +kernel
theorem dX9_spareBy_12 : decode cX9_spareBy 12 = .ok (.iconst 0, 1) := by decide +kernel
theorem dX9_spareBy_13 : decode cX9_spareBy 13 = .ok (.ireturn, 1) := by decide +kernel
theorem dX9_spareBy_14 : decode cX9_spareBy 14 = .ok (.iconst 0, 1) := by decide +kernel
theorem dX9_spareBy_15 : decode cX9_spareBy 15 = .ok (.istore_n 1, 1) := by decide +kernel
theorem dX9_spareBy_16 : decode cX9_spareBy 16 = .ok (.iload_n 1, 1) := by decide +kernel
theorem dX9_spareBy_17 : decode cX9_spareBy 17 = .ok (.aload_n 0, 1) := by decide +kernel
theorem dX9_spareBy_18 : decode cX9_spareBy 18 = .ok (.getfield 160, 3) := by decide +kernel
theorem dX9_spareBy_21 : decode cX9_spareBy 21 = .ok (.if_icmp .ge 28, 3) := by decide +kernel
theorem dX9_spareBy_24 : decode cX9_spareBy 24 = .ok (.aload_n 0, 1) := by decide +kernel
theorem dX9_spareBy_25 : decode cX9_spareBy 25 = .ok (.getfield 76, 3) := by decide +kernel
theorem dX9_spareBy_28 : decode cX9_spareBy 28 = .ok (.iconst 0, 1) := by decide +kernel
theorem dX9_spareBy_29 : decode cX9_spareBy 29 = .ok (.iload_n 1, 1) := by decide +kernel
theorem dX9_spareBy_30 : decode cX9_spareBy 30 = .ok (.iastore, 1) := by decide +kernel
theorem dX9_spareBy_31 : decode cX9_spareBy 31 = .ok (.aload_n 0, 1) := by decide +kernel
theorem dX9_spareBy_32 : decode cX9_spareBy 32 = .ok (.iconst 1, 1) := by decide +kernel
theorem dX9_spareBy_33 : decode cX9_spareBy 33 = .ok (.iload_n 1, 1) := by decide +kernel
theorem dX9_spareBy_34 : decode cX9_spareBy 34 = .ok (.ishl, 1) := by decide +kernel
theorem dX9_spareBy_35 : decode cX9_spareBy 35 = .ok (.invokevirtual 330, 3) := by decide +kernel
theorem dX9_spareBy_38 : decode cX9_spareBy 38 = .ok (.ifCond .eq 5, 3) := by decide +kernel
theorem dX9_spareBy_41 : decode cX9_spareBy 41 = .ok (.iconst 1, 1) := by decide +kernel
theorem dX9_spareBy_42 : decode cX9_spareBy 42 = .ok (.ireturn, 1) := by decide +kernel
theorem dX9_spareBy_43 : decode cX9_spareBy 43 = .ok (.iinc 1 1, 3) := by decide +kernel
theorem dX9_spareBy_46 : decode cX9_spareBy 46 = .ok (.goto (-30), 3) := by decide +kernel
theorem dX9_spareBy_49 : decode cX9_spareBy 49 = .ok (.iconst 0, 1) := by decide +kernel
theorem dX9_spareBy_50 : decode cX9_spareBy 50 = .ok (.istore_n 1, 1) := by decide +kernel
theorem dX9_spareBy_51 : decode cX9_spareBy 51 = .ok (.iload_n 1, 1) := by decide +kernel
theorem dX9_spareBy_52 : decode cX9_spareBy 52 = .ok (.aload_n 0, 1) := by decide +kernel
theorem dX9_spareBy_53 : decode cX9_spareBy 53 = .ok (.getfield 160, 3) := by decide +kernel
theorem dX9_spareBy_56 : decode cX9_spareBy 56 = .ok (.if_icmp .ge 57, 3) := by decide +kernel
theorem dX9_spareBy_59 : decode cX9_spareBy 59 = .ok (.iload_n 1, 1) := by decide +kernel
theorem dX9_spareBy_60 : decode cX9_spareBy 60 = .ok (.iconst 1, 1) := by decide +kernel
theorem dX9_spareBy_61 : decode cX9_spareBy 61 = .ok (.iadd, 1) := by decide +kernel
theorem dX9_spareBy_62 : decode cX9_spareBy 62 = .ok (.istore_n 2, 1) := by decide +kernel
theorem dX9_spareBy_63 : decode cX9_spareBy 63 = .ok (.iload_n 2, 1) := by decide +kernel
theorem dX9_spareBy_64 : decode cX9_spareBy 64 = .ok (.aload_n 0, 1) := by decide +kernel
theorem dX9_spareBy_65 : decode cX9_spareBy 65 = .ok (.getfield 160, 3) := by decide +kernel
theorem dX9_spareBy_68 : decode cX9_spareBy 68 = .ok (.if_icmp .ge 39, 3) := by decide +kernel
theorem dX9_spareBy_71 : decode cX9_spareBy 71 = .ok (.aload_n 0, 1) := by decide +kernel
theorem dX9_spareBy_72 : decode cX9_spareBy 72 = .ok (.getfield 76, 3) := by decide +kernel
theorem dX9_spareBy_75 : decode cX9_spareBy 75 = .ok (.iconst 0, 1) := by decide +kernel
theorem dX9_spareBy_76 : decode cX9_spareBy 76 = .ok (.iload_n 1, 1) := by decide +kernel
theorem dX9_spareBy_77 : decode cX9_spareBy 77 = .ok (.iastore, 1) := by decide +kernel
theorem dX9_spareBy_78 : decode cX9_spareBy 78 = .ok (.aload_n 0, 1) := by decide +kernel
theorem dX9_spareBy_79 : decode cX9_spareBy 79 = .ok (.getfield 76, 3) := by decide +kernel
theorem dX9_spareBy_82 : decode cX9_spareBy 82 = .ok (.iconst 1, 1) := by decide +kernel
theorem dX9_spareBy_83 : decode cX9_spareBy 83 = .ok (.iload_n 2, 1) := by decide +kernel
theorem dX9_spareBy_84 : decode cX9_spareBy 84 = .ok (.iastore, 1) := by decide +kernel
theorem dX9_spareBy_85 : decode cX9_spareBy 85 = .ok (.aload_n 0, 1) := by decide +kernel
theorem dX9_spareBy_86 : decode cX9_spareBy 86 = .ok (.iconst 1, 1) := by decide +kernel
theorem dX9_spareBy_87 : decode cX9_spareBy 87 = .ok (.iload_n 1, 1) := by decide +kernel
theorem dX9_spareBy_88 : decode cX9_spareBy 88 = .ok (.ishl, 1) := by decide +kernel
theorem dX9_spareBy_89 : decode cX9_spareBy 89 = .ok (.iconst 1, 1) := by decide +kernel
theorem dX9_spareBy_90 : decode cX9_spareBy 90 = .ok (.iload_n 2, 1) := by decide +kernel
theorem dX9_spareBy_91 : decode cX9_spareBy 91 = .ok (.ishl, 1) := by decide +kernel
theorem dX9_spareBy_92 : decode cX9_spareBy 92 = .ok (.ior, 1) := by decide +kernel
theorem dX9_spareBy_93 : decode cX9_spareBy 93 = .ok (.invokevirtual 330, 3) := by decide +kernel
theorem dX9_spareBy_96 : decode cX9_spareBy 96 = .ok (.ifCond .eq 5, 3) := by decide +kernel
theorem dX9_spareBy_99 : decode cX9_spareBy 99 = .ok (.iconst 2, 1) := by decide +kernel
theorem dX9_spareBy_100 : decode cX9_spareBy 100 = .ok (.ireturn, 1) := by decide +kernel
theorem dX9_spareBy_101 : decode cX9_spareBy 101 = .ok (.iinc 2 1, 3) := by decide +kernel
theorem dX9_spareBy_104 : decode cX9_spareBy 104 = .ok (.goto (-41), 3) := by decide +kernel
theorem dX9_spareBy_107 : decode cX9_spareBy 107 = .ok (.iinc 1 1, 3) := by decide +kernel
theorem dX9_spareBy_110 : decode cX9_spareBy 110 = .ok (.goto (-59), 3) := by decide +kernel
theorem dX9_spareBy_113 : decode cX9_spareBy 113 = .ok (.iconst (-1), 1) := by decide +kernel
theorem dX9_spareBy_114 : decode cX9_spareBy 114 = .ok (.ireturn, 1) := by decide +kernel
theorem dX9_ofRow_0 : decode cX9_ofRow 0 = .ok (.iload_n 2, 1) := by decide +kernel
theorem dX9_ofRow_1 : decode cX9_ofRow 1 = .ok (.iconst (-1), 1) := by decide +kernel
theorem dX9_ofRow_2 : decode cX9_ofRow 2 = .ok (.if_icmp .ne 7, 3) := by decide +kernel
theorem dX9_ofRow_5 : decode cX9_ofRow 5 = .ok (.iload_n 1, 1) := by decide +kernel
theorem dX9_ofRow_6 : decode cX9_ofRow 6 = .ok (.goto 18, 3) := by decide +kernel
theorem dX9_ofRow_9 : decode cX9_ofRow 9 = .ok (.iload_n 2, 1) := by decide +kernel
theorem dX9_ofRow_10 : decode cX9_ofRow 10 = .ok (.iload_n 1, 1) := by decide +kernel
theorem dX9_ofRow_11 : decode cX9_ofRow 11 = .ok (.if_icmp .ge 12, 3) := by decide +kernel
theorem dX9_ofRow_14 : decode cX9_ofRow 14 = .ok (.aload_n 0, 1) := by decide +kernel
theorem dX9_ofRow_15 : decode cX9_ofRow 15 = .ok (.getfield 76, 3) := by decide +kernel
theorem dX9_ofRow_18 : decode cX9_ofRow 18 = .ok (.iload_n 2, 1) := by decide +kernel
theorem dX9_ofRow_19 : decode cX9_ofRow 19 = .ok (.iaload, 1) := by decide +kernel
theorem dX9_ofRow_20 : decode cX9_ofRow 20 = .ok (.goto 4, 3) := by decide +kernel
theorem dX9_ofRow_23 : decode cX9_ofRow 23 = .ok (.iconst (-1), 1) := by decide +kernel
theorem dX9_ofRow_24 : decode cX9_ofRow 24 = .ok (.ireturn, 1) := by decide +kernel
theorem dX9_spare_0 : decode cX9_spare 0 = .ok (.iload_n 1, 1) := by decide +kernel
theorem dX9_spare_1 : decode cX9_spare 1 = .ok (.iconst (-1), 1) := by decide +kernel
theorem dX9_spare_2 : decode cX9_spare 2 = .ok (.iconst 1, 1) := by decide +kernel
theorem dX9_spare_3 : decode cX9_spare 3 = .ok (.invokestatic 109, 3) := by decide +kernel
theorem dX9_spare_6 : decode cX9_spare 6 = .ok (.ifCond .eq 15, 3) := by decide +kernel
theorem dX9_spare_9 : decode cX9_spare 9 = .ok (.aload_n 0, 1) := by decide +kernel
theorem dX9_spare_10 : decode cX9_spare 10 = .ok (.aload_n 0, 1) := by decide +kernel
theorem dX9_spare_11 : decode cX9_spare 11 = .ok (.invokevirtual 333, 3) := by decide +kernel
theorem dX9_spare_14 : decode cX9_spare 14 = .ok (.iload_n 1, 1) := by decide +kernel
theorem dX9_spare_15 : decode cX9_spare 15 = .ok (.invokevirtual 336, 3) := by decide +kernel
theorem dX9_spare_18 : decode cX9_spare 18 = .ok (.goto 5, 3) := by decide +kernel
theorem dX9_spare_21 : decode cX9_spare 21 = .ok (.bipush (-2), 2) := by decide +kernel
theorem dX9_spare_23 : decode cX9_spare 23 = .ok (.ireturn, 1) := by decide +kernel
theorem dX9_seen_0 : decode cX9_seen 0 = .ok (.iload_n 1, 1) := by decide +kernel
theorem dX9_seen_1 : decode cX9_seen 1 = .ok (.invokestatic 157, 3) := by decide +kernel
theorem dX9_seen_4 : decode cX9_seen 4 = .ok (.ifCond .eq 20, 3) := by decide +kernel
theorem dX9_seen_7 : decode cX9_seen 7 = .ok (.iload_n 2, 1) := by decide +kernel
theorem dX9_seen_8 : decode cX9_seen 8 = .ok (.iconst 0, 1) := by decide +kernel
theorem dX9_seen_9 : decode cX9_seen 9 = .ok (.bipush 7, 2) := by decide +kernel
theorem dX9_seen_11 : decode cX9_seen 11 = .ok (.invokestatic 109, 3) := by decide +kernel
theorem dX9_seen_14 : decode cX9_seen 14 = .ok (.ifCond .eq 10, 3) := by decide +kernel
theorem dX9_seen_17 : decode cX9_seen 17 = .ok (.iload_n 3, 1) := by decide +kernel
theorem dX9_seen_18 : decode cX9_seen 18 = .ok (.invokestatic 113, 3) := by decide +kernel
theorem dX9_seen_21 : decode cX9_seen 21 = .ok (.ifCond .ne 6, 3) := by decide +kernel
theorem dX9_seen_24 : decode cX9_seen 24 = .ok (.bipush (-2), 2) := by decide +kernel
theorem dX9_seen_26 : decode cX9_seen 26 = .ok (.ireturn, 1) := by decide +kernel
theorem dX9_seen_27 : decode cX9_seen 27 = .ok (.aload_n 0, 1) := by decide +kernel
theorem dX9_seen_28 : decode cX9_seen 28 = .ok (.getfield 339, 3) := by decide +kernel
theorem dX9_seen_31 : decode cX9_seen 31 = .ok (.bipush 8, 2) := by decide +kernel
theorem dX9_seen_33 : decode cX9_seen 33 = .ok (.if_icmp .ne 6, 3) := by decide +kernel
theorem dX9_seen_36 : decode cX9_seen 36 = .ok (.bipush (-4), 2) := by decide +kernel
theorem dX9_seen_38 : decode cX9_seen 38 = .ok (.ireturn, 1) := by decide +kernel
theorem dX9_seen_39 : decode cX9_seen 39 = .ok (.aload_n 0, 1) := by decide +kernel
theorem dX9_seen_40 : decode cX9_seen 40 = .ok (.getfield 79, 3) := by decide +kernel
theorem dX9_seen_43 : decode cX9_seen 43 = .ok (.aload_n 0, 1) := by decide +kernel
theorem dX9_seen_44 : decode cX9_seen 44 = .ok (.getfield 339, 3) := by decide +kernel
theorem dX9_seen_47 : decode cX9_seen 47 = .ok (.iload_n 1, 1) := by decide +kernel
theorem dX9_seen_48 : decode cX9_seen 48 = .ok (.iastore, 1) := by decide +kernel
theorem dX9_seen_49 : decode cX9_seen 49 = .ok (.aload_n 0, 1) := by decide +kernel
theorem dX9_seen_50 : decode cX9_seen 50 = .ok (.getfield 82, 3) := by decide +kernel
theorem dX9_seen_53 : decode cX9_seen 53 = .ok (.aload_n 0, 1) := by decide +kernel
theorem dX9_seen_54 : decode cX9_seen 54 = .ok (.getfield 339, 3) := by decide +kernel
theorem dX9_seen_57 : decode cX9_seen 57 = .ok (.iload_n 2, 1) := by decide +kernel
theorem dX9_seen_58 : decode cX9_seen 58 = .ok (.iastore, 1) := by decide +kernel
theorem dX9_seen_59 : decode cX9_seen 59 = .ok (.aload_n 0, 1) := by decide +kernel
theorem dX9_seen_60 : decode cX9_seen 60 = .ok (.getfield 85, 3) := by decide +kernel
theorem dX9_seen_63 : decode cX9_seen 63 = .ok (.aload_n 0, 1) := by decide +kernel
theorem dX9_seen_64 : decode cX9_seen 64 = .ok (.getfield 339, 3) := by decide +kernel
theorem dX9_seen_67 : decode cX9_seen 67 = .ok (.iload_n 3, 1) := by decide +kernel
theorem dX9_seen_68 : decode cX9_seen 68 = .ok (.iastore, 1) := by decide +kernel
theorem dX9_seen_69 : decode cX9_seen 69 = .ok (.aload_n 0, 1) := by decide +kernel
theorem dX9_seen_70 : decode cX9_seen 70 = .ok (.dup, 1) := by decide +kernel
theorem dX9_seen_71 : decode cX9_seen 71 = .ok (.getfield 339, 3) := by decide +kernel
theorem dX9_seen_74 : decode cX9_seen 74 = .ok (.iconst 1, 1) := by decide +kernel
theorem dX9_seen_75 : decode cX9_seen 75 = .ok (.iadd, 1) := by decide +kernel
theorem dX9_seen_76 : decode cX9_seen 76 = .ok (.putfield 339, 3) := by decide +kernel
theorem dX9_seen_79 : decode cX9_seen 79 = .ok (.aload_n 0, 1) := by decide +kernel
theorem dX9_seen_80 : decode cX9_seen 80 = .ok (.getfield 339, 3) := by decide +kernel
theorem dX9_seen_83 : decode cX9_seen 83 = .ok (.ireturn, 1) := by decide +kernel
theorem dX9_forget_0 : decode cX9_forget 0 = .ok (.aload_n 0, 1) := by decide +kernel
theorem dX9_forget_1 : decode cX9_forget 1 = .ok (.getfield 339, 3) := by decide +kernel
theorem dX9_forget_4 : decode cX9_forget 4 = .ok (.istore_n 1, 1) := by decide +kernel
theorem dX9_forget_5 : decode cX9_forget 5 = .ok (.aload_n 0, 1) := by decide +kernel
theorem dX9_forget_6 : decode cX9_forget 6 = .ok (.iconst 0, 1) := by decide +kernel
theorem dX9_forget_7 : decode cX9_forget 7 = .ok (.putfield 339, 3) := by decide +kernel
theorem dX9_forget_10 : decode cX9_forget 10 = .ok (.iload_n 1, 1) := by decide +kernel
theorem dX9_forget_11 : decode cX9_forget 11 = .ok (.ireturn, 1) := by decide +kernel
theorem dX9_isSeen_0 : decode cX9_isSeen 0 = .ok (.aload_n 0, 1) := by decide +kernel
theorem dX9_isSeen_1 : decode cX9_isSeen 1 = .ok (.invokevirtual 264, 3) := by decide +kernel
theorem dX9_isSeen_4 : decode cX9_isSeen 4 = .ok (.iconst 1, 1) := by decide +kernel
theorem dX9_isSeen_5 : decode cX9_isSeen 5 = .ok (.istore_n 1, 1) := by decide +kernel
theorem dX9_isSeen_6 : decode cX9_isSeen 6 = .ok (.iconst 0, 1) := by decide +kernel
theorem dX9_isSeen_7 : decode cX9_isSeen 7 = .ok (.istore_n 2, 1) := by decide +kernel
theorem dX9_isSeen_8 : decode cX9_isSeen 8 = .ok (.iload_n 2, 1) := by decide +kernel
theorem dX9_isSeen_9 : decode cX9_isSeen 9 = .ok (.aload_n 0, 1) := by decide +kernel
theorem dX9_isSeen_10 : decode cX9_isSeen 10 = .ok (.getfield 339, 3) := by decide +kernel
theorem dX9_isSeen_13 : decode cX9_isSeen 13 = .ok (.if_icmp .ge 70, 3) := by decide +kernel
theorem dX9_isSeen_16 : decode cX9_isSeen 16 = .ok (.iload_n 1, 1) := by decide +kernel
theorem dX9_isSeen_17 : decode cX9_isSeen 17 = .ok (.ifCond .eq 66, 3) := by decide +kernel
theorem dX9_isSeen_20 : decode cX9_isSeen 20 = .ok (.aload_n 0, 1) := by decide +kernel
theorem dX9_isSeen_21 : decode cX9_isSeen 21 = .ok (.getfield 82, 3) := by decide +kernel
theorem dX9_isSeen_24 : decode cX9_isSeen 24 = .ok (.iload_n 2, 1) := by decide +kernel
theorem dX9_isSeen_25 : decode cX9_isSeen 25 = .ok (.iaload, 1) := by decide +kernel
theorem dX9_isSeen_26 : decode cX9_isSeen 26 = .ok (.aload_n 0, 1) := by decide +kernel
theorem dX9_isSeen_27 : decode cX9_isSeen 27 = .ok (.getfield 125, 3) := by decide +kernel
theorem dX9_isSeen_30 : decode cX9_isSeen 30 = .ok (.if_icmp .ge 45, 3) := by decide +kernel
theorem dX9_isSeen_33 : decode cX9_isSeen 33 = .ok (.aload_n 0, 1) := by decide +kernel
theorem dX9_isSeen_34 : decode cX9_isSeen 34 = .ok (.getfield 73, 3) := by decide +kernel
theorem dX9_isSeen_37 : decode cX9_isSeen 37 = .ok (.aload_n 0, 1) := by decide +kernel
theorem dX9_isSeen_38 : decode cX9_isSeen 38 = .ok (.getfield 79, 3) := by decide +kernel
theorem dX9_isSeen_41 : decode cX9_isSeen 41 = .ok (.iload_n 2, 1) := by decide +kernel
theorem dX9_isSeen_42 : decode cX9_isSeen 42 = .ok (.iaload, 1) := by decide +kernel
theorem dX9_isSeen_43 : decode cX9_isSeen 43 = .ok (.iaload, 1) := by decide +kernel
theorem dX9_isSeen_44 : decode cX9_isSeen 44 = .ok (.aload_n 0, 1) := by decide +kernel
theorem dX9_isSeen_45 : decode cX9_isSeen 45 = .ok (.getfield 82, 3) := by decide +kernel
theorem dX9_isSeen_48 : decode cX9_isSeen 48 = .ok (.iload_n 2, 1) := by decide +kernel
theorem dX9_isSeen_49 : decode cX9_isSeen 49 = .ok (.iaload, 1) := by decide +kernel
theorem dX9_isSeen_50 : decode cX9_isSeen 50 = .ok (.invokestatic 197, 3) := by decide +kernel
theorem dX9_isSeen_53 : decode cX9_isSeen 53 = .ok (.aload_n 0, 1) := by decide +kernel
theorem dX9_isSeen_54 : decode cX9_isSeen 54 = .ok (.getfield 85, 3) := by decide +kernel
theorem dX9_isSeen_57 : decode cX9_isSeen 57 = .ok (.iload_n 2, 1) := by decide +kernel
theorem dX9_isSeen_58 : decode cX9_isSeen 58 = .ok (.iaload, 1) := by decide +kernel
theorem dX9_isSeen_59 : decode cX9_isSeen 59 = .ok (.iconst 1, 1) := by decide +kernel
theorem dX9_isSeen_60 : decode cX9_isSeen 60 = .ok (.if_icmp .ne 7, 3) := by decide +kernel
theorem dX9_isSeen_63 : decode cX9_isSeen 63 = .ok (.iconst 1, 1) := by decide +kernel
theorem dX9_isSeen_64 : decode cX9_isSeen 64 = .ok (.goto 4, 3) := by decide +kernel
theorem dX9_isSeen_67 : decode cX9_isSeen 67 = .ok (.iconst 0, 1) := by decide +kernel
theorem dX9_isSeen_68 : decode cX9_isSeen 68 = .ok (.if_icmp .ne 7, 3) := by decide +kernel
theorem dX9_isSeen_71 : decode cX9_isSeen 71 = .ok (.iconst 1, 1) := by decide +kernel
theorem dX9_isSeen_72 : decode cX9_isSeen 72 = .ok (.goto 4, 3) := by decide +kernel
theorem dX9_isSeen_75 : decode cX9_isSeen 75 = .ok (.iconst 0, 1) := by decide +kernel
theorem dX9_isSeen_76 : decode cX9_isSeen 76 = .ok (.istore_n 1, 1) := by decide +kernel
theorem dX9_isSeen_77 : decode cX9_isSeen 77 = .ok (.iinc 2 1, 3) := by decide +kernel
theorem dX9_isSeen_80 : decode cX9_isSeen 80 = .ok (.goto (-72), 3) := by decide +kernel
theorem dX9_isSeen_83 : decode cX9_isSeen 83 = .ok (.iload_n 1, 1) := by decide +kernel
theorem dX9_isSeen_84 : decode cX9_isSeen 84 = .ok (.ireturn, 1) := by decide +kernel
theorem dX9_neverNow_0 : decode cX9_neverNow 0 = .ok (.aload_n 0, 1) := by decide +kernel
theorem dX9_neverNow_1 : decode cX9_neverNow 1 = .ok (.invokevirtual 261, 3) := by decide +kernel
theorem dX9_neverNow_4 : decode cX9_neverNow 4 = .ok (.iconst 0, 1) := by decide +kernel
theorem dX9_neverNow_5 : decode cX9_neverNow 5 = .ok (.istore_n 1, 1) := by decide +kernel
theorem dX9_neverNow_6 : decode cX9_neverNow 6 = .ok (.iconst 0, 1) := by decide +kernel
theorem dX9_neverNow_7 : decode cX9_neverNow 7 = .ok (.istore_n 2, 1) := by decide +kernel
theorem dX9_neverNow_8 : decode cX9_neverNow 8 = .ok (.iload_n 2, 1) := by decide +kernel
theorem dX9_neverNow_9 : decode cX9_neverNow 9 = .ok (.aload_n 0, 1) := by decide +kernel
theorem dX9_neverNow_10 : decode cX9_neverNow 10 = .ok (.getfield 160, 3) := by decide +kernel
theorem dX9_neverNow_13 : decode cX9_neverNow 13 = .ok (.if_icmp .ge 33, 3) := by decide +kernel
theorem dX9_neverNow_16 : decode cX9_neverNow 16 = .ok (.aload_n 0, 1) := by decide +kernel
theorem dX9_neverNow_17 : decode cX9_neverNow 17 = .ok (.iconst 1, 1) := by decide +kernel
theorem dX9_neverNow_18 : decode cX9_neverNow 18 = .ok (.iload_n 2, 1) := by decide +kernel
theorem dX9_neverNow_19 : decode cX9_neverNow 19 = .ok (.ishl, 1) := by decide +kernel
theorem dX9_neverNow_20 : decode cX9_neverNow 20 = .ok (.putfield 185, 3) := by decide +kernel
theorem dX9_neverNow_23 : decode cX9_neverNow 23 = .ok (.iload_n 1, 1) := by decide +kernel
theorem dX9_neverNow_24 : decode cX9_neverNow 24 = .ok (.aload_n 0, 1) := by decide +kernel
theorem dX9_neverNow_25 : decode cX9_neverNow 25 = .ok (.invokevirtual 342, 3) := by decide +kernel
theorem dX9_neverNow_28 : decode cX9_neverNow 28 = .ok (.ifCond .eq 9, 3) := by decide +kernel
theorem dX9_neverNow_31 : decode cX9_neverNow 31 = .ok (.iconst 1, 1) := by decide +kernel
theorem dX9_neverNow_32 : decode cX9_neverNow 32 = .ok (.iload_n 2, 1) := by decide +kernel
theorem dX9_neverNow_33 : decode cX9_neverNow 33 = .ok (.ishl, 1) := by decide +kernel
theorem dX9_neverNow_34 : decode cX9_neverNow 34 = .ok (.goto 4, 3) := by decide +kernel
theorem dX9_neverNow_37 : decode cX9_neverNow 37 = .ok (.iconst 0, 1) := by decide +kernel
theorem dX9_neverNow_38 : decode cX9_neverNow 38 = .ok (.ior, 1) := by decide +kernel
theorem dX9_neverNow_39 : decode cX9_neverNow 39 = .ok (.istore_n 1, 1) := by decide +kernel
theorem dX9_neverNow_40 : decode cX9_neverNow 40 = .ok (.iinc 2 1, 3) := by decide +kernel
theorem dX9_neverNow_43 : decode cX9_neverNow 43 = .ok (.goto (-35), 3) := by decide +kernel
theorem dX9_neverNow_46 : decode cX9_neverNow 46 = .ok (.iload_n 1, 1) := by decide +kernel
theorem dX9_neverNow_47 : decode cX9_neverNow 47 = .ok (.ireturn, 1) := by decide +kernel
theorem dX9_never_0 : decode cX9_never 0 = .ok (.aload_n 0, 1) := by decide +kernel
theorem dX9_never_1 : decode cX9_never 1 = .ok (.invokevirtual 346, 3) := by decide +kernel
theorem dX9_never_4 : decode cX9_never 4 = .ok (.ireturn, 1) := by decide +kernel
theorem dX9_heatsBy_0 : decode cX9_heatsBy 0 = .ok (.aload_n 0, 1) := by decide +kernel
theorem dX9_heatsBy_1 : decode cX9_heatsBy 1 = .ok (.invokevirtual 261, 3) := by decide +kernel
theorem dX9_heatsBy_4 : decode cX9_heatsBy 4 = .ok (.iconst 0, 1) := by decide +kernel
theorem dX9_heatsBy_5 : decode cX9_heatsBy 5 = .ok (.istore_n 2, 1) := by decide +kernel
theorem dX9_heatsBy_6 : decode cX9_heatsBy 6 = .ok (.iconst 1, 1) := by decide +kernel
theorem dX9_heatsBy_7 : decode cX9_heatsBy 7 = .ok (.istore_n 3, 1) := by decide +kernel
theorem dX9_heatsBy_8 : decode cX9_heatsBy 8 = .ok (.iload_n 3, 1) := by decide +kernel
theorem dX9_heatsBy_9 : decode cX9_heatsBy 9 = .ok (.bipush 10, 2) := by decide +kernel
theorem dX9_heatsBy_11 : decode cX9_heatsBy 11 = .ok (.if_icmp .ge 68, 3) := by decide +kernel
theorem dX9_heatsBy_14 : decode cX9_heatsBy 14 = .ok (.aload_n 0, 1) := by decide +kernel
theorem dX9_heatsBy_15 : decode cX9_heatsBy 15 = .ok (.getfield 40, 3) := by decide +kernel
theorem dX9_heatsBy_18 : decode cX9_heatsBy 18 = .ok (.iload_n 1, 1) := by decide +kernel
theorem dX9_heatsBy_19 : decode cX9_heatsBy 19 = .ok (.iload_n 3, 1) := by decide +kernel
theorem dX9_heatsBy_20 : decode cX9_heatsBy 20 = .ok (.iastore, 1) := by decide +kernel
theorem dX9_heatsBy_21 : decode cX9_heatsBy 21 = .ok (.iload_n 2, 1) := by decide +kernel
theorem dX9_heatsBy_22 : decode cX9_heatsBy 22 = .ok (.aload_n 0, 1) := by decide +kernel
theorem dX9_heatsBy_23 : decode cX9_heatsBy 23 = .ok (.invokevirtual 342, 3) := by decide +kernel
theorem dX9_heatsBy_26 : decode cX9_heatsBy 26 = .ok (.ifCond .eq 9, 3) := by decide +kernel
theorem dX9_heatsBy_29 : decode cX9_heatsBy 29 = .ok (.iconst 1, 1) := by decide +kernel
theorem dX9_heatsBy_30 : decode cX9_heatsBy 30 = .ok (.iload_n 3, 1) := by decide +kernel
theorem dX9_heatsBy_31 : decode cX9_heatsBy 31 = .ok (.ishl, 1) := by decide +kernel
theorem dX9_heatsBy_32 : decode cX9_heatsBy 32 = .ok (.goto 4, 3) := by decide +kernel
theorem dX9_heatsBy_35 : decode cX9_heatsBy 35 = .ok (.iconst 0, 1) := by decide +kernel
theorem dX9_heatsBy_36 : decode cX9_heatsBy 36 = .ok (.ior, 1) := by decide +kernel
theorem dX9_heatsBy_37 : decode cX9_heatsBy 37 = .ok (.istore_n 2, 1) := by decide +kernel
theorem dX9_heatsBy_38 : decode cX9_heatsBy 38 = .ok (.iconst 0, 1) := by decide +kernel
theorem dX9_heatsBy_39 : decode cX9_heatsBy 39 = .ok (.istore 4, 2) := by decide +kernel
theorem dX9_heatsBy_41 : decode cX9_heatsBy 41 = .ok (.iload 4, 2) := by decide +kernel
theorem dX9_heatsBy_43 : decode cX9_heatsBy 43 = .ok (.bipush 12, 2) := by decide +kernel
theorem dX9_heatsBy_45 : decode cX9_heatsBy 45 = .ok (.if_icmp .ge 28, 3) := by decide +kernel
theorem dX9_heatsBy_48 : decode cX9_heatsBy 48 = .ok (.aload_n 0, 1) := by decide +kernel
theorem dX9_heatsBy_49 : decode cX9_heatsBy 49 = .ok (.getfield 88, 3) := by decide +kernel
theorem dX9_heatsBy_52 : decode cX9_heatsBy 52 = .ok (.bipush 12, 2) := by decide +kernel
theorem dX9_heatsBy_54 : decode cX9_heatsBy 54 = .ok (.iload_n 3, 1) := by decide +kernel
theorem dX9_heatsBy_55 : decode cX9_heatsBy 55 = .ok (.imul, 1) := by decide +kernel
theorem dX9_heatsBy_56 : decode cX9_heatsBy 56 = .ok (.iload 4, 2) := by decide +kernel
theorem dX9_heatsBy_58 : decode cX9_heatsBy 58 = .ok (.iadd, 1) := by decide +kernel
theorem dX9_heatsBy_59 : decode cX9_heatsBy 59 = .ok (.aload_n 0, 1) := by decide +kernel
theorem dX9_heatsBy_60 : decode cX9_heatsBy 60 = .ok (.getfield 73, 3) := by decide +kernel
theorem dX9_heatsBy_63 : decode cX9_heatsBy 63 = .ok (.iload 4, 2) := by decide +kernel
theorem dX9_heatsBy_65 : decode cX9_heatsBy 65 = .ok (.iaload, 1) := by decide +kernel
theorem dX9_heatsBy_66 : decode cX9_heatsBy 66 = .ok (.iastore, 1) := by decide +kernel
theorem dX9_heatsBy_67 : decode cX9_heatsBy 67 = .ok (.iinc 4 1, 3) := by decide +kernel
theorem dX9_heatsBy_70 : decode cX9_heatsBy 70 = .ok (.goto (-29), 3) := by decide +kernel
theorem dX9_heatsBy_73 : decode cX9_heatsBy 73 = .ok (.iinc 3 1, 3) := by decide +kernel
theorem dX9_heatsBy_76 : decode cX9_heatsBy 76 = .ok (.goto (-68), 3) := by decide +kernel
theorem dX9_heatsBy_79 : decode cX9_heatsBy 79 = .ok (.iload_n 2, 1) := by decide +kernel
theorem dX9_heatsBy_80 : decode cX9_heatsBy 80 = .ok (.ireturn, 1) := by decide +kernel
theorem dX9_sortsBy_0 : decode cX9_sortsBy 0 = .ok (.aload_n 0, 1) := by decide +kernel
theorem dX9_sortsBy_1 : decode cX9_sortsBy 1 = .ok (.invokevirtual 261, 3) := by decide +kernel
theorem dX9_sortsBy_4 : decode cX9_sortsBy 4 = .ok (.iconst 0, 1) := by decide +kernel
theorem dX9_sortsBy_5 : decode cX9_sortsBy 5 = .ok (.istore_n 2, 1) := by decide +kernel
theorem dX9_sortsBy_6 : decode cX9_sortsBy 6 = .ok (.iconst 0, 1) := by decide +kernel
theorem dX9_sortsBy_7 : decode cX9_sortsBy 7 = .ok (.istore_n 3, 1) := by decide +kernel
theorem dX9_sortsBy_8 : decode cX9_sortsBy 8 = .ok (.iload_n 3, 1) := by decide +kernel
theorem dX9_sortsBy_9 : decode cX9_sortsBy 9 = .ok (.iconst 3, 1) := by decide +kernel
theorem dX9_sortsBy_10 : decode cX9_sortsBy 10 = .ok (.if_icmp .ge 33, 3) := by decide +kernel
theorem dX9_sortsBy_13 : decode cX9_sortsBy 13 = .ok (.aload_n 0, 1) := by decide +kernel
theorem dX9_sortsBy_14 : decode cX9_sortsBy 14 = .ok (.getfield 37, 3) := by decide +kernel
theorem dX9_sortsBy_17 : decode cX9_sortsBy 17 = .ok (.iload_n 1, 1) := by decide +kernel
theorem dX9_sortsBy_18 : decode cX9_sortsBy 18 = .ok (.iload_n 3, 1) := by decide +kernel
theorem dX9_sortsBy_19 : decode cX9_sortsBy 19 = .ok (.iastore, 1) := by decide +kernel
theorem dX9_sortsBy_20 : decode cX9_sortsBy 20 = .ok (.iload_n 2, 1) := by decide +kernel
theorem dX9_sortsBy_21 : decode cX9_sortsBy 21 = .ok (.aload_n 0, 1) := by decide +kernel
theorem dX9_sortsBy_22 : decode cX9_sortsBy 22 = .ok (.invokevirtual 342, 3) := by decide +kernel
theorem dX9_sortsBy_25 : decode cX9_sortsBy 25 = .ok (.ifCond .eq 9, 3) := by decide +kernel
theorem dX9_sortsBy_28 : decode cX9_sortsBy 28 = .ok (.iconst 1, 1) := by decide +kernel
theorem dX9_sortsBy_29 : decode cX9_sortsBy 29 = .ok (.iload_n 3, 1) := by decide +kernel
theorem dX9_sortsBy_30 : decode cX9_sortsBy 30 = .ok (.ishl, 1) := by decide +kernel
theorem dX9_sortsBy_31 : decode cX9_sortsBy 31 = .ok (.goto 4, 3) := by decide +kernel
theorem dX9_sortsBy_34 : decode cX9_sortsBy 34 = .ok (.iconst 0, 1) := by decide +kernel
theorem dX9_sortsBy_35 : decode cX9_sortsBy 35 = .ok (.ior, 1) := by decide +kernel
theorem dX9_sortsBy_36 : decode cX9_sortsBy 36 = .ok (.istore_n 2, 1) := by decide +kernel
theorem dX9_sortsBy_37 : decode cX9_sortsBy 37 = .ok (.iinc 3 1, 3) := by decide +kernel
theorem dX9_sortsBy_40 : decode cX9_sortsBy 40 = .ok (.goto (-32), 3) := by decide +kernel
theorem dX9_sortsBy_43 : decode cX9_sortsBy 43 = .ok (.iload_n 2, 1) := by decide +kernel
theorem dX9_sortsBy_44 : decode cX9_sortsBy 44 = .ok (.ireturn, 1) := by decide +kernel
theorem dX9_was_0 : decode cX9_was 0 = .ok (.aload_n 0, 1) := by decide +kernel
theorem dX9_was_1 : decode cX9_was 1 = .ok (.iload_n 1, 1) := by decide +kernel
theorem dX9_was_2 : decode cX9_was 2 = .ok (.invokevirtual 148, 3) := by decide +kernel
theorem dX9_was_5 : decode cX9_was 5 = .ok (.ifCond .eq 30, 3) := by decide +kernel
theorem dX9_was_8 : decode cX9_was 8 = .ok (.iload_n 2, 1) := by decide +kernel
theorem dX9_was_9 : decode cX9_was 9 = .ok (.invokestatic 113, 3) := by decide +kernel
theorem dX9_was_12 : decode cX9_was 12 = .ok (.ifCond .eq 23, 3) := by decide +kernel
theorem dX9_was_15 : decode cX9_was 15 = .ok (.iload_n 2, 1) := by decide +kernel
theorem dX9_was_16 : decode cX9_was 16 = .ok (.ifCond .ne 11, 3) := by decide +kernel
theorem dX9_was_19 : decode cX9_was 19 = .ok (.aload_n 0, 1) := by decide +kernel
theorem dX9_was_20 : decode cX9_was 20 = .ok (.iload_n 1, 1) := by decide +kernel
theorem dX9_was_21 : decode cX9_was 21 = .ok (.invokevirtual 349, 3) := by decide +kernel
theorem dX9_was_24 : decode cX9_was 24 = .ok (.goto 13, 3) := by decide +kernel
theorem dX9_was_27 : decode cX9_was 27 = .ok (.aload_n 0, 1) := by decide +kernel
theorem dX9_was_28 : decode cX9_was 28 = .ok (.iload_n 1, 1) := by decide +kernel
theorem dX9_was_29 : decode cX9_was 29 = .ok (.invokevirtual 352, 3) := by decide +kernel
theorem dX9_was_32 : decode cX9_was 32 = .ok (.goto 5, 3) := by decide +kernel
theorem dX9_was_35 : decode cX9_was 35 = .ok (.bipush (-2), 2) := by decide +kernel
theorem dX9_was_37 : decode cX9_was 37 = .ok (.ireturn, 1) := by decide +kernel
theorem dX9_askOf_0 : decode cX9_askOf 0 = .ok (.aload_n 0, 1) := by decide +kernel
theorem dX9_askOf_1 : decode cX9_askOf 1 = .ok (.iload_n 1, 1) := by decide +kernel
theorem dX9_askOf_2 : decode cX9_askOf 2 = .ok (.invokevirtual 349, 3) := by decide +kernel
theorem dX9_askOf_5 : decode cX9_askOf 5 = .ok (.istore_n 2, 1) := by decide +kernel
theorem dX9_askOf_6 : decode cX9_askOf 6 = .ok (.iconst (-1), 1) := by decide +kernel
theorem dX9_askOf_7 : decode cX9_askOf 7 = .ok (.istore_n 3, 1) := by decide +kernel
theorem dX9_askOf_8 : decode cX9_askOf 8 = .ok (.iconst 0, 1) := by decide +kernel
theorem dX9_askOf_9 : decode cX9_askOf 9 = .ok (.istore 4, 2) := by decide +kernel
theorem dX9_askOf_11 : decode cX9_askOf 11 = .ok (.iconst 0, 1) := by decide +kernel
theorem dX9_askOf_12 : decode cX9_askOf 12 = .ok (.istore 5, 2) := by decide +kernel
theorem dX9_askOf_14 : decode cX9_askOf 14 = .ok (.iload 5, 2) := by decide +kernel
theorem dX9_askOf_16 : decode cX9_askOf 16 = .ok (.bipush 12, 2) := by decide +kernel
theorem dX9_askOf_18 : decode cX9_askOf 18 = .ok (.if_icmp .ge 165, 3) := by decide +kernel
theorem dX9_askOf_21 : decode cX9_askOf 21 = .ok (.iconst 0, 1) := by decide +kernel
theorem dX9_askOf_22 : decode cX9_askOf 22 = .ok (.istore 6, 2) := by decide +kernel
theorem dX9_askOf_24 : decode cX9_askOf 24 = .ok (.iconst 1, 1) := by decide +kernel
theorem dX9_askOf_25 : decode cX9_askOf 25 = .ok (.istore 7, 2) := by decide +kernel
theorem dX9_askOf_27 : decode cX9_askOf 27 = .ok (.iload 7, 2) := by decide +kernel
theorem dX9_askOf_29 : decode cX9_askOf 29 = .ok (.bipush 10, 2) := by decide +kernel
theorem dX9_askOf_31 : decode cX9_askOf 31 = .ok (.if_icmp .ge 101, 3) := by decide +kernel
theorem dX9_askOf_34 : decode cX9_askOf 34 = .ok (.iconst 0, 1) := by decide +kernel
theorem dX9_askOf_35 : decode cX9_askOf 35 = .ok (.istore 8, 2) := by decide +kernel
theorem dX9_askOf_37 : decode cX9_askOf 37 = .ok (.iconst 1, 1) := by decide +kernel
theorem dX9_askOf_38 : decode cX9_askOf 38 = .ok (.istore 9, 2) := by decide +kernel
theorem dX9_askOf_40 : decode cX9_askOf 40 = .ok (.iload 9, 2) := by decide +kernel
theorem dX9_askOf_42 : decode cX9_askOf 42 = .ok (.bipush 10, 2) := by decide +kernel
theorem dX9_askOf_44 : decode cX9_askOf 44 = .ok (.if_icmp .ge 66, 3) := by decide +kernel
theorem dX9_askOf_47 : decode cX9_askOf 47 = .ok (.iload 8, 2) := by decide +kernel
theorem dX9_askOf_49 : decode cX9_askOf 49 = .ok (.iload_n 2, 1) := by decide +kernel
theorem dX9_askOf_50 : decode cX9_askOf 50 = .ok (.iload 7, 2) := by decide +kernel
theorem dX9_askOf_52 : decode cX9_askOf 52 = .ok (.invokestatic 197, 3) := by decide +kernel
theorem dX9_askOf_55 : decode cX9_askOf 55 = .ok (.ifCond .eq 45, 3) := by decide +kernel
theorem dX9_askOf_58 : decode cX9_askOf 58 = .ok (.iload_n 2, 1) := by decide +kernel
theorem dX9_askOf_59 : decode cX9_askOf 59 = .ok (.iload 9, 2) := by decide +kernel
theorem dX9_askOf_61 : decode cX9_askOf 61 = .ok (.invokestatic 197, 3) := by decide +kernel
theorem dX9_askOf_64 : decode cX9_askOf 64 = .ok (.ifCond .eq 36, 3) := by decide +kernel
theorem dX9_askOf_67 : decode cX9_askOf 67 = .ok (.aload_n 0, 1) := by decide +kernel
theorem dX9_askOf_68 : decode cX9_askOf 68 = .ok (.getfield 88, 3) := by decide +kernel
theorem dX9_askOf_71 : decode cX9_askOf 71 = .ok (.bipush 12, 2) := by decide +kernel
theorem dX9_askOf_73 : decode cX9_askOf 73 = .ok (.iload 7, 2) := by decide +kernel
theorem dX9_askOf_75 : decode cX9_askOf 75 = .ok (.imul, 1) := by decide +kernel
theorem dX9_askOf_76 : decode cX9_askOf 76 = .ok (.iload 5, 2) := by decide +kernel
theorem dX9_askOf_78 : decode cX9_askOf 78 = .ok (.iadd, 1) := by decide +kernel
theorem dX9_askOf_79 : decode cX9_askOf 79 = .ok (.iaload, 1) := by decide +kernel
theorem dX9_askOf_80 : decode cX9_askOf 80 = .ok (.aload_n 0, 1) := by decide +kernel
theorem dX9_askOf_81 : decode cX9_askOf 81 = .ok (.getfield 88, 3) := by decide +kernel
theorem dX9_askOf_84 : decode cX9_askOf 84 = .ok (.bipush 12, 2) := by decide +kernel
theorem dX9_askOf_86 : decode cX9_askOf 86 = .ok (.iload 9, 2) := by decide +kernel
theorem dX9_askOf_88 : decode cX9_askOf 88 = .ok (.imul, 1) := by decide +kernel
theorem dX9_askOf_89 : decode cX9_askOf 89 = .ok (.iload 5, 2) := by decide +kernel
theorem dX9_askOf_91 : decode cX9_askOf 91 = .ok (.iadd, 1) := by decide +kernel
theorem dX9_askOf_92 : decode cX9_askOf 92 = .ok (.iaload, 1) := by decide +kernel
theorem dX9_askOf_93 : decode cX9_askOf 93 = .ok (.if_icmp .ne 7, 3) := by decide +kernel
theorem dX9_askOf_96 : decode cX9_askOf 96 = .ok (.iconst 1, 1) := by decide +kernel
theorem dX9_askOf_97 : decode cX9_askOf 97 = .ok (.goto 4, 3) := by decide +kernel
theorem dX9_askOf_100 : decode cX9_askOf 100 = .ok (.iconst 0, 1) := by decide +kernel
theorem dX9_askOf_101 : decode cX9_askOf 101 = .ok (.iadd, 1) := by decide +kernel
theorem dX9_askOf_102 : decode cX9_askOf 102 = .ok (.istore 8, 2) := by decide +kernel
theorem dX9_askOf_104 : decode cX9_askOf 104 = .ok (.iinc 9 1, 3) := by decide +kernel
theorem dX9_askOf_107 : decode cX9_askOf 107 = .ok (.goto (-67), 3) := by decide +kernel
theorem dX9_askOf_110 : decode cX9_askOf 110 = .ok (.iload 8, 2) := by decide +kernel
theorem dX9_askOf_112 : decode cX9_askOf 112 = .ok (.iload 6, 2) := by decide +kernel
theorem dX9_askOf_114 : decode cX9_askOf 114 = .ok (.if_icmp .le 8, 3) := by decide +kernel
theorem dX9_askOf_117 : decode cX9_askOf 117 = .ok (.iload 8, 2) := by decide +kernel
theorem dX9_askOf_119 : decode cX9_askOf 119 = .ok (.goto 5, 3) := by decide +kernel
theorem dX9_askOf_122 : decode cX9_askOf 122 = .ok (.iload 6, 2) := by decide +kernel
theorem dX9_askOf_124 : decode cX9_askOf 124 = .ok (.istore 6, 2) := by decide +kernel
theorem dX9_askOf_126 : decode cX9_askOf 126 = .ok (.iinc 7 1, 3) := by decide +kernel
theorem dX9_askOf_129 : decode cX9_askOf 129 = .ok (.goto (-102), 3) := by decide +kernel
theorem dX9_askOf_132 : decode cX9_askOf 132 = .ok (.iload_n 3, 1) := by decide +kernel
theorem dX9_askOf_133 : decode cX9_askOf 133 = .ok (.iconst (-1), 1) := by decide +kernel
theorem dX9_askOf_134 : decode cX9_askOf 134 = .ok (.if_icmp .eq 10, 3) := by decide +kernel
theorem dX9_askOf_137 : decode cX9_askOf 137 = .ok (.iload 6, 2) := by decide +kernel
theorem dX9_askOf_139 : decode cX9_askOf 139 = .ok (.iload 4, 2) := by decide +kernel
theorem dX9_askOf_141 : decode cX9_askOf 141 = .ok (.if_icmp .ge 7, 3) := by decide +kernel
theorem dX9_askOf_144 : decode cX9_askOf 144 = .ok (.iconst 1, 1) := by decide +kernel
theorem dX9_askOf_145 : decode cX9_askOf 145 = .ok (.goto 4, 3) := by decide +kernel
theorem dX9_askOf_148 : decode cX9_askOf 148 = .ok (.iconst 0, 1) := by decide +kernel
theorem dX9_askOf_149 : decode cX9_askOf 149 = .ok (.istore 7, 2) := by decide +kernel
theorem dX9_askOf_151 : decode cX9_askOf 151 = .ok (.iload 7, 2) := by decide +kernel
theorem dX9_askOf_153 : decode cX9_askOf 153 = .ok (.ifCond .eq 8, 3) := by decide +kernel
theorem dX9_askOf_156 : decode cX9_askOf 156 = .ok (.iload 5, 2) := by decide +kernel
theorem dX9_askOf_158 : decode cX9_askOf 158 = .ok (.goto 4, 3) := by decide +kernel
theorem dX9_askOf_161 : decode cX9_askOf 161 = .ok (.iload_n 3, 1) := by decide +kernel
theorem dX9_askOf_162 : decode cX9_askOf 162 = .ok (.istore_n 3, 1) := by decide +kernel
theorem dX9_askOf_163 : decode cX9_askOf 163 = .ok (.iload 7, 2) := by decide +kernel
theorem dX9_askOf_165 : decode cX9_askOf 165 = .ok (.ifCond .eq 8, 3) := by decide +kernel
theorem dX9_askOf_168 : decode cX9_askOf 168 = .ok (.iload 6, 2) := by decide +kernel
theorem dX9_askOf_170 : decode cX9_askOf 170 = .ok (.goto 5, 3) := by decide +kernel
theorem dX9_askOf_173 : decode cX9_askOf 173 = .ok (.iload 4, 2) := by decide +kernel
theorem dX9_askOf_175 : decode cX9_askOf 175 = .ok (.istore 4, 2) := by decide +kernel
theorem dX9_askOf_177 : decode cX9_askOf 177 = .ok (.iinc 5 1, 3) := by decide +kernel
theorem dX9_askOf_180 : decode cX9_askOf 180 = .ok (.goto (-166), 3) := by decide +kernel
theorem dX9_askOf_183 : decode cX9_askOf 183 = .ok (.iload_n 3, 1) := by decide +kernel
theorem dX9_askOf_184 : decode cX9_askOf 184 = .ok (.ireturn, 1) := by decide +kernel
theorem dX9_ask_0 : decode cX9_ask 0 = .ok (.aload_n 0, 1) := by decide +kernel
theorem dX9_ask_1 : decode cX9_ask 1 = .ok (.iload_n 1, 1) := by decide +kernel
theorem dX9_ask_2 : decode cX9_ask 2 = .ok (.invokevirtual 148, 3) := by decide +kernel
theorem dX9_ask_5 : decode cX9_ask 5 = .ok (.ifCond .eq 11, 3) := by decide +kernel
theorem dX9_ask_8 : decode cX9_ask 8 = .ok (.aload_n 0, 1) := by decide +kernel
theorem dX9_ask_9 : decode cX9_ask 9 = .ok (.iload_n 1, 1) := by decide +kernel
theorem dX9_ask_10 : decode cX9_ask 10 = .ok (.invokevirtual 355, 3) := by decide +kernel
theorem dX9_ask_13 : decode cX9_ask 13 = .ok (.goto 5, 3) := by decide +kernel
theorem dX9_ask_16 : decode cX9_ask 16 = .ok (.bipush (-2), 2) := by decide +kernel
theorem dX9_ask_18 : decode cX9_ask 18 = .ok (.ireturn, 1) := by decide +kernel
theorem dX9_chanceOf_0 : decode cX9_chanceOf 0 = .ok (.aload_n 0, 1) := by decide +kernel
theorem dX9_chanceOf_1 : decode cX9_chanceOf 1 = .ok (.invokevirtual 261, 3) := by decide +kernel
theorem dX9_chanceOf_4 : decode cX9_chanceOf 4 = .ok (.lconst 0, 1) := by decide +kernel
theorem dX9_chanceOf_5 : decode cX9_chanceOf 5 = .ok (.lstore 4, 2) := by decide +kernel
theorem dX9_chanceOf_7 : decode cX9_chanceOf 7 = .ok (.iconst 0, 1) := by decide +kernel
theorem dX9_chanceOf_8 : decode cX9_chanceOf 8 = .ok (.istore 6, 2) := by decide +kernel
theorem dX9_chanceOf_10 : decode cX9_chanceOf 10 = .ok (.iload 6, 2) := by decide +kernel
theorem dX9_chanceOf_12 : decode cX9_chanceOf 12 = .ok (.iconst 1, 1) := by decide +kernel
theorem dX9_chanceOf_13 : decode cX9_chanceOf 13 = .ok (.aload_n 0, 1) := by decide +kernel
theorem dX9_chanceOf_14 : decode cX9_chanceOf 14 = .ok (.getfield 160, 3) := by decide +kernel
theorem dX9_chanceOf_17 : decode cX9_chanceOf 17 = .ok (.ishl, 1) := by decide +kernel
theorem dX9_chanceOf_18 : decode cX9_chanceOf 18 = .ok (.if_icmp .ge 91, 3) := by decide +kernel
theorem dX9_chanceOf_21 : decode cX9_chanceOf 21 = .ok (.lconst 1, 1) := by decide +kernel
theorem dX9_chanceOf_22 : decode cX9_chanceOf 22 = .ok (.lstore 7, 2) := by decide +kernel
theorem dX9_chanceOf_24 : decode cX9_chanceOf 24 = .ok (.iconst 0, 1) := by decide +kernel
theorem dX9_chanceOf_25 : decode cX9_chanceOf 25 = .ok (.istore 9, 2) := by decide +kernel
theorem dX9_chanceOf_27 : decode cX9_chanceOf 27 = .ok (.iload 9, 2) := by decide +kernel
theorem dX9_chanceOf_29 : decode cX9_chanceOf 29 = .ok (.aload_n 0, 1) := by decide +kernel
theorem dX9_chanceOf_30 : decode cX9_chanceOf 30 = .ok (.getfield 160, 3) := by decide +kernel
theorem dX9_chanceOf_33 : decode cX9_chanceOf 33 = .ok (.if_icmp .ge 34, 3) := by decide +kernel
theorem dX9_chanceOf_36 : decode cX9_chanceOf 36 = .ok (.lload 7, 2) := by decide +kernel
theorem dX9_chanceOf_38 : decode cX9_chanceOf 38 = .ok (.iload 6, 2) := by decide +kernel
theorem dX9_chanceOf_40 : decode cX9_chanceOf 40 = .ok (.iload 9, 2) := by decide +kernel
theorem dX9_chanceOf_42 : decode cX9_chanceOf 42 = .ok (.invokestatic 197, 3) := by decide +kernel
theorem dX9_chanceOf_45 : decode cX9_chanceOf 45 = .ok (.ifCond .eq 11, 3) := by decide +kernel
theorem dX9_chanceOf_48 : decode cX9_chanceOf 48 = .ok (.bipush 16, 2) := by decide +kernel
theorem dX9_chanceOf_50 : decode cX9_chanceOf 50 = .ok (.iload_n 1, 1) := by decide +kernel
theorem dX9_chanceOf_51 : decode cX9_chanceOf 51 = .ok (.isub, 1) := by decide +kernel
theorem dX9_chanceOf_52 : decode cX9_chanceOf 52 = .ok (.i2l, 1) := by decide +kernel
theorem dX9_chanceOf_53 : decode cX9_chanceOf 53 = .ok (.goto 5, 3) := by decide +kernel
theorem dX9_chanceOf_56 : decode cX9_chanceOf 56 = .ok (.iload_n 1, 1) := by decide +kernel
theorem dX9_chanceOf_57 : decode cX9_chanceOf 57 = .ok (.i2l, 1) := by decide +kernel
theorem dX9_chanceOf_58 : decode cX9_chanceOf 58 = .ok (.lmul, 1) := by decide +kernel
theorem dX9_chanceOf_59 : decode cX9_chanceOf 59 = .ok (.lstore 7, 2) := by decide +kernel
theorem dX9_chanceOf_61 : decode cX9_chanceOf 61 = .ok (.iinc 9 1, 3) := by decide +kernel
theorem dX9_chanceOf_64 : decode cX9_chanceOf 64 = .ok (.goto (-37), 3) := by decide +kernel
theorem dX9_chanceOf_67 : decode cX9_chanceOf 67 = .ok (.lload 7, 2) := by decide +kernel
theorem dX9_chanceOf_69 : decode cX9_chanceOf 69 = .ok (.lconst 0, 1) := by decide +kernel
theorem dX9_chanceOf_70 : decode cX9_chanceOf 70 = .ok (.lcmp, 1) := by decide +kernel
theorem dX9_chanceOf_71 : decode cX9_chanceOf 71 = .ok (.ifCond .le 32, 3) := by decide +kernel
theorem dX9_chanceOf_74 : decode cX9_chanceOf 74 = .ok (.aload_n 0, 1) := by decide +kernel
theorem dX9_chanceOf_75 : decode cX9_chanceOf 75 = .ok (.iload 6, 2) := by decide +kernel
theorem dX9_chanceOf_77 : decode cX9_chanceOf 77 = .ok (.putfield 185, 3) := by decide +kernel
theorem dX9_chanceOf_80 : decode cX9_chanceOf 80 = .ok (.aload_n 0, 1) := by decide +kernel
theorem dX9_chanceOf_81 : decode cX9_chanceOf 81 = .ok (.invokevirtual 264, 3) := by decide +kernel
theorem dX9_chanceOf_84 : decode cX9_chanceOf 84 = .ok (.lload 4, 2) := by decide +kernel
theorem dX9_chanceOf_86 : decode cX9_chanceOf 86 = .ok (.aload_n 0, 1) := by decide +kernel
theorem dX9_chanceOf_87 : decode cX9_chanceOf 87 = .ok (.iload_n 2, 1) := by decide +kernel
theorem dX9_chanceOf_88 : decode cX9_chanceOf 88 = .ok (.invokevirtual 201, 3) := by decide +kernel
theorem dX9_chanceOf_91 : decode cX9_chanceOf 91 = .ok (.ifCond .eq 7, 3) := by decide +kernel
theorem dX9_chanceOf_94 : decode cX9_chanceOf 94 = .ok (.lconst 0, 1) := by decide +kernel
theorem dX9_chanceOf_95 : decode cX9_chanceOf 95 = .ok (.goto 5, 3) := by decide +kernel
theorem dX9_chanceOf_98 : decode cX9_chanceOf 98 = .ok (.lload 7, 2) := by decide +kernel
theorem dX9_chanceOf_100 : decode cX9_chanceOf 100 = .ok (.ladd, 1) := by decide +kernel
theorem dX9_chanceOf_101 : decode cX9_chanceOf 101 = .ok (.lstore 4, 2) := by decide +kernel
theorem dX9_chanceOf_103 : decode cX9_chanceOf 103 = .ok (.iinc 6 1, 3) := by decide +kernel
theorem dX9_chanceOf_106 : decode cX9_chanceOf 106 = .ok (.goto (-96), 3) := by decide +kernel
theorem dX9_chanceOf_109 : decode cX9_chanceOf 109 = .ok (.lload 4, 2) := by decide +kernel
theorem dX9_chanceOf_111 : decode cX9_chanceOf 111 = .ok (.lconst 1, 1) := by decide +kernel
theorem dX9_chanceOf_112 : decode cX9_chanceOf 112 = .ok (.iconst 4, 1) := by decide +kernel
theorem dX9_chanceOf_113 : decode cX9_chanceOf 113 = .ok (.aload_n 0, 1) := by decide +kernel
theorem dX9_chanceOf_114 : decode cX9_chanceOf 114 = .ok (.getfield 160, 3) := by decide +kernel
theorem dX9_chanceOf_117 : decode cX9_chanceOf 117 = .ok (.imul, 1) := by decide +kernel
theorem dX9_chanceOf_118 : decode cX9_chanceOf 118 = .ok (.lshl, 1) := by decide +kernel
theorem dX9_chanceOf_119 : decode cX9_chanceOf 119 = .ok (.iload_n 3, 1) := by decide +kernel
theorem dX9_chanceOf_120 : decode cX9_chanceOf 120 = .ok (.invokestatic 358, 3) := by decide +kernel
theorem dX9_chanceOf_123 : decode cX9_chanceOf 123 = .ok (.lreturn, 1) := by decide +kernel
theorem dX9_chance_0 : decode cX9_chance 0 = .ok (.iload_n 1, 1) := by decide +kernel
theorem dX9_chance_1 : decode cX9_chance 1 = .ok (.iconst 0, 1) := by decide +kernel
theorem dX9_chance_2 : decode cX9_chance 2 = .ok (.bipush 16, 2) := by decide +kernel
theorem dX9_chance_4 : decode cX9_chance 4 = .ok (.invokestatic 109, 3) := by decide +kernel
theorem dX9_chance_7 : decode cX9_chance 7 = .ok (.ifCond .eq 28, 3) := by decide +kernel
theorem dX9_chance_10 : decode cX9_chance 10 = .ok (.aload_n 0, 1) := by decide +kernel
theorem dX9_chance_11 : decode cX9_chance 11 = .ok (.iload_n 2, 1) := by decide +kernel
theorem dX9_chance_12 : decode cX9_chance 12 = .ok (.invokevirtual 148, 3) := by decide +kernel
theorem dX9_chance_15 : decode cX9_chance 15 = .ok (.ifCond .eq 20, 3) := by decide +kernel
theorem dX9_chance_18 : decode cX9_chance 18 = .ok (.iload_n 3, 1) := by decide +kernel
theorem dX9_chance_19 : decode cX9_chance 19 = .ok (.invokestatic 113, 3) := by decide +kernel
theorem dX9_chance_22 : decode cX9_chance 22 = .ok (.ifCond .eq 13, 3) := by decide +kernel
theorem dX9_chance_25 : decode cX9_chance 25 = .ok (.aload_n 0, 1) := by decide +kernel
theorem dX9_chance_26 : decode cX9_chance 26 = .ok (.iload_n 1, 1) := by decide +kernel
theorem dX9_chance_27 : decode cX9_chance 27 = .ok (.iload_n 2, 1) := by decide +kernel
theorem dX9_chance_28 : decode cX9_chance 28 = .ok (.iload_n 3, 1) := by decide +kernel
theorem dX9_chance_29 : decode cX9_chance 29 = .ok (.invokevirtual 362, 3) := by decide +kernel
theorem dX9_chance_32 : decode cX9_chance 32 = .ok (.goto 8, 3) := by decide +kernel
theorem dX9_chance_35 : decode cX9_chance 35 = .ok (.bipush (-2), 2) := by decide +kernel
theorem dX9_chance_37 : decode cX9_chance 37 = .ok (.invokestatic 366, 3) := by decide +kernel
theorem dX9_chance_40 : decode cX9_chance 40 = .ok (.lreturn, 1) := by decide +kernel
theorem dX9_seasonsOf_0 : decode cX9_seasonsOf 0 = .ok (.aload_n 0, 1) := by decide +kernel
theorem dX9_seasonsOf_1 : decode cX9_seasonsOf 1 = .ok (.invokevirtual 261, 3) := by decide +kernel
theorem dX9_seasonsOf_4 : decode cX9_seasonsOf 4 = .ok (.iload_n 1, 1) := by decide +kernel
theorem dX9_seasonsOf_5 : decode cX9_seasonsOf 5 = .ok (.istore 4, 2) := by decide +kernel
theorem dX9_seasonsOf_7 : decode cX9_seasonsOf 7 = .ok (.aload_n 0, 1) := by decide +kernel
theorem dX9_seasonsOf_8 : decode cX9_seasonsOf 8 = .ok (.iload_n 2, 1) := by decide +kernel
theorem dX9_seasonsOf_9 : decode cX9_seasonsOf 9 = .ok (.putfield 173, 3) := by decide +kernel
theorem dX9_seasonsOf_12 : decode cX9_seasonsOf 12 = .ok (.iconst 0, 1) := by decide +kernel
theorem dX9_seasonsOf_13 : decode cX9_seasonsOf 13 = .ok (.istore 5, 2) := by decide +kernel
theorem dX9_seasonsOf_15 : decode cX9_seasonsOf 15 = .ok (.iload 5, 2) := by decide +kernel
theorem dX9_seasonsOf_17 : decode cX9_seasonsOf 17 = .ok (.iload_n 2, 1) := by decide +kernel
theorem dX9_seasonsOf_18 : decode cX9_seasonsOf 18 = .ok (.if_icmp .ge 91, 3) := by decide +kernel
theorem dX9_seasonsOf_21 : decode cX9_seasonsOf 21 = .ok (.ldc_w 370, 3) := by decide +kernel
theorem dX9_seasonsOf_24 : decode cX9_seasonsOf 24 = .ok (.iload 4, 2) := by decide +kernel
theorem dX9_seasonsOf_26 : decode cX9_seasonsOf 26 = .ok (.imul, 1) := by decide +kernel
theorem dX9_seasonsOf_27 : decode cX9_seasonsOf 27 = .ok (.sipush 12345, 3) := by decide +kernel
theorem dX9_seasonsOf_30 : decode cX9_seasonsOf 30 = .ok (.iadd, 1) := by decide +kernel
theorem dX9_seasonsOf_31 : decode cX9_seasonsOf 31 = .ok (.istore 4, 2) := by decide +kernel
theorem dX9_seasonsOf_33 : decode cX9_seasonsOf 33 = .ok (.aload_n 0, 1) := by decide +kernel
theorem dX9_seasonsOf_34 : decode cX9_seasonsOf 34 = .ok (.getfield 37, 3) := by decide +kernel
theorem dX9_seasonsOf_37 : decode cX9_seasonsOf 37 = .ok (.iload 5, 2) := by decide +kernel
theorem dX9_seasonsOf_39 : decode cX9_seasonsOf 39 = .ok (.iload 4, 2) := by decide +kernel
theorem dX9_seasonsOf_41 : decode cX9_seasonsOf 41 = .ok (.bipush 16, 2) := by decide +kernel
theorem dX9_seasonsOf_43 : decode cX9_seasonsOf 43 = .ok (.iushr, 1) := by decide +kernel
theorem dX9_seasonsOf_44 : decode cX9_seasonsOf 44 = .ok (.iconst 3, 1) := by decide +kernel
theorem dX9_seasonsOf_45 : decode cX9_seasonsOf 45 = .ok (.irem, 1) := by decide +kernel
theorem dX9_seasonsOf_46 : decode cX9_seasonsOf 46 = .ok (.iastore, 1) := by decide +kernel
theorem dX9_seasonsOf_47 : decode cX9_seasonsOf 47 = .ok (.ldc_w 370, 3) := by decide +kernel
theorem dX9_seasonsOf_50 : decode cX9_seasonsOf 50 = .ok (.iload 4, 2) := by decide +kernel
theorem dX9_seasonsOf_52 : decode cX9_seasonsOf 52 = .ok (.imul, 1) := by decide +kernel
theorem dX9_seasonsOf_53 : decode cX9_seasonsOf 53 = .ok (.sipush 12345, 3) := by decide +kernel
theorem dX9_seasonsOf_56 : decode cX9_seasonsOf 56 = .ok (.iadd, 1) := by decide +kernel
theorem dX9_seasonsOf_57 : decode cX9_seasonsOf 57 = .ok (.istore 4, 2) := by decide +kernel
theorem dX9_seasonsOf_59 : decode cX9_seasonsOf 59 = .ok (.aload_n 0, 1) := by decide +kernel
theorem dX9_seasonsOf_60 : decode cX9_seasonsOf 60 = .ok (.getfield 40, 3) := by decide +kernel
theorem dX9_seasonsOf_63 : decode cX9_seasonsOf 63 = .ok (.iload 5, 2) := by decide +kernel
theorem dX9_seasonsOf_65 : decode cX9_seasonsOf 65 = .ok (.iload 4, 2) := by decide +kernel
theorem dX9_seasonsOf_67 : decode cX9_seasonsOf 67 = .ok (.bipush 16, 2) := by decide +kernel
theorem dX9_seasonsOf_69 : decode cX9_seasonsOf 69 = .ok (.iushr, 1) := by decide +kernel
theorem dX9_seasonsOf_70 : decode cX9_seasonsOf 70 = .ok (.bipush 9, 2) := by decide +kernel
theorem dX9_seasonsOf_72 : decode cX9_seasonsOf 72 = .ok (.irem, 1) := by decide +kernel
theorem dX9_seasonsOf_73 : decode cX9_seasonsOf 73 = .ok (.iconst 1, 1) := by decide +kernel
theorem dX9_seasonsOf_74 : decode cX9_seasonsOf 74 = .ok (.iadd, 1) := by decide +kernel
theorem dX9_seasonsOf_75 : decode cX9_seasonsOf 75 = .ok (.iastore, 1) := by decide +kernel
theorem dX9_seasonsOf_76 : decode cX9_seasonsOf 76 = .ok (.ldc_w 370, 3) := by decide +kernel
theorem dX9_seasonsOf_79 : decode cX9_seasonsOf 79 = .ok (.iload 4, 2) := by decide +kernel
theorem dX9_seasonsOf_81 : decode cX9_seasonsOf 81 = .ok (.imul, 1) := by decide +kernel
theorem dX9_seasonsOf_82 : decode cX9_seasonsOf 82 = .ok (.sipush 12345, 3) := by decide +kernel
theorem dX9_seasonsOf_85 : decode cX9_seasonsOf 85 = .ok (.iadd, 1) := by decide +kernel
theorem dX9_seasonsOf_86 : decode cX9_seasonsOf 86 = .ok (.istore 4, 2) := by decide +kernel
theorem dX9_seasonsOf_88 : decode cX9_seasonsOf 88 = .ok (.aload_n 0, 1) := by decide +kernel
theorem dX9_seasonsOf_89 : decode cX9_seasonsOf 89 = .ok (.getfield 43, 3) := by decide +kernel
theorem dX9_seasonsOf_92 : decode cX9_seasonsOf 92 = .ok (.iload 5, 2) := by decide +kernel
theorem dX9_seasonsOf_94 : decode cX9_seasonsOf 94 = .ok (.iload 4, 2) := by decide +kernel
theorem dX9_seasonsOf_96 : decode cX9_seasonsOf 96 = .ok (.bipush 16, 2) := by decide +kernel
theorem dX9_seasonsOf_98 : decode cX9_seasonsOf 98 = .ok (.iushr, 1) := by decide +kernel
theorem dX9_seasonsOf_99 : decode cX9_seasonsOf 99 = .ok (.bipush 10, 2) := by decide +kernel
theorem dX9_seasonsOf_101 : decode cX9_seasonsOf 101 = .ok (.irem, 1) := by decide +kernel
theorem dX9_seasonsOf_102 : decode cX9_seasonsOf 102 = .ok (.iastore, 1) := by decide +kernel
theorem dX9_seasonsOf_103 : decode cX9_seasonsOf 103 = .ok (.iinc 5 1, 3) := by decide +kernel
theorem dX9_seasonsOf_106 : decode cX9_seasonsOf 106 = .ok (.goto (-91), 3) := by decide +kernel
theorem dX9_seasonsOf_109 : decode cX9_seasonsOf 109 = .ok (.aload_n 0, 1) := by decide +kernel
theorem dX9_seasonsOf_110 : decode cX9_seasonsOf 110 = .ok (.invokevirtual 264, 3) := by decide +kernel
theorem dX9_seasonsOf_113 : decode cX9_seasonsOf 113 = .ok (.iload_n 3, 1) := by decide +kernel
theorem dX9_seasonsOf_114 : decode cX9_seasonsOf 114 = .ok (.ifCond .ne 10, 3) := by decide +kernel
theorem dX9_seasonsOf_117 : decode cX9_seasonsOf 117 = .ok (.aload_n 0, 1) := by decide +kernel
theorem dX9_seasonsOf_118 : decode cX9_seasonsOf 118 = .ok (.invokevirtual 282, 3) := by decide +kernel
theorem dX9_seasonsOf_121 : decode cX9_seasonsOf 121 = .ok (.goto 7, 3) := by decide +kernel
theorem dX9_seasonsOf_124 : decode cX9_seasonsOf 124 = .ok (.aload_n 0, 1) := by decide +kernel
theorem dX9_seasonsOf_125 : decode cX9_seasonsOf 125 = .ok (.getfield 246, 3) := by decide +kernel
theorem dX9_seasonsOf_128 : decode cX9_seasonsOf 128 = .ok (.ireturn, 1) := by decide +kernel
theorem dX9_seasons_0 : decode cX9_seasons 0 = .ok (.iload_n 2, 1) := by decide +kernel
theorem dX9_seasons_1 : decode cX9_seasons 1 = .ok (.iconst 0, 1) := by decide +kernel
theorem dX9_seasons_2 : decode cX9_seasons 2 = .ok (.bipush 8, 2) := by decide +kernel
theorem dX9_seasons_4 : decode cX9_seasons 4 = .ok (.invokestatic 109, 3) := by decide +kernel
theorem dX9_seasons_7 : decode cX9_seasons 7 = .ok (.ifCond .eq 20, 3) := by decide +kernel
theorem dX9_seasons_10 : decode cX9_seasons 10 = .ok (.iload_n 3, 1) := by decide +kernel
theorem dX9_seasons_11 : decode cX9_seasons 11 = .ok (.invokestatic 113, 3) := by decide +kernel
theorem dX9_seasons_14 : decode cX9_seasons 14 = .ok (.ifCond .eq 13, 3) := by decide +kernel
theorem dX9_seasons_17 : decode cX9_seasons 17 = .ok (.aload_n 0, 1) := by decide +kernel
theorem dX9_seasons_18 : decode cX9_seasons 18 = .ok (.iload_n 1, 1) := by decide +kernel
theorem dX9_seasons_19 : decode cX9_seasons 19 = .ok (.iload_n 2, 1) := by decide +kernel
theorem dX9_seasons_20 : decode cX9_seasons 20 = .ok (.iload_n 3, 1) := by decide +kernel
theorem dX9_seasons_21 : decode cX9_seasons 21 = .ok (.invokevirtual 371, 3) := by decide +kernel
theorem dX9_seasons_24 : decode cX9_seasons 24 = .ok (.goto 5, 3) := by decide +kernel
theorem dX9_seasons_27 : decode cX9_seasons 27 = .ok (.bipush (-2), 2) := by decide +kernel
theorem dX9_seasons_29 : decode cX9_seasons 29 = .ok (.ireturn, 1) := by decide +kernel
theorem dX9_meets_0 : decode cX9_meets 0 = .ok (.aload_n 0, 1) := by decide +kernel
theorem dX9_meets_1 : decode cX9_meets 1 = .ok (.iload_n 1, 1) := by decide +kernel
theorem dX9_meets_2 : decode cX9_meets 2 = .ok (.putfield 374, 3) := by decide +kernel
theorem dX9_meets_5 : decode cX9_meets 5 = .ok (.bipush (-10), 2) := by decide +kernel
theorem dX9_meets_7 : decode cX9_meets 7 = .ok (.iload_n 1, 1) := by decide +kernel
theorem dX9_meets_8 : decode cX9_meets 8 = .ok (.isub, 1) := by decide +kernel
theorem dX9_meets_9 : decode cX9_meets 9 = .ok (.ireturn, 1) := by decide +kernel
theorem dX9_isSheet_0 : decode cX9_isSheet 0 = .ok (.iload_n 0, 1) := by decide +kernel
theorem dX9_isSheet_1 : decode cX9_isSheet 1 = .ok (.iconst 0, 1) := by decide +kernel
theorem dX9_isSheet_2 : decode cX9_isSheet 2 = .ok (.iconst 3, 1) := by decide +kernel
theorem dX9_isSheet_3 : decode cX9_isSheet 3 = .ok (.invokestatic 109, 3) := by decide +kernel
theorem dX9_isSheet_6 : decode cX9_isSheet 6 = .ok (.ireturn, 1) := by decide +kernel
theorem dX9_sheet_0 : decode cX9_sheet 0 = .ok (.iload_n 1, 1) := by decide +kernel
theorem dX9_sheet_1 : decode cX9_sheet 1 = .ok (.invokestatic 163, 3) := by decide +kernel
theorem dX9_sheet_4 : decode cX9_sheet 4 = .ok (.ifCond .eq 18, 3) := by decide +kernel
theorem dX9_sheet_7 : decode cX9_sheet 7 = .ok (.iload_n 2, 1) := by decide +kernel
theorem dX9_sheet_8 : decode cX9_sheet 8 = .ok (.iconst 0, 1) := by decide +kernel
theorem dX9_sheet_9 : decode cX9_sheet 9 = .ok (.iconst 2, 1) := by decide +kernel
theorem dX9_sheet_10 : decode cX9_sheet 10 = .ok (.invokestatic 109, 3) := by decide +kernel
theorem dX9_sheet_13 : decode cX9_sheet 13 = .ok (.ifCond .eq 9, 3) := by decide +kernel
theorem dX9_sheet_16 : decode cX9_sheet 16 = .ok (.iload_n 3, 1) := by decide +kernel
theorem dX9_sheet_17 : decode cX9_sheet 17 = .ok (.bipush 60, 2) := by decide +kernel
theorem dX9_sheet_19 : decode cX9_sheet 19 = .ok (.if_icmp .le 6, 3) := by decide +kernel
theorem dX9_sheet_22 : decode cX9_sheet 22 = .ok (.bipush (-2), 2) := by decide +kernel
theorem dX9_sheet_24 : decode cX9_sheet 24 = .ok (.ireturn, 1) := by decide +kernel
theorem dX9_sheet_25 : decode cX9_sheet 25 = .ok (.iload_n 3, 1) := by decide +kernel
theorem dX9_sheet_26 : decode cX9_sheet 26 = .ok (.ifCond .ge 9, 3) := by decide +kernel
theorem dX9_sheet_29 : decode cX9_sheet 29 = .ok (.aload_n 0, 1) := by decide +kernel
theorem dX9_sheet_30 : decode cX9_sheet 30 = .ok (.iconst 5, 1) := by decide +kernel
theorem dX9_sheet_31 : decode cX9_sheet 31 = .ok (.invokevirtual 166, 3) := by decide +kernel
theorem dX9_sheet_34 : decode cX9_sheet 34 = .ok (.ireturn, 1) := by decide +kernel
theorem dX9_sheet_35 : decode cX9_sheet 35 = .ok (.aload_n 0, 1) := by decide +kernel
theorem dX9_sheet_36 : decode cX9_sheet 36 = .ok (.getfield 91, 3) := by decide +kernel
theorem dX9_sheet_39 : decode cX9_sheet 39 = .ok (.iload_n 1, 1) := by decide +kernel
theorem dX9_sheet_40 : decode cX9_sheet 40 = .ok (.iconst 1, 1) := by decide +kernel
theorem dX9_sheet_41 : decode cX9_sheet 41 = .ok (.bastore, 1) := by decide +kernel
theorem dX9_sheet_42 : decode cX9_sheet 42 = .ok (.aload_n 0, 1) := by decide +kernel
theorem dX9_sheet_43 : decode cX9_sheet 43 = .ok (.getfield 95, 3) := by decide +kernel
theorem dX9_sheet_46 : decode cX9_sheet 46 = .ok (.iload_n 1, 1) := by decide +kernel
theorem dX9_sheet_47 : decode cX9_sheet 47 = .ok (.iload_n 2, 1) := by decide +kernel
theorem dX9_sheet_48 : decode cX9_sheet 48 = .ok (.iastore, 1) := by decide +kernel
theorem dX9_sheet_49 : decode cX9_sheet 49 = .ok (.aload_n 0, 1) := by decide +kernel
theorem dX9_sheet_50 : decode cX9_sheet 50 = .ok (.getfield 98, 3) := by decide +kernel
theorem dX9_sheet_53 : decode cX9_sheet 53 = .ok (.iload_n 1, 1) := by decide +kernel
theorem dX9_sheet_54 : decode cX9_sheet 54 = .ok (.iload_n 3, 1) := by decide +kernel
theorem dX9_sheet_55 : decode cX9_sheet 55 = .ok (.iastore, 1) := by decide +kernel
theorem dX9_sheet_56 : decode cX9_sheet 56 = .ok (.iconst 0, 1) := by decide +kernel
theorem dX9_sheet_57 : decode cX9_sheet 57 = .ok (.istore 4, 2) := by decide +kernel
theorem dX9_sheet_59 : decode cX9_sheet 59 = .ok (.iload 4, 2) := by decide +kernel
theorem dX9_sheet_61 : decode cX9_sheet 61 = .ok (.bipush 60, 2) := by decide +kernel
theorem dX9_sheet_63 : decode cX9_sheet 63 = .ok (.if_icmp .ge 22, 3) := by decide +kernel
theorem dX9_sheet_66 : decode cX9_sheet 66 = .ok (.aload_n 0, 1) := by decide +kernel
theorem dX9_sheet_67 : decode cX9_sheet 67 = .ok (.getfield 101, 3) := by decide +kernel
theorem dX9_sheet_70 : decode cX9_sheet 70 = .ok (.bipush 60, 2) := by decide +kernel
theorem dX9_sheet_72 : decode cX9_sheet 72 = .ok (.iload_n 1, 1) := by decide +kernel
theorem dX9_sheet_73 : decode cX9_sheet 73 = .ok (.imul, 1) := by decide +kernel
theorem dX9_sheet_74 : decode cX9_sheet 74 = .ok (.iload 4, 2) := by decide +kernel
theorem dX9_sheet_76 : decode cX9_sheet 76 = .ok (.iadd, 1) := by decide +kernel
theorem dX9_sheet_77 : decode cX9_sheet 77 = .ok (.iconst 0, 1) := by decide +kernel
theorem dX9_sheet_78 : decode cX9_sheet 78 = .ok (.iastore, 1) := by decide +kernel
theorem dX9_sheet_79 : decode cX9_sheet 79 = .ok (.iinc 4 1, 3) := by decide +kernel
theorem dX9_sheet_82 : decode cX9_sheet 82 = .ok (.goto (-23), 3) := by decide +kernel
theorem dX9_sheet_85 : decode cX9_sheet 85 = .ok (.iload_n 3, 1) := by decide +kernel
theorem dX9_sheet_86 : decode cX9_sheet 86 = .ok (.ireturn, 1) := by decide +kernel
theorem dX9_lose_0 : decode cX9_lose 0 = .ok (.iload_n 1, 1) := by decide +kernel
theorem dX9_lose_1 : decode cX9_lose 1 = .ok (.invokestatic 163, 3) := by decide +kernel
theorem dX9_lose_4 : decode cX9_lose 4 = .ok (.ifCond .ne 6, 3) := by decide +kernel
theorem dX9_lose_7 : decode cX9_lose 7 = .ok (.bipush (-2), 2) := by decide +kernel
theorem dX9_lose_9 : decode cX9_lose 9 = .ok (.ireturn, 1) := by decide +kernel
theorem dX9_lose_10 : decode cX9_lose 10 = .ok (.aload_n 0, 1) := by decide +kernel
theorem dX9_lose_11 : decode cX9_lose 11 = .ok (.getfield 91, 3) := by decide +kernel
theorem dX9_lose_14 : decode cX9_lose 14 = .ok (.iload_n 1, 1) := by decide +kernel
theorem dX9_lose_15 : decode cX9_lose 15 = .ok (.baload, 1) := by decide +kernel
theorem dX9_lose_16 : decode cX9_lose 16 = .ok (.ifCond .ne 9, 3) := by decide +kernel
theorem dX9_lose_19 : decode cX9_lose 19 = .ok (.aload_n 0, 1) := by decide +kernel
theorem dX9_lose_20 : decode cX9_lose 20 = .ok (.iconst 1, 1) := by decide +kernel
theorem dX9_lose_21 : decode cX9_lose 21 = .ok (.invokevirtual 166, 3) := by decide +kernel
theorem dX9_lose_24 : decode cX9_lose 24 = .ok (.ireturn, 1) := by decide +kernel
theorem dX9_lose_25 : decode cX9_lose 25 = .ok (.aload_n 0, 1) := by decide +kernel
theorem dX9_lose_26 : decode cX9_lose 26 = .ok (.getfield 91, 3) := by decide +kernel
theorem dX9_lose_29 : decode cX9_lose 29 = .ok (.iload_n 1, 1) := by decide +kernel
theorem dX9_lose_30 : decode cX9_lose 30 = .ok (.iconst 0, 1) := by decide +kernel
theorem dX9_lose_31 : decode cX9_lose 31 = .ok (.bastore, 1) := by decide +kernel
theorem dX9_lose_32 : decode cX9_lose 32 = .ok (.aload_n 0, 1) := by decide +kernel
theorem dX9_lose_33 : decode cX9_lose 33 = .ok (.getfield 98, 3) := by decide +kernel
theorem dX9_lose_36 : decode cX9_lose 36 = .ok (.iload_n 1, 1) := by decide +kernel
theorem dX9_lose_37 : decode cX9_lose 37 = .ok (.iaload, 1) := by decide +kernel
theorem dX9_lose_38 : decode cX9_lose 38 = .ok (.ireturn, 1) := by decide +kernel
theorem dX9_lacks_0 : decode cX9_lacks 0 = .ok (.aload_n 0, 1) := by decide +kernel
theorem dX9_lacks_1 : decode cX9_lacks 1 = .ok (.getfield 91, 3) := by decide +kernel
theorem dX9_lacks_4 : decode cX9_lacks 4 = .ok (.iload_n 1, 1) := by decide +kernel
theorem dX9_lacks_5 : decode cX9_lacks 5 = .ok (.baload, 1) := by decide +kernel
theorem dX9_lacks_6 : decode cX9_lacks 6 = .ok (.ifCond .ne 7, 3) := by decide +kernel
theorem dX9_lacks_9 : decode cX9_lacks 9 = .ok (.iconst 1, 1) := by decide +kernel
theorem dX9_lacks_10 : decode cX9_lacks 10 = .ok (.goto 38, 3) := by decide +kernel
theorem dX9_lacks_13 : decode cX9_lacks 13 = .ok (.aload_n 0, 1) := by decide +kernel
theorem dX9_lacks_14 : decode cX9_lacks 14 = .ok (.getfield 95, 3) := by decide +kernel
theorem dX9_lacks_17 : decode cX9_lacks 17 = .ok (.iload_n 1, 1) := by decide +kernel
theorem dX9_lacks_18 : decode cX9_lacks 18 = .ok (.iaload, 1) := by decide +kernel
theorem dX9_lacks_19 : decode cX9_lacks 19 = .ok (.iload_n 2, 1) := by decide +kernel
theorem dX9_lacks_20 : decode cX9_lacks 20 = .ok (.if_icmp .eq 7, 3) := by decide +kernel
theorem dX9_lacks_23 : decode cX9_lacks 23 = .ok (.iconst 3, 1) := by decide +kernel
theorem dX9_lacks_24 : decode cX9_lacks 24 = .ok (.goto 24, 3) := by decide +kernel
theorem dX9_lacks_27 : decode cX9_lacks 27 = .ok (.iload_n 3, 1) := by decide +kernel
theorem dX9_lacks_28 : decode cX9_lacks 28 = .ok (.iconst 0, 1) := by decide +kernel
theorem dX9_lacks_29 : decode cX9_lacks 29 = .ok (.aload_n 0, 1) := by decide +kernel
theorem dX9_lacks_30 : decode cX9_lacks 30 = .ok (.getfield 98, 3) := by decide +kernel
theorem dX9_lacks_33 : decode cX9_lacks 33 = .ok (.iload_n 1, 1) := by decide +kernel
theorem dX9_lacks_34 : decode cX9_lacks 34 = .ok (.iaload, 1) := by decide +kernel
theorem dX9_lacks_35 : decode cX9_lacks 35 = .ok (.iconst 1, 1) := by decide +kernel
theorem dX9_lacks_36 : decode cX9_lacks 36 = .ok (.isub, 1) := by decide +kernel
theorem dX9_lacks_37 : decode cX9_lacks 37 = .ok (.invokestatic 109, 3) := by decide +kernel
theorem dX9_lacks_40 : decode cX9_lacks 40 = .ok (.ifCond .eq 7, 3) := by decide +kernel
theorem dX9_lacks_43 : decode cX9_lacks 43 = .ok (.iconst 0, 1) := by decide +kernel
theorem dX9_lacks_44 : decode cX9_lacks 44 = .ok (.goto 4, 3) := by decide +kernel
theorem dX9_lacks_47 : decode cX9_lacks 47 = .ok (.iconst 2, 1) := by decide +kernel
theorem dX9_lacks_48 : decode cX9_lacks 48 = .ok (.ireturn, 1) := by decide +kernel
theorem dX9_keep_0 : decode cX9_keep 0 = .ok (.aload_n 0, 1) := by decide +kernel
theorem dX9_keep_1 : decode cX9_keep 1 = .ok (.getfield 101, 3) := by decide +kernel
theorem dX9_keep_4 : decode cX9_keep 4 = .ok (.bipush 60, 2) := by decide +kernel
theorem dX9_keep_6 : decode cX9_keep 6 = .ok (.iload_n 1, 1) := by decide +kernel
theorem dX9_keep_7 : decode cX9_keep 7 = .ok (.imul, 1) := by decide +kernel
theorem dX9_keep_8 : decode cX9_keep 8 = .ok (.iload_n 2, 1) := by decide +kernel
theorem dX9_keep_9 : decode cX9_keep 9 = .ok (.iadd, 1) := by decide +kernel
theorem dX9_keep_10 : decode cX9_keep 10 = .ok (.aload_n 0, 1) := by decide +kernel
theorem dX9_keep_11 : decode cX9_keep 11 = .ok (.getfield 95, 3) := by decide +kernel
theorem dX9_keep_14 : decode cX9_keep 14 = .ok (.iload_n 1, 1) := by decide +kernel
theorem dX9_keep_15 : decode cX9_keep 15 = .ok (.iaload, 1) := by decide +kernel
theorem dX9_keep_16 : decode cX9_keep 16 = .ok (.ifCond .ne 8, 3) := by decide +kernel
theorem dX9_keep_19 : decode cX9_keep 19 = .ok (.iload_n 3, 1) := by decide +kernel
theorem dX9_keep_20 : decode cX9_keep 20 = .ok (.i2b, 1) := by decide +kernel
theorem dX9_keep_21 : decode cX9_keep 21 = .ok (.goto 19, 3) := by decide +kernel
theorem dX9_keep_24 : decode cX9_keep 24 = .ok (.aload_n 0, 1) := by decide +kernel
theorem dX9_keep_25 : decode cX9_keep 25 = .ok (.getfield 95, 3) := by decide +kernel
theorem dX9_keep_28 : decode cX9_keep 28 = .ok (.iload_n 1, 1) := by decide +kernel
theorem dX9_keep_29 : decode cX9_keep 29 = .ok (.iaload, 1) := by decide +kernel
theorem dX9_keep_30 : decode cX9_keep 30 = .ok (.iconst 1, 1) := by decide +kernel
theorem dX9_keep_31 : decode cX9_keep 31 = .ok (.if_icmp .ne 8, 3) := by decide +kernel
theorem dX9_keep_34 : decode cX9_keep 34 = .ok (.iload_n 3, 1) := by decide +kernel
theorem dX9_keep_35 : decode cX9_keep 35 = .ok (.i2s, 1) := by decide +kernel
theorem dX9_keep_36 : decode cX9_keep 36 = .ok (.goto 4, 3) := by decide +kernel
theorem dX9_keep_39 : decode cX9_keep 39 = .ok (.iload_n 3, 1) := by decide +kernel
theorem dX9_keep_40 : decode cX9_keep 40 = .ok (.iastore, 1) := by decide +kernel
theorem dX9_keep_41 : decode cX9_keep 41 = .ok (.return_, 1) := by decide +kernel
theorem dX9_put_0 : decode cX9_put 0 = .ok (.iload_n 1, 1) := by decide +kernel
theorem dX9_put_1 : decode cX9_put 1 = .ok (.invokestatic 163, 3) := by decide +kernel
theorem dX9_put_4 : decode cX9_put 4 = .ok (.ifCond .eq 12, 3) := by decide +kernel
theorem dX9_put_7 : decode cX9_put 7 = .ok (.iload_n 2, 1) := by decide +kernel
theorem dX9_put_8 : decode cX9_put 8 = .ok (.iconst 0, 1) := by decide +kernel
theorem dX9_put_9 : decode cX9_put 9 = .ok (.iconst 2, 1) := by decide +kernel
theorem dX9_put_10 : decode cX9_put 10 = .ok (.invokestatic 109, 3) := by decide +kernel
theorem dX9_put_13 : decode cX9_put 13 = .ok (.ifCond .ne 6, 3) := by decide +kernel
theorem dX9_put_16 : decode cX9_put 16 = .ok (.bipush (-2), 2) := by decide +kernel
theorem dX9_put_18 : decode cX9_put 18 = .ok (.ireturn, 1) := by decide +kernel
theorem dX9_put_19 : decode cX9_put 19 = .ok (.aload_n 0, 1) := by decide +kernel
theorem dX9_put_20 : decode cX9_put 20 = .ok (.iload_n 1, 1) := by decide +kernel
theorem dX9_put_21 : decode cX9_put 21 = .ok (.iload_n 2, 1) := by decide +kernel
theorem dX9_put_22 : decode cX9_put 22 = .ok (.iload_n 3, 1) := by decide +kernel
theorem dX9_put_23 : decode cX9_put 23 = .ok (.invokevirtual 377, 3) := by decide +kernel
theorem dX9_put_26 : decode cX9_put 26 = .ok (.istore 5, 2) := by decide +kernel
theorem dX9_put_28 : decode cX9_put 28 = .ok (.iload 5, 2) := by decide +kernel
theorem dX9_put_30 : decode cX9_put 30 = .ok (.ifCond .le 10, 3) := by decide +kernel
theorem dX9_put_33 : decode cX9_put 33 = .ok (.aload_n 0, 1) := by decide +kernel
theorem dX9_put_34 : decode cX9_put 34 = .ok (.iload 5, 2) := by decide +kernel
theorem dX9_put_36 : decode cX9_put 36 = .ok (.invokevirtual 166, 3) := by decide +kernel
theorem dX9_put_39 : decode cX9_put 39 = .ok (.ireturn, 1) := by decide +kernel
theorem dX9_put_40 : decode cX9_put 40 = .ok (.aload_n 0, 1) := by decide +kernel
theorem dX9_put_41 : decode cX9_put 41 = .ok (.iload_n 1, 1) := by decide +kernel
theorem dX9_put_42 : decode cX9_put 42 = .ok (.iload_n 3, 1) := by decide +kernel
theorem dX9_put_43 : decode cX9_put 43 = .ok (.iload 4, 2) := by decide +kernel
theorem dX9_put_45 : decode cX9_put 45 = .ok (.invokevirtual 380, 3) := by decide +kernel
theorem dX9_put_48 : decode cX9_put 48 = .ok (.iconst 1, 1) := by decide +kernel
theorem dX9_put_49 : decode cX9_put 49 = .ok (.ireturn, 1) := by decide +kernel
theorem dX9_get_0 : decode cX9_get 0 = .ok (.iload_n 1, 1) := by decide +kernel
theorem dX9_get_1 : decode cX9_get 1 = .ok (.invokestatic 163, 3) := by decide +kernel
theorem dX9_get_4 : decode cX9_get 4 = .ok (.ifCond .eq 12, 3) := by decide +kernel
theorem dX9_get_7 : decode cX9_get 7 = .ok (.iload_n 2, 1) := by decide +kernel
theorem dX9_get_8 : decode cX9_get 8 = .ok (.iconst 0, 1) := by decide +kernel
theorem dX9_get_9 : decode cX9_get 9 = .ok (.iconst 2, 1) := by decide +kernel
theorem dX9_get_10 : decode cX9_get 10 = .ok (.invokestatic 109, 3) := by decide +kernel
theorem dX9_get_13 : decode cX9_get 13 = .ok (.ifCond .ne 7, 3) := by decide +kernel
theorem dX9_get_16 : decode cX9_get 16 = .ok (.ldc_w 384, 3) := by decide +kernel
theorem dX9_get_19 : decode cX9_get 19 = .ok (.ireturn, 1) := by decide +kernel
theorem dX9_get_20 : decode cX9_get 20 = .ok (.aload_n 0, 1) := by decide +kernel
theorem dX9_get_21 : decode cX9_get 21 = .ok (.iload_n 1, 1) := by decide +kernel
theorem dX9_get_22 : decode cX9_get 22 = .ok (.iload_n 2, 1) := by decide +kernel
theorem dX9_get_23 : decode cX9_get 23 = .ok (.iload_n 3, 1) := by decide +kernel
theorem dX9_get_24 : decode cX9_get 24 = .ok (.invokevirtual 377, 3) := by decide +kernel
theorem dX9_get_27 : decode cX9_get 27 = .ok (.istore 4, 2) := by decide +kernel
theorem dX9_get_29 : decode cX9_get 29 = .ok (.iload 4, 2) := by decide +kernel
theorem dX9_get_31 : decode cX9_get 31 = .ok (.ifCond .le 13, 3) := by decide +kernel
theorem dX9_get_34 : decode cX9_get 34 = .ok (.aload_n 0, 1) := by decide +kernel
theorem dX9_get_35 : decode cX9_get 35 = .ok (.iload 4, 2) := by decide +kernel
theorem dX9_get_37 : decode cX9_get 37 = .ok (.putfield 374, 3) := by decide +kernel
theorem dX9_get_40 : decode cX9_get 40 = .ok (.ldc_w 384, 3) := by decide +kernel
theorem dX9_get_43 : decode cX9_get 43 = .ok (.ireturn, 1) := by decide +kernel
theorem dX9_get_44 : decode cX9_get 44 = .ok (.aload_n 0, 1) := by decide +kernel
theorem dX9_get_45 : decode cX9_get 45 = .ok (.getfield 101, 3) := by decide +kernel
theorem dX9_get_48 : decode cX9_get 48 = .ok (.bipush 60, 2) := by decide +kernel
theorem dX9_get_50 : decode cX9_get 50 = .ok (.iload_n 1, 1) := by decide +kernel
theorem dX9_get_51 : decode cX9_get 51 = .ok (.imul, 1) := by decide +kernel
theorem dX9_get_52 : decode cX9_get 52 = .ok (.iload_n 3, 1) := by decide +kernel
theorem dX9_get_53 : decode cX9_get 53 = .ok (.iadd, 1) := by decide +kernel
theorem dX9_get_54 : decode cX9_get 54 = .ok (.iaload, 1) := by decide +kernel
theorem dX9_get_55 : decode cX9_get 55 = .ok (.ireturn, 1) := by decide +kernel
theorem dX9_copy_0 : decode cX9_copy 0 = .ok (.iload_n 1, 1) := by decide +kernel
theorem dX9_copy_1 : decode cX9_copy 1 = .ok (.invokestatic 163, 3) := by decide +kernel
theorem dX9_copy_4 : decode cX9_copy 4 = .ok (.ifCond .eq 10, 3) := by decide +kernel
theorem dX9_copy_7 : decode cX9_copy 7 = .ok (.iload_n 3, 1) := by decide +kernel
theorem dX9_copy_8 : decode cX9_copy 8 = .ok (.invokestatic 163, 3) := by decide +kernel
theorem dX9_copy_11 : decode cX9_copy 11 = .ok (.ifCond .ne 6, 3) := by decide +kernel
theorem dX9_copy_14 : decode cX9_copy 14 = .ok (.bipush (-2), 2) := by decide +kernel
theorem dX9_copy_16 : decode cX9_copy 16 = .ok (.ireturn, 1) := by decide +kernel
theorem dX9_copy_17 : decode cX9_copy 17 = .ok (.aload_n 0, 1) := by decide +kernel
theorem dX9_copy_18 : decode cX9_copy 18 = .ok (.getfield 91, 3) := by decide +kernel
theorem dX9_copy_21 : decode cX9_copy 21 = .ok (.iload_n 1, 1) := by decide +kernel
theorem dX9_copy_22 : decode cX9_copy 22 = .ok (.baload, 1) := by decide +kernel
theorem dX9_copy_23 : decode cX9_copy 23 = .ok (.ifCond .eq 12, 3) := by decide +kernel
theorem dX9_copy_26 : decode cX9_copy 26 = .ok (.aload_n 0, 1) := by decide +kernel
theorem dX9_copy_27 : decode cX9_copy 27 = .ok (.getfield 91, 3) := by decide +kernel
theorem dX9_copy_30 : decode cX9_copy 30 = .ok (.iload_n 3, 1) := by decide +kernel
theorem dX9_copy_31 : decode cX9_copy 31 = .ok (.baload, 1) := by decide +kernel
theorem dX9_copy_32 : decode cX9_copy 32 = .ok (.ifCond .ne 9, 3) := by decide +kernel
theorem dX9_copy_35 : decode cX9_copy 35 = .ok (.aload_n 0, 1) := by decide +kernel
theorem dX9_copy_36 : decode cX9_copy 36 = .ok (.iconst 1, 1) := by decide +kernel
theorem dX9_copy_37 : decode cX9_copy 37 = .ok (.invokevirtual 166, 3) := by decide +kernel
theorem dX9_copy_40 : decode cX9_copy 40 = .ok (.ireturn, 1) := by decide +kernel
theorem dX9_copy_41 : decode cX9_copy 41 = .ok (.aload_n 0, 1) := by decide +kernel
theorem dX9_copy_42 : decode cX9_copy 42 = .ok (.getfield 95, 3) := by decide +kernel
theorem dX9_copy_45 : decode cX9_copy 45 = .ok (.iload_n 1, 1) := by decide +kernel
theorem dX9_copy_46 : decode cX9_copy 46 = .ok (.iaload, 1) := by decide +kernel
theorem dX9_copy_47 : decode cX9_copy 47 = .ok (.aload_n 0, 1) := by decide +kernel
theorem dX9_copy_48 : decode cX9_copy 48 = .ok (.getfield 95, 3) := by decide +kernel
theorem dX9_copy_51 : decode cX9_copy 51 = .ok (.iload_n 3, 1) := by decide +kernel
theorem dX9_copy_52 : decode cX9_copy 52 = .ok (.iaload, 1) := by decide +kernel
theorem dX9_copy_53 : decode cX9_copy 53 = .ok (.if_icmp .eq 9, 3) := by decide +kernel
theorem dX9_copy_56 : decode cX9_copy 56 = .ok (.aload_n 0, 1) := by decide +kernel
theorem dX9_copy_57 : decode cX9_copy 57 = .ok (.iconst 4, 1) := by decide +kernel
theorem dX9_copy_58 : decode cX9_copy 58 = .ok (.invokevirtual 166, 3) := by decide +kernel
theorem dX9_copy_61 : decode cX9_copy 61 = .ok (.ireturn, 1) := by decide +kernel
theorem dX9_copy_62 : decode cX9_copy 62 = .ok (.iload_n 2, 1) := by decide +kernel
theorem dX9_copy_63 : decode cX9_copy 63 = .ok (.ifCond .lt 48, 3) := by decide +kernel
theorem dX9_copy_66 : decode cX9_copy 66 = .ok (.iload 4, 2) := by decide +kernel
theorem dX9_copy_68 : decode cX9_copy 68 = .ok (.ifCond .lt 43, 3) := by decide +kernel
theorem dX9_copy_71 : decode cX9_copy 71 = .ok (.iload 5, 2) := by decide +kernel
theorem dX9_copy_73 : decode cX9_copy 73 = .ok (.ifCond .lt 38, 3) := by decide +kernel
theorem dX9_copy_76 : decode cX9_copy 76 = .ok (.iload_n 2, 1) := by decide +kernel
theorem dX9_copy_77 : decode cX9_copy 77 = .ok (.i2l, 1) := by decide +kernel
theorem dX9_copy_78 : decode cX9_copy 78 = .ok (.iload 5, 2) := by decide +kernel
theorem dX9_copy_80 : decode cX9_copy 80 = .ok (.i2l, 1) := by decide +kernel
theorem dX9_copy_81 : decode cX9_copy 81 = .ok (.ladd, 1) := by decide +kernel
theorem dX9_copy_82 : decode cX9_copy 82 = .ok (.aload_n 0, 1) := by decide +kernel
theorem dX9_copy_83 : decode cX9_copy 83 = .ok (.getfield 98, 3) := by decide +kernel
theorem dX9_copy_86 : decode cX9_copy 86 = .ok (.iload_n 1, 1) := by decide +kernel
theorem dX9_copy_87 : decode cX9_copy 87 = .ok (.iaload, 1) := by decide +kernel
theorem dX9_copy_88 : decode cX9_copy 88 = .ok (.i2l, 1) := by decide +kernel
theorem dX9_copy_89 : decode cX9_copy 89 = .ok (.lcmp, 1) := by decide +kernel
theorem dX9_copy_90 : decode cX9_copy 90 = .ok (.ifCond .gt 21, 3) := by decide +kernel
theorem dX9_copy_93 : decode cX9_copy 93 = .ok (.iload 4, 2) := by decide +kernel
theorem dX9_copy_95 : decode cX9_copy 95 = .ok (.i2l, 1) := by decide +kernel
theorem dX9_copy_96 : decode cX9_copy 96 = .ok (.iload 5, 2) := by decide +kernel
theorem dX9_copy_98 : decode cX9_copy 98 = .ok (.i2l, 1) := by decide +kernel
theorem dX9_copy_99 : decode cX9_copy 99 = .ok (.ladd, 1) := by decide +kernel
theorem dX9_copy_100 : decode cX9_copy 100 = .ok (.aload_n 0, 1) := by decide +kernel
theorem dX9_copy_101 : decode cX9_copy 101 = .ok (.getfield 98, 3) := by decide +kernel
theorem dX9_copy_104 : decode cX9_copy 104 = .ok (.iload_n 3, 1) := by decide +kernel
theorem dX9_copy_105 : decode cX9_copy 105 = .ok (.iaload, 1) := by decide +kernel
theorem dX9_copy_106 : decode cX9_copy 106 = .ok (.i2l, 1) := by decide +kernel
theorem dX9_copy_107 : decode cX9_copy 107 = .ok (.lcmp, 1) := by decide +kernel
theorem dX9_copy_108 : decode cX9_copy 108 = .ok (.ifCond .le 9, 3) := by decide +kernel
theorem dX9_copy_111 : decode cX9_copy 111 = .ok (.aload_n 0, 1) := by decide +kernel
theorem dX9_copy_112 : decode cX9_copy 112 = .ok (.iconst 2, 1) := by decide +kernel
theorem dX9_copy_113 : decode cX9_copy 113 = .ok (.invokevirtual 166, 3) := by decide +kernel
theorem dX9_copy_116 : decode cX9_copy 116 = .ok (.ireturn, 1) := by decide +kernel
theorem dX9_copy_117 : decode cX9_copy 117 = .ok (.iconst 0, 1) := by decide +kernel
theorem dX9_copy_118 : decode cX9_copy 118 = .ok (.istore 6, 2) := by decide +kernel
theorem dX9_copy_120 : decode cX9_copy 120 = .ok (.iload 6, 2) := by decide +kernel
theorem dX9_copy_122 : decode cX9_copy 122 = .ok (.iload 5, 2) := by decide +kernel
theorem dX9_copy_124 : decode cX9_copy 124 = .ok (.if_icmp .ge 30, 3) := by decide +kernel
theorem dX9_copy_127 : decode cX9_copy 127 = .ok (.aload_n 0, 1) := by decide +kernel
theorem dX9_copy_128 : decode cX9_copy 128 = .ok (.getfield 104, 3) := by decide +kernel
theorem dX9_copy_131 : decode cX9_copy 131 = .ok (.iload 6, 2) := by decide +kernel
theorem dX9_copy_133 : decode cX9_copy 133 = .ok (.aload_n 0, 1) := by decide +kernel
theorem dX9_copy_134 : decode cX9_copy 134 = .ok (.getfield 101, 3) := by decide +kernel
theorem dX9_copy_137 : decode cX9_copy 137 = .ok (.bipush 60, 2) := by decide +kernel
theorem dX9_copy_139 : decode cX9_copy 139 = .ok (.iload_n 1, 1) := by decide +kernel
theorem dX9_copy_140 : decode cX9_copy 140 = .ok (.imul, 1) := by decide +kernel
theorem dX9_copy_141 : decode cX9_copy 141 = .ok (.iload_n 2, 1) := by decide +kernel
theorem dX9_copy_142 : decode cX9_copy 142 = .ok (.iadd, 1) := by decide +kernel
theorem dX9_copy_143 : decode cX9_copy 143 = .ok (.iload 6, 2) := by decide +kernel
theorem dX9_copy_145 : decode cX9_copy 145 = .ok (.iadd, 1) := by decide +kernel
theorem dX9_copy_146 : decode cX9_copy 146 = .ok (.iaload, 1) := by decide +kernel
theorem dX9_copy_147 : decode cX9_copy 147 = .ok (.iastore, 1) := by decide +kernel
theorem dX9_copy_148 : decode cX9_copy 148 = .ok (.iinc 6 1, 3) := by decide +kernel
theorem dX9_copy_151 : decode cX9_copy 151 = .ok (.goto (-31), 3) := by decide +kernel
theorem dX9_copy_154 : decode cX9_copy 154 = .ok (.iconst 0, 1) := by decide +kernel
theorem dX9_copy_155 : decode cX9_copy 155 = .ok (.istore 6, 2) := by decide +kernel
theorem dX9_copy_157 : decode cX9_copy 157 = .ok (.iload 6, 2) := by decide +kernel
theorem dX9_copy_159 : decode cX9_copy 159 = .ok (.iload 5, 2) := by decide +kernel
theorem dX9_copy_161 : decode cX9_copy 161 = .ok (.if_icmp .ge 31, 3) := by decide +kernel
theorem dX9_copy_164 : decode cX9_copy 164 = .ok (.aload_n 0, 1) := by decide +kernel
theorem dX9_copy_165 : decode cX9_copy 165 = .ok (.getfield 101, 3) := by decide +kernel
theorem dX9_copy_168 : decode cX9_copy 168 = .ok (.bipush 60, 2) := by decide +kernel
theorem dX9_copy_170 : decode cX9_copy 170 = .ok (.iload_n 3, 1) := by decide +kernel
theorem dX9_copy_171 : decode cX9_copy 171 = .ok (.imul, 1) := by decide +kernel
theorem dX9_copy_172 : decode cX9_copy 172 = .ok (.iload 4, 2) := by decide +kernel
theorem dX9_copy_174 : decode cX9_copy 174 = .ok (.iadd, 1) := by decide +kernel
theorem dX9_copy_175 : decode cX9_copy 175 = .ok (.iload 6, 2) := by decide +kernel
theorem dX9_copy_177 : decode cX9_copy 177 = .ok (.iadd, 1) := by decide +kernel
theorem dX9_copy_178 : decode cX9_copy 178 = .ok (.aload_n 0, 1) := by decide +kernel
theorem dX9_copy_179 : decode cX9_copy 179 = .ok (.getfield 104, 3) := by decide +kernel
theorem dX9_copy_182 : decode cX9_copy 182 = .ok (.iload 6, 2) := by decide +kernel
theorem dX9_copy_184 : decode cX9_copy 184 = .ok (.iaload, 1) := by decide +kernel
theorem dX9_copy_185 : decode cX9_copy 185 = .ok (.iastore, 1) := by decide +kernel
theorem dX9_copy_186 : decode cX9_copy 186 = .ok (.iinc 6 1, 3) := by decide +kernel
theorem dX9_copy_189 : decode cX9_copy 189 = .ok (.goto (-32), 3) := by decide +kernel
theorem dX9_copy_192 : decode cX9_copy 192 = .ok (.iconst 1, 1) := by decide +kernel
theorem dX9_copy_193 : decode cX9_copy 193 = .ok (.ireturn, 1) := by decide +kernel
theorem dX9_write_0 : decode cX9_write 0 = .ok (.iload_n 1, 1) := by decide +kernel
theorem dX9_write_1 : decode cX9_write 1 = .ok (.invokestatic 157, 3) := by decide +kernel
theorem dX9_write_4 : decode cX9_write 4 = .ok (.ifCond .eq 10, 3) := by decide +kernel
theorem dX9_write_7 : decode cX9_write 7 = .ok (.iload_n 2, 1) := by decide +kernel
theorem dX9_write_8 : decode cX9_write 8 = .ok (.invokestatic 163, 3) := by decide +kernel
theorem dX9_write_11 : decode cX9_write 11 = .ok (.ifCond .ne 6, 3) := by decide +kernel
theorem dX9_write_14 : decode cX9_write 14 = .ok (.bipush (-2), 2) := by decide +kernel
theorem dX9_write_16 : decode cX9_write 16 = .ok (.ireturn, 1) := by decide +kernel
theorem dX9_write_17 : decode cX9_write 17 = .ok (.aload_n 0, 1) := by decide +kernel
theorem dX9_write_18 : decode cX9_write 18 = .ok (.getfield 91, 3) := by decide +kernel
theorem dX9_write_21 : decode cX9_write 21 = .ok (.iload_n 2, 1) := by decide +kernel
theorem dX9_write_22 : decode cX9_write 22 = .ok (.baload, 1) := by decide +kernel
theorem dX9_write_23 : decode cX9_write 23 = .ok (.ifCond .ne 9, 3) := by decide +kernel
theorem dX9_write_26 : decode cX9_write 26 = .ok (.aload_n 0, 1) := by decide +kernel
theorem dX9_write_27 : decode cX9_write 27 = .ok (.iconst 1, 1) := by decide +kernel
theorem dX9_write_28 : decode cX9_write 28 = .ok (.invokevirtual 166, 3) := by decide +kernel
theorem dX9_write_31 : decode cX9_write 31 = .ok (.ireturn, 1) := by decide +kernel
theorem dX9_write_32 : decode cX9_write 32 = .ok (.aload_n 0, 1) := by decide +kernel
theorem dX9_write_33 : decode cX9_write 33 = .ok (.invokevirtual 267, 3) := by decide +kernel
theorem dX9_write_36 : decode cX9_write 36 = .ok (.iconst 0, 1) := by decide +kernel
theorem dX9_write_37 : decode cX9_write 37 = .ok (.istore_n 3, 1) := by decide +kernel
theorem dX9_write_38 : decode cX9_write 38 = .ok (.iload_n 3, 1) := by decide +kernel
theorem dX9_write_39 : decode cX9_write 39 = .ok (.aload_n 0, 1) := by decide +kernel
theorem dX9_write_40 : decode cX9_write 40 = .ok (.getfield 98, 3) := by decide +kernel
theorem dX9_write_43 : decode cX9_write 43 = .ok (.iload_n 2, 1) := by decide +kernel
theorem dX9_write_44 : decode cX9_write 44 = .ok (.iaload, 1) := by decide +kernel
theorem dX9_write_45 : decode cX9_write 45 = .ok (.if_icmp .ge 34, 3) := by decide +kernel
theorem dX9_write_48 : decode cX9_write 48 = .ok (.iload_n 3, 1) := by decide +kernel
theorem dX9_write_49 : decode cX9_write 49 = .ok (.aload_n 0, 1) := by decide +kernel
theorem dX9_write_50 : decode cX9_write 50 = .ok (.getfield 117, 3) := by decide +kernel
theorem dX9_write_53 : decode cX9_write 53 = .ok (.if_icmp .ge 26, 3) := by decide +kernel
theorem dX9_write_56 : decode cX9_write 56 = .ok (.aload_n 0, 1) := by decide +kernel
theorem dX9_write_57 : decode cX9_write 57 = .ok (.iload_n 2, 1) := by decide +kernel
theorem dX9_write_58 : decode cX9_write 58 = .ok (.iload_n 3, 1) := by decide +kernel
theorem dX9_write_59 : decode cX9_write 59 = .ok (.aload_n 0, 1) := by decide +kernel
theorem dX9_write_60 : decode cX9_write 60 = .ok (.getfield 67, 3) := by decide +kernel
theorem dX9_write_63 : decode cX9_write 63 = .ok (.bipush 12, 2) := by decide +kernel
theorem dX9_write_65 : decode cX9_write 65 = .ok (.iload_n 1, 1) := by decide +kernel
theorem dX9_write_66 : decode cX9_write 66 = .ok (.imul, 1) := by decide +kernel
theorem dX9_write_67 : decode cX9_write 67 = .ok (.iload_n 3, 1) := by decide +kernel
theorem dX9_write_68 : decode cX9_write 68 = .ok (.iadd, 1) := by decide +kernel
theorem dX9_write_69 : decode cX9_write 69 = .ok (.iaload, 1) := by decide +kernel
theorem dX9_write_70 : decode cX9_write 70 = .ok (.invokevirtual 380, 3) := by decide +kernel
theorem dX9_write_73 : decode cX9_write 73 = .ok (.iinc 3 1, 3) := by decide +kernel
theorem dX9_write_76 : decode cX9_write 76 = .ok (.goto (-38), 3) := by decide +kernel
theorem dX9_write_79 : decode cX9_write 79 = .ok (.iload_n 3, 1) := by decide +kernel
theorem dX9_write_80 : decode cX9_write 80 = .ok (.ireturn, 1) := by decide +kernel
theorem dX9_tellOf_0 : decode cX9_tellOf 0 = .ok (.aload_n 0, 1) := by decide +kernel
theorem dX9_tellOf_1 : decode cX9_tellOf 1 = .ok (.invokevirtual 142, 3) := by decide +kernel
theorem dX9_tellOf_4 : decode cX9_tellOf 4 = .ok (.iload_n 1, 1) := by decide +kernel
theorem dX9_tellOf_5 : decode cX9_tellOf 5 = .ok (.ifCond .ne 10, 3) := by decide +kernel
theorem dX9_tellOf_8 : decode cX9_tellOf 8 = .ok (.aload_n 0, 1) := by decide +kernel
theorem dX9_tellOf_9 : decode cX9_tellOf 9 = .ok (.getfield 117, 3) := by decide +kernel
theorem dX9_tellOf_12 : decode cX9_tellOf 12 = .ok (.goto 7, 3) := by decide +kernel
theorem dX9_tellOf_15 : decode cX9_tellOf 15 = .ok (.aload_n 0, 1) := by decide +kernel
theorem dX9_tellOf_16 : decode cX9_tellOf 16 = .ok (.getfield 125, 3) := by decide +kernel
theorem dX9_tellOf_19 : decode cX9_tellOf 19 = .ok (.ireturn, 1) := by decide +kernel
theorem dX9_count_0 : decode cX9_count 0 = .ok (.iload_n 1, 1) := by decide +kernel
theorem dX9_count_1 : decode cX9_count 1 = .ok (.tableswitch 93 0 8 #[51, 51, 57, 57, 66, 71, 77, 83, 88], 51) := by decide +kernel
theorem dX9_count_52 : decode cX9_count 52 = .ok (.aload_n 0, 1) := by decide +kernel
theorem dX9_count_53 : decode cX9_count 53 = .ok (.iload_n 1, 1) := by decide +kernel
theorem dX9_count_54 : decode cX9_count 54 = .ok (.invokevirtual 385, 3) := by decide +kernel
theorem dX9_count_57 : decode cX9_count 57 = .ok (.ireturn, 1) := by decide +kernel
theorem dX9_count_58 : decode cX9_count 58 = .ok (.aload_n 0, 1) := by decide +kernel
theorem dX9_count_59 : decode cX9_count 59 = .ok (.getfield 7, 3) := by decide +kernel
theorem dX9_count_62 : decode cX9_count 62 = .ok (.iload_n 1, 1) := by decide +kernel
theorem dX9_count_63 : decode cX9_count 63 = .ok (.iconst 2, 1) := by decide +kernel
theorem dX9_count_64 : decode cX9_count 64 = .ok (.isub, 1) := by decide +kernel
theorem dX9_count_65 : decode cX9_count 65 = .ok (.iaload, 1) := by decide +kernel
theorem dX9_count_66 : decode cX9_count 66 = .ok (.ireturn, 1) := by decide +kernel
theorem dX9_count_67 : decode cX9_count 67 = .ok (.aload_n 0, 1) := by decide +kernel
theorem dX9_count_68 : decode cX9_count 68 = .ok (.getfield 160, 3) := by decide +kernel
theorem dX9_count_71 : decode cX9_count 71 = .ok (.ireturn, 1) := by decide +kernel
theorem dX9_count_72 : decode cX9_count 72 = .ok (.aload_n 0, 1) := by decide +kernel
theorem dX9_count_73 : decode cX9_count 73 = .ok (.iconst 0, 1) := by decide +kernel
theorem dX9_count_74 : decode cX9_count 74 = .ok (.invokevirtual 285, 3) := by decide +kernel
theorem dX9_count_77 : decode cX9_count 77 = .ok (.ireturn, 1) := by decide +kernel
theorem dX9_count_78 : decode cX9_count 78 = .ok (.aload_n 0, 1) := by decide +kernel
theorem dX9_count_79 : decode cX9_count 79 = .ok (.iconst 2, 1) := by decide +kernel
theorem dX9_count_80 : decode cX9_count 80 = .ok (.invokevirtual 285, 3) := by decide +kernel
theorem dX9_count_83 : decode cX9_count 83 = .ok (.ireturn, 1) := by decide +kernel
theorem dX9_count_84 : decode cX9_count 84 = .ok (.aload_n 0, 1) := by decide +kernel
theorem dX9_count_85 : decode cX9_count 85 = .ok (.getfield 339, 3) := by decide +kernel
theorem dX9_count_88 : decode cX9_count 88 = .ok (.ireturn, 1) := by decide +kernel
theorem dX9_count_89 : decode cX9_count 89 = .ok (.aload_n 0, 1) := by decide +kernel
theorem dX9_count_90 : decode cX9_count 90 = .ok (.getfield 374, 3) := by decide +kernel
theorem dX9_count_93 : decode cX9_count 93 = .ok (.ireturn, 1) := by decide +kernel
theorem dX9_count_94 : decode cX9_count 94 = .ok (.bipush (-2), 2) := by decide +kernel
theorem dX9_count_96 : decode cX9_count 96 = .ok (.ireturn, 1) := by decide +kernel
theorem dX9_heatDigest_0 : decode cX9_heatDigest 0 = .ok (.ldc2_w 388, 3) := by decide +kernel
theorem dX9_heatDigest_3 : decode cX9_heatDigest 3 = .ok (.lload_n 1, 1) := by decide +kernel
theorem dX9_heatDigest_4 : decode cX9_heatDigest 4 = .ok (.lmul, 1) := by decide +kernel
theorem dX9_heatDigest_5 : decode cX9_heatDigest 5 = .ok (.aload_n 0, 1) := by decide +kernel
theorem dX9_heatDigest_6 : decode cX9_heatDigest 6 = .ok (.iload_n 3, 1) := by decide +kernel
theorem dX9_heatDigest_7 : decode cX9_heatDigest 7 = .ok (.iload 4, 2) := by decide +kernel
theorem dX9_heatDigest_9 : decode cX9_heatDigest 9 = .ok (.iconst 0, 1) := by decide +kernel
theorem dX9_heatDigest_10 : decode cX9_heatDigest 10 = .ok (.invokevirtual 270, 3) := by decide +kernel
theorem dX9_heatDigest_13 : decode cX9_heatDigest 13 = .ok (.i2l, 1) := by decide +kernel
theorem dX9_heatDigest_14 : decode cX9_heatDigest 14 = .ok (.ladd, 1) := by decide +kernel
theorem dX9_heatDigest_15 : decode cX9_heatDigest 15 = .ok (.lstore 5, 2) := by decide +kernel
theorem dX9_heatDigest_17 : decode cX9_heatDigest 17 = .ok (.ldc2_w 388, 3) := by decide +kernel
theorem dX9_heatDigest_20 : decode cX9_heatDigest 20 = .ok (.lload 5, 2) := by decide +kernel
theorem dX9_heatDigest_22 : decode cX9_heatDigest 22 = .ok (.lmul, 1) := by decide +kernel
theorem dX9_heatDigest_23 : decode cX9_heatDigest 23 = .ok (.aload_n 0, 1) := by decide +kernel
theorem dX9_heatDigest_24 : decode cX9_heatDigest 24 = .ok (.iload_n 3, 1) := by decide +kernel
theorem dX9_heatDigest_25 : decode cX9_heatDigest 25 = .ok (.iload 4, 2) := by decide +kernel
theorem dX9_heatDigest_27 : decode cX9_heatDigest 27 = .ok (.iconst 1, 1) := by decide +kernel
theorem dX9_heatDigest_28 : decode cX9_heatDigest 28 = .ok (.invokevirtual 270, 3) := by decide +kernel
theorem dX9_heatDigest_31 : decode cX9_heatDigest 31 = .ok (.i2l, 1) := by decide +kernel
theorem dX9_heatDigest_32 : decode cX9_heatDigest 32 = .ok (.ladd, 1) := by decide +kernel
theorem dX9_heatDigest_33 : decode cX9_heatDigest 33 = .ok (.lreturn, 1) := by decide +kernel
theorem dX9_thingDigest_0 : decode cX9_thingDigest 0 = .ok (.lload_n 1, 1) := by decide +kernel
theorem dX9_thingDigest_1 : decode cX9_thingDigest 1 = .ok (.lstore 4, 2) := by decide +kernel
theorem dX9_thingDigest_3 : decode cX9_thingDigest 3 = .ok (.iconst 0, 1) := by decide +kernel
theorem dX9_thingDigest_4 : decode cX9_thingDigest 4 = .ok (.istore 6, 2) := by decide +kernel
theorem dX9_thingDigest_6 : decode cX9_thingDigest 6 = .ok (.iload 6, 2) := by decide +kernel
theorem dX9_thingDigest_8 : decode cX9_thingDigest 8 = .ok (.iconst 3, 1) := by decide +kernel
theorem dX9_thingDigest_9 : decode cX9_thingDigest 9 = .ok (.if_icmp .ge 26, 3) := by decide +kernel
theorem dX9_thingDigest_12 : decode cX9_thingDigest 12 = .ok (.ldc2_w 388, 3) := by decide +kernel
theorem dX9_thingDigest_15 : decode cX9_thingDigest 15 = .ok (.lload 4, 2) := by decide +kernel
theorem dX9_thingDigest_17 : decode cX9_thingDigest 17 = .ok (.lmul, 1) := by decide +kernel
theorem dX9_thingDigest_18 : decode cX9_thingDigest 18 = .ok (.aload_n 0, 1) := by decide +kernel
theorem dX9_thingDigest_19 : decode cX9_thingDigest 19 = .ok (.iload_n 3, 1) := by decide +kernel
theorem dX9_thingDigest_20 : decode cX9_thingDigest 20 = .ok (.iload 6, 2) := by decide +kernel
theorem dX9_thingDigest_22 : decode cX9_thingDigest 22 = .ok (.invokevirtual 154, 3) := by decide +kernel
theorem dX9_thingDigest_25 : decode cX9_thingDigest 25 = .ok (.i2l, 1) := by decide +kernel
theorem dX9_thingDigest_26 : decode cX9_thingDigest 26 = .ok (.ladd, 1) := by decide +kernel
theorem dX9_thingDigest_27 : decode cX9_thingDigest 27 = .ok (.lstore 4, 2) := by decide +kernel
theorem dX9_thingDigest_29 : decode cX9_thingDigest 29 = .ok (.iinc 6 1, 3) := by decide +kernel
theorem dX9_thingDigest_32 : decode cX9_thingDigest 32 = .ok (.goto (-26), 3) := by decide +kernel
theorem dX9_thingDigest_35 : decode cX9_thingDigest 35 = .ok (.aload_n 0, 1) := by decide +kernel
theorem dX9_thingDigest_36 : decode cX9_thingDigest 36 = .ok (.lload 4, 2) := by decide +kernel
theorem dX9_thingDigest_38 : decode cX9_thingDigest 38 = .ok (.iconst 0, 1) := by decide +kernel
theorem dX9_thingDigest_39 : decode cX9_thingDigest 39 = .ok (.iload_n 3, 1) := by decide +kernel
theorem dX9_thingDigest_40 : decode cX9_thingDigest 40 = .ok (.invokevirtual 390, 3) := by decide +kernel
theorem dX9_thingDigest_43 : decode cX9_thingDigest 43 = .ok (.lstore 4, 2) := by decide +kernel
theorem dX9_thingDigest_45 : decode cX9_thingDigest 45 = .ok (.aload_n 0, 1) := by decide +kernel
theorem dX9_thingDigest_46 : decode cX9_thingDigest 46 = .ok (.lload 4, 2) := by decide +kernel
theorem dX9_thingDigest_48 : decode cX9_thingDigest 48 = .ok (.iconst 4, 1) := by decide +kernel
theorem dX9_thingDigest_49 : decode cX9_thingDigest 49 = .ok (.iload_n 3, 1) := by decide +kernel
theorem dX9_thingDigest_50 : decode cX9_thingDigest 50 = .ok (.invokevirtual 390, 3) := by decide +kernel
theorem dX9_thingDigest_53 : decode cX9_thingDigest 53 = .ok (.lstore 4, 2) := by decide +kernel
theorem dX9_thingDigest_55 : decode cX9_thingDigest 55 = .ok (.aload_n 0, 1) := by decide +kernel
theorem dX9_thingDigest_56 : decode cX9_thingDigest 56 = .ok (.lload 4, 2) := by decide +kernel
theorem dX9_thingDigest_58 : decode cX9_thingDigest 58 = .ok (.bipush 11, 2) := by decide +kernel
theorem dX9_thingDigest_60 : decode cX9_thingDigest 60 = .ok (.iload_n 3, 1) := by decide +kernel
theorem dX9_thingDigest_61 : decode cX9_thingDigest 61 = .ok (.invokevirtual 390, 3) := by decide +kernel
theorem dX9_thingDigest_64 : decode cX9_thingDigest 64 = .ok (.lstore 4, 2) := by decide +kernel
theorem dX9_thingDigest_66 : decode cX9_thingDigest 66 = .ok (.ldc2_w 388, 3) := by decide +kernel
theorem dX9_thingDigest_69 : decode cX9_thingDigest 69 = .ok (.lload 4, 2) := by decide +kernel
theorem dX9_thingDigest_71 : decode cX9_thingDigest 71 = .ok (.lmul, 1) := by decide +kernel
theorem dX9_thingDigest_72 : decode cX9_thingDigest 72 = .ok (.aload_n 0, 1) := by decide +kernel
theorem dX9_thingDigest_73 : decode cX9_thingDigest 73 = .ok (.iload_n 3, 1) := by decide +kernel
theorem dX9_thingDigest_74 : decode cX9_thingDigest 74 = .ok (.invokevirtual 279, 3) := by decide +kernel
theorem dX9_thingDigest_77 : decode cX9_thingDigest 77 = .ok (.i2l, 1) := by decide +kernel
theorem dX9_thingDigest_78 : decode cX9_thingDigest 78 = .ok (.ladd, 1) := by decide +kernel
theorem dX9_thingDigest_79 : decode cX9_thingDigest 79 = .ok (.lstore 4, 2) := by decide +kernel
theorem dX9_thingDigest_81 : decode cX9_thingDigest 81 = .ok (.ldc2_w 388, 3) := by decide +kernel
theorem dX9_thingDigest_84 : decode cX9_thingDigest 84 = .ok (.lload 4, 2) := by decide +kernel
theorem dX9_thingDigest_86 : decode cX9_thingDigest 86 = .ok (.lmul, 1) := by decide +kernel
theorem dX9_thingDigest_87 : decode cX9_thingDigest 87 = .ok (.aload_n 0, 1) := by decide +kernel
theorem dX9_thingDigest_88 : decode cX9_thingDigest 88 = .ok (.iload_n 3, 1) := by decide +kernel
theorem dX9_thingDigest_89 : decode cX9_thingDigest 89 = .ok (.invokevirtual 294, 3) := by decide +kernel
theorem dX9_thingDigest_92 : decode cX9_thingDigest 92 = .ok (.i2l, 1) := by decide +kernel
theorem dX9_thingDigest_93 : decode cX9_thingDigest 93 = .ok (.ladd, 1) := by decide +kernel
theorem dX9_thingDigest_94 : decode cX9_thingDigest 94 = .ok (.lstore 4, 2) := by decide +kernel
theorem dX9_thingDigest_96 : decode cX9_thingDigest 96 = .ok (.ldc2_w 388, 3) := by decide +kernel
theorem dX9_thingDigest_99 : decode cX9_thingDigest 99 = .ok (.lload 4, 2) := by decide +kernel
theorem dX9_thingDigest_101 : decode cX9_thingDigest 101 = .ok (.lmul, 1) := by decide +kernel
theorem dX9_thingDigest_102 : decode cX9_thingDigest 102 = .ok (.aload_n 0, 1) := by decide +kernel
theorem dX9_thingDigest_103 : decode cX9_thingDigest 103 = .ok (.iload_n 3, 1) := by decide +kernel
theorem dX9_thingDigest_104 : decode cX9_thingDigest 104 = .ok (.invokevirtual 349, 3) := by decide +kernel
theorem dX9_thingDigest_107 : decode cX9_thingDigest 107 = .ok (.i2l, 1) := by decide +kernel
theorem dX9_thingDigest_108 : decode cX9_thingDigest 108 = .ok (.ladd, 1) := by decide +kernel
theorem dX9_thingDigest_109 : decode cX9_thingDigest 109 = .ok (.lstore 4, 2) := by decide +kernel
theorem dX9_thingDigest_111 : decode cX9_thingDigest 111 = .ok (.ldc2_w 388, 3) := by decide +kernel
theorem dX9_thingDigest_114 : decode cX9_thingDigest 114 = .ok (.lload 4, 2) := by decide +kernel
theorem dX9_thingDigest_116 : decode cX9_thingDigest 116 = .ok (.lmul, 1) := by decide +kernel
theorem dX9_thingDigest_117 : decode cX9_thingDigest 117 = .ok (.aload_n 0, 1) := by decide +kernel
theorem dX9_thingDigest_118 : decode cX9_thingDigest 118 = .ok (.iload_n 3, 1) := by decide +kernel
theorem dX9_thingDigest_119 : decode cX9_thingDigest 119 = .ok (.invokevirtual 352, 3) := by decide +kernel
theorem dX9_thingDigest_122 : decode cX9_thingDigest 122 = .ok (.i2l, 1) := by decide +kernel
theorem dX9_thingDigest_123 : decode cX9_thingDigest 123 = .ok (.ladd, 1) := by decide +kernel
theorem dX9_thingDigest_124 : decode cX9_thingDigest 124 = .ok (.lstore 4, 2) := by decide +kernel
theorem dX9_thingDigest_126 : decode cX9_thingDigest 126 = .ok (.ldc2_w 388, 3) := by decide +kernel
theorem dX9_thingDigest_129 : decode cX9_thingDigest 129 = .ok (.lload 4, 2) := by decide +kernel
theorem dX9_thingDigest_131 : decode cX9_thingDigest 131 = .ok (.lmul, 1) := by decide +kernel
theorem dX9_thingDigest_132 : decode cX9_thingDigest 132 = .ok (.aload_n 0, 1) := by decide +kernel
theorem dX9_thingDigest_133 : decode cX9_thingDigest 133 = .ok (.iload_n 3, 1) := by decide +kernel
theorem dX9_thingDigest_134 : decode cX9_thingDigest 134 = .ok (.invokevirtual 355, 3) := by decide +kernel
theorem dX9_thingDigest_137 : decode cX9_thingDigest 137 = .ok (.i2l, 1) := by decide +kernel
theorem dX9_thingDigest_138 : decode cX9_thingDigest 138 = .ok (.ladd, 1) := by decide +kernel
theorem dX9_thingDigest_139 : decode cX9_thingDigest 139 = .ok (.lstore 4, 2) := by decide +kernel
theorem dX9_thingDigest_141 : decode cX9_thingDigest 141 = .ok (.ldc2_w 388, 3) := by decide +kernel
theorem dX9_thingDigest_144 : decode cX9_thingDigest 144 = .ok (.lload 4, 2) := by decide +kernel
theorem dX9_thingDigest_146 : decode cX9_thingDigest 146 = .ok (.lmul, 1) := by decide +kernel
theorem dX9_thingDigest_147 : decode cX9_thingDigest 147 = .ok (.aload_n 0, 1) := by decide +kernel
theorem dX9_thingDigest_148 : decode cX9_thingDigest 148 = .ok (.iconst 5, 1) := by decide +kernel
theorem dX9_thingDigest_149 : decode cX9_thingDigest 149 = .ok (.iload_n 3, 1) := by decide +kernel
theorem dX9_thingDigest_150 : decode cX9_thingDigest 150 = .ok (.iconst 0, 1) := by decide +kernel
theorem dX9_thingDigest_151 : decode cX9_thingDigest 151 = .ok (.invokevirtual 362, 3) := by decide +kernel
theorem dX9_thingDigest_154 : decode cX9_thingDigest 154 = .ok (.ladd, 1) := by decide +kernel
theorem dX9_thingDigest_155 : decode cX9_thingDigest 155 = .ok (.lstore 4, 2) := by decide +kernel
theorem dX9_thingDigest_157 : decode cX9_thingDigest 157 = .ok (.ldc2_w 388, 3) := by decide +kernel
theorem dX9_thingDigest_160 : decode cX9_thingDigest 160 = .ok (.lload 4, 2) := by decide +kernel
theorem dX9_thingDigest_162 : decode cX9_thingDigest 162 = .ok (.lmul, 1) := by decide +kernel
theorem dX9_thingDigest_163 : decode cX9_thingDigest 163 = .ok (.aload_n 0, 1) := by decide +kernel
theorem dX9_thingDigest_164 : decode cX9_thingDigest 164 = .ok (.iconst 5, 1) := by decide +kernel
theorem dX9_thingDigest_165 : decode cX9_thingDigest 165 = .ok (.iload_n 3, 1) := by decide +kernel
theorem dX9_thingDigest_166 : decode cX9_thingDigest 166 = .ok (.iconst 1, 1) := by decide +kernel
theorem dX9_thingDigest_167 : decode cX9_thingDigest 167 = .ok (.invokevirtual 362, 3) := by decide +kernel
theorem dX9_thingDigest_170 : decode cX9_thingDigest 170 = .ok (.ladd, 1) := by decide +kernel
theorem dX9_thingDigest_171 : decode cX9_thingDigest 171 = .ok (.lreturn, 1) := by decide +kernel
theorem dX9_digest_0 : decode cX9_digest 0 = .ok (.ldc2_w 394, 3) := by decide +kernel
theorem dX9_digest_3 : decode cX9_digest 3 = .ok (.lstore_n 1, 1) := by decide +kernel
theorem dX9_digest_4 : decode cX9_digest 4 = .ok (.iconst 0, 1) := by decide +kernel
theorem dX9_digest_5 : decode cX9_digest 5 = .ok (.istore_n 3, 1) := by decide +kernel
theorem dX9_digest_6 : decode cX9_digest 6 = .ok (.iload_n 3, 1) := by decide +kernel
theorem dX9_digest_7 : decode cX9_digest 7 = .ok (.bipush 8, 2) := by decide +kernel
theorem dX9_digest_9 : decode cX9_digest 9 = .ok (.if_icmp .ge 22, 3) := by decide +kernel
theorem dX9_digest_12 : decode cX9_digest 12 = .ok (.ldc2_w 388, 3) := by decide +kernel
theorem dX9_digest_15 : decode cX9_digest 15 = .ok (.lload_n 1, 1) := by decide +kernel
theorem dX9_digest_16 : decode cX9_digest 16 = .ok (.lmul, 1) := by decide +kernel
theorem dX9_digest_17 : decode cX9_digest 17 = .ok (.aload_n 0, 1) := by decide +kernel
theorem dX9_digest_18 : decode cX9_digest 18 = .ok (.iload_n 3, 1) := by decide +kernel
theorem dX9_digest_19 : decode cX9_digest 19 = .ok (.invokevirtual 396, 3) := by decide +kernel
theorem dX9_digest_22 : decode cX9_digest 22 = .ok (.i2l, 1) := by decide +kernel
theorem dX9_digest_23 : decode cX9_digest 23 = .ok (.ladd, 1) := by decide +kernel
theorem dX9_digest_24 : decode cX9_digest 24 = .ok (.lstore_n 1, 1) := by decide +kernel
theorem dX9_digest_25 : decode cX9_digest 25 = .ok (.iinc 3 1, 3) := by decide +kernel
theorem dX9_digest_28 : decode cX9_digest 28 = .ok (.goto (-22), 3) := by decide +kernel
theorem dX9_digest_31 : decode cX9_digest 31 = .ok (.ldc2_w 388, 3) := by decide +kernel
theorem dX9_digest_34 : decode cX9_digest 34 = .ok (.lload_n 1, 1) := by decide +kernel
theorem dX9_digest_35 : decode cX9_digest 35 = .ok (.lmul, 1) := by decide +kernel
theorem dX9_digest_36 : decode cX9_digest 36 = .ok (.aload_n 0, 1) := by decide +kernel
theorem dX9_digest_37 : decode cX9_digest 37 = .ok (.iconst 0, 1) := by decide +kernel
theorem dX9_digest_38 : decode cX9_digest 38 = .ok (.invokevirtual 138, 3) := by decide +kernel
theorem dX9_digest_41 : decode cX9_digest 41 = .ok (.i2l, 1) := by decide +kernel
theorem dX9_digest_42 : decode cX9_digest 42 = .ok (.ladd, 1) := by decide +kernel
theorem dX9_digest_43 : decode cX9_digest 43 = .ok (.lstore_n 1, 1) := by decide +kernel
theorem dX9_digest_44 : decode cX9_digest 44 = .ok (.ldc2_w 388, 3) := by decide +kernel
theorem dX9_digest_47 : decode cX9_digest 47 = .ok (.lload_n 1, 1) := by decide +kernel
theorem dX9_digest_48 : decode cX9_digest 48 = .ok (.lmul, 1) := by decide +kernel
theorem dX9_digest_49 : decode cX9_digest 49 = .ok (.aload_n 0, 1) := by decide +kernel
theorem dX9_digest_50 : decode cX9_digest 50 = .ok (.iconst 1, 1) := by decide +kernel
theorem dX9_digest_51 : decode cX9_digest 51 = .ok (.invokevirtual 138, 3) := by decide +kernel
theorem dX9_digest_54 : decode cX9_digest 54 = .ok (.i2l, 1) := by decide +kernel
theorem dX9_digest_55 : decode cX9_digest 55 = .ok (.ladd, 1) := by decide +kernel
theorem dX9_digest_56 : decode cX9_digest 56 = .ok (.lstore_n 1, 1) := by decide +kernel
theorem dX9_digest_57 : decode cX9_digest 57 = .ok (.iconst 0, 1) := by decide +kernel
theorem dX9_digest_58 : decode cX9_digest 58 = .ok (.istore_n 3, 1) := by decide +kernel
theorem dX9_digest_59 : decode cX9_digest 59 = .ok (.iload_n 3, 1) := by decide +kernel
theorem dX9_digest_60 : decode cX9_digest 60 = .ok (.aload_n 0, 1) := by decide +kernel
theorem dX9_digest_61 : decode cX9_digest 61 = .ok (.getfield 117, 3) := by decide +kernel
theorem dX9_digest_64 : decode cX9_digest 64 = .ok (.if_icmp .ge 66, 3) := by decide +kernel
theorem dX9_digest_67 : decode cX9_digest 67 = .ok (.ldc2_w 388, 3) := by decide +kernel
theorem dX9_digest_70 : decode cX9_digest 70 = .ok (.lload_n 1, 1) := by decide +kernel
theorem dX9_digest_71 : decode cX9_digest 71 = .ok (.lmul, 1) := by decide +kernel
theorem dX9_digest_72 : decode cX9_digest 72 = .ok (.aload_n 0, 1) := by decide +kernel
theorem dX9_digest_73 : decode cX9_digest 73 = .ok (.getfield 16, 3) := by decide +kernel
theorem dX9_digest_76 : decode cX9_digest 76 = .ok (.iload_n 3, 1) := by decide +kernel
theorem dX9_digest_77 : decode cX9_digest 77 = .ok (.iaload, 1) := by decide +kernel
theorem dX9_digest_78 : decode cX9_digest 78 = .ok (.i2l, 1) := by decide +kernel
theorem dX9_digest_79 : decode cX9_digest 79 = .ok (.ladd, 1) := by decide +kernel
theorem dX9_digest_80 : decode cX9_digest 80 = .ok (.lstore_n 1, 1) := by decide +kernel
theorem dX9_digest_81 : decode cX9_digest 81 = .ok (.ldc2_w 388, 3) := by decide +kernel
theorem dX9_digest_84 : decode cX9_digest 84 = .ok (.lload_n 1, 1) := by decide +kernel
theorem dX9_digest_85 : decode cX9_digest 85 = .ok (.lmul, 1) := by decide +kernel
theorem dX9_digest_86 : decode cX9_digest 86 = .ok (.aload_n 0, 1) := by decide +kernel
theorem dX9_digest_87 : decode cX9_digest 87 = .ok (.iconst 0, 1) := by decide +kernel
theorem dX9_digest_88 : decode cX9_digest 88 = .ok (.iload_n 3, 1) := by decide +kernel
theorem dX9_digest_89 : decode cX9_digest 89 = .ok (.invokevirtual 273, 3) := by decide +kernel
theorem dX9_digest_92 : decode cX9_digest 92 = .ok (.i2l, 1) := by decide +kernel
theorem dX9_digest_93 : decode cX9_digest 93 = .ok (.ladd, 1) := by decide +kernel
theorem dX9_digest_94 : decode cX9_digest 94 = .ok (.lstore_n 1, 1) := by decide +kernel
theorem dX9_digest_95 : decode cX9_digest 95 = .ok (.ldc2_w 388, 3) := by decide +kernel
theorem dX9_digest_98 : decode cX9_digest 98 = .ok (.lload_n 1, 1) := by decide +kernel
theorem dX9_digest_99 : decode cX9_digest 99 = .ok (.lmul, 1) := by decide +kernel
theorem dX9_digest_100 : decode cX9_digest 100 = .ok (.aload_n 0, 1) := by decide +kernel
theorem dX9_digest_101 : decode cX9_digest 101 = .ok (.iconst 3, 1) := by decide +kernel
theorem dX9_digest_102 : decode cX9_digest 102 = .ok (.iload_n 3, 1) := by decide +kernel
theorem dX9_digest_103 : decode cX9_digest 103 = .ok (.invokevirtual 273, 3) := by decide +kernel
theorem dX9_digest_106 : decode cX9_digest 106 = .ok (.i2l, 1) := by decide +kernel
theorem dX9_digest_107 : decode cX9_digest 107 = .ok (.ladd, 1) := by decide +kernel
theorem dX9_digest_108 : decode cX9_digest 108 = .ok (.lstore_n 1, 1) := by decide +kernel
theorem dX9_digest_109 : decode cX9_digest 109 = .ok (.ldc2_w 388, 3) := by decide +kernel
theorem dX9_digest_112 : decode cX9_digest 112 = .ok (.lload_n 1, 1) := by decide +kernel
theorem dX9_digest_113 : decode cX9_digest 113 = .ok (.lmul, 1) := by decide +kernel
theorem dX9_digest_114 : decode cX9_digest 114 = .ok (.aload_n 0, 1) := by decide +kernel
theorem dX9_digest_115 : decode cX9_digest 115 = .ok (.bipush 11, 2) := by decide +kernel
theorem dX9_digest_117 : decode cX9_digest 117 = .ok (.iload_n 3, 1) := by decide +kernel
theorem dX9_digest_118 : decode cX9_digest 118 = .ok (.invokevirtual 273, 3) := by decide +kernel
theorem dX9_digest_121 : decode cX9_digest 121 = .ok (.i2l, 1) := by decide +kernel
theorem dX9_digest_122 : decode cX9_digest 122 = .ok (.ladd, 1) := by decide +kernel
theorem dX9_digest_123 : decode cX9_digest 123 = .ok (.lstore_n 1, 1) := by decide +kernel
theorem dX9_digest_124 : decode cX9_digest 124 = .ok (.iinc 3 1, 3) := by decide +kernel
theorem dX9_digest_127 : decode cX9_digest 127 = .ok (.goto (-68), 3) := by decide +kernel
theorem dX9_digest_130 : decode cX9_digest 130 = .ok (.iconst 0, 1) := by decide +kernel
theorem dX9_digest_131 : decode cX9_digest 131 = .ok (.istore_n 3, 1) := by decide +kernel
theorem dX9_digest_132 : decode cX9_digest 132 = .ok (.iload_n 3, 1) := by decide +kernel
theorem dX9_digest_133 : decode cX9_digest 133 = .ok (.bipush 12, 2) := by decide +kernel
theorem dX9_digest_135 : decode cX9_digest 135 = .ok (.if_icmp .ge 69, 3) := by decide +kernel
theorem dX9_digest_138 : decode cX9_digest 138 = .ok (.iconst 0, 1) := by decide +kernel
theorem dX9_digest_139 : decode cX9_digest 139 = .ok (.istore 4, 2) := by decide +kernel
theorem dX9_digest_141 : decode cX9_digest 141 = .ok (.iload 4, 2) := by decide +kernel
theorem dX9_digest_143 : decode cX9_digest 143 = .ok (.iconst 4, 1) := by decide +kernel
theorem dX9_digest_144 : decode cX9_digest 144 = .ok (.if_icmp .ge 24, 3) := by decide +kernel
theorem dX9_digest_147 : decode cX9_digest 147 = .ok (.ldc2_w 388, 3) := by decide +kernel
theorem dX9_digest_150 : decode cX9_digest 150 = .ok (.lload_n 1, 1) := by decide +kernel
theorem dX9_digest_151 : decode cX9_digest 151 = .ok (.lmul, 1) := by decide +kernel
theorem dX9_digest_152 : decode cX9_digest 152 = .ok (.aload_n 0, 1) := by decide +kernel
theorem dX9_digest_153 : decode cX9_digest 153 = .ok (.iload_n 3, 1) := by decide +kernel
theorem dX9_digest_154 : decode cX9_digest 154 = .ok (.iload 4, 2) := by decide +kernel
theorem dX9_digest_156 : decode cX9_digest 156 = .ok (.invokevirtual 276, 3) := by decide +kernel
theorem dX9_digest_159 : decode cX9_digest 159 = .ok (.i2l, 1) := by decide +kernel
theorem dX9_digest_160 : decode cX9_digest 160 = .ok (.ladd, 1) := by decide +kernel
theorem dX9_digest_161 : decode cX9_digest 161 = .ok (.lstore_n 1, 1) := by decide +kernel
theorem dX9_digest_162 : decode cX9_digest 162 = .ok (.iinc 4 1, 3) := by decide +kernel
theorem dX9_digest_165 : decode cX9_digest 165 = .ok (.goto (-24), 3) := by decide +kernel
theorem dX9_digest_168 : decode cX9_digest 168 = .ok (.iconst 0, 1) := by decide +kernel
theorem dX9_digest_169 : decode cX9_digest 169 = .ok (.istore 4, 2) := by decide +kernel
theorem dX9_digest_171 : decode cX9_digest 171 = .ok (.iload 4, 2) := by decide +kernel
theorem dX9_digest_173 : decode cX9_digest 173 = .ok (.iconst 3, 1) := by decide +kernel
theorem dX9_digest_174 : decode cX9_digest 174 = .ok (.if_icmp .ge 24, 3) := by decide +kernel
theorem dX9_digest_177 : decode cX9_digest 177 = .ok (.ldc2_w 388, 3) := by decide +kernel
theorem dX9_digest_180 : decode cX9_digest 180 = .ok (.lload_n 1, 1) := by decide +kernel
theorem dX9_digest_181 : decode cX9_digest 181 = .ok (.lmul, 1) := by decide +kernel
theorem dX9_digest_182 : decode cX9_digest 182 = .ok (.aload_n 0, 1) := by decide +kernel
theorem dX9_digest_183 : decode cX9_digest 183 = .ok (.iload_n 3, 1) := by decide +kernel
theorem dX9_digest_184 : decode cX9_digest 184 = .ok (.iload 4, 2) := by decide +kernel
theorem dX9_digest_186 : decode cX9_digest 186 = .ok (.invokevirtual 327, 3) := by decide +kernel
theorem dX9_digest_189 : decode cX9_digest 189 = .ok (.i2l, 1) := by decide +kernel
theorem dX9_digest_190 : decode cX9_digest 190 = .ok (.ladd, 1) := by decide +kernel
theorem dX9_digest_191 : decode cX9_digest 191 = .ok (.lstore_n 1, 1) := by decide +kernel
theorem dX9_digest_192 : decode cX9_digest 192 = .ok (.iinc 4 1, 3) := by decide +kernel
theorem dX9_digest_195 : decode cX9_digest 195 = .ok (.goto (-24), 3) := by decide +kernel
theorem dX9_digest_198 : decode cX9_digest 198 = .ok (.iinc 3 1, 3) := by decide +kernel
theorem dX9_digest_201 : decode cX9_digest 201 = .ok (.goto (-69), 3) := by decide +kernel
theorem dX9_digest_204 : decode cX9_digest 204 = .ok (.iconst 0, 1) := by decide +kernel
theorem dX9_digest_205 : decode cX9_digest 205 = .ok (.istore_n 3, 1) := by decide +kernel
theorem dX9_digest_206 : decode cX9_digest 206 = .ok (.iload_n 3, 1) := by decide +kernel
theorem dX9_digest_207 : decode cX9_digest 207 = .ok (.aload_n 0, 1) := by decide +kernel
theorem dX9_digest_208 : decode cX9_digest 208 = .ok (.getfield 125, 3) := by decide +kernel
theorem dX9_digest_211 : decode cX9_digest 211 = .ok (.if_icmp .ge 16, 3) := by decide +kernel
theorem dX9_digest_214 : decode cX9_digest 214 = .ok (.aload_n 0, 1) := by decide +kernel
theorem dX9_digest_215 : decode cX9_digest 215 = .ok (.lload_n 1, 1) := by decide +kernel
theorem dX9_digest_216 : decode cX9_digest 216 = .ok (.iload_n 3, 1) := by decide +kernel
theorem dX9_digest_217 : decode cX9_digest 217 = .ok (.invokevirtual 399, 3) := by decide +kernel
theorem dX9_digest_220 : decode cX9_digest 220 = .ok (.lstore_n 1, 1) := by decide +kernel
theorem dX9_digest_221 : decode cX9_digest 221 = .ok (.iinc 3 1, 3) := by decide +kernel
theorem dX9_digest_224 : decode cX9_digest 224 = .ok (.goto (-18), 3) := by decide +kernel
theorem dX9_digest_227 : decode cX9_digest 227 = .ok (.iconst 0, 1) := by decide +kernel
theorem dX9_digest_228 : decode cX9_digest 228 = .ok (.istore_n 3, 1) := by decide +kernel
theorem dX9_digest_229 : decode cX9_digest 229 = .ok (.iload_n 3, 1) := by decide +kernel
theorem dX9_digest_230 : decode cX9_digest 230 = .ok (.iconst 4, 1) := by decide +kernel
theorem dX9_digest_231 : decode cX9_digest 231 = .ok (.if_icmp .ge 22, 3) := by decide +kernel
theorem dX9_digest_234 : decode cX9_digest 234 = .ok (.ldc2_w 388, 3) := by decide +kernel
theorem dX9_digest_237 : decode cX9_digest 237 = .ok (.lload_n 1, 1) := by decide +kernel
theorem dX9_digest_238 : decode cX9_digest 238 = .ok (.lmul, 1) := by decide +kernel
theorem dX9_digest_239 : decode cX9_digest 239 = .ok (.aload_n 0, 1) := by decide +kernel
theorem dX9_digest_240 : decode cX9_digest 240 = .ok (.iload_n 3, 1) := by decide +kernel
theorem dX9_digest_241 : decode cX9_digest 241 = .ok (.invokevirtual 285, 3) := by decide +kernel
theorem dX9_digest_244 : decode cX9_digest 244 = .ok (.i2l, 1) := by decide +kernel
theorem dX9_digest_245 : decode cX9_digest 245 = .ok (.ladd, 1) := by decide +kernel
theorem dX9_digest_246 : decode cX9_digest 246 = .ok (.lstore_n 1, 1) := by decide +kernel
theorem dX9_digest_247 : decode cX9_digest 247 = .ok (.iinc 3 1, 3) := by decide +kernel
theorem dX9_digest_250 : decode cX9_digest 250 = .ok (.goto (-21), 3) := by decide +kernel
theorem dX9_digest_253 : decode cX9_digest 253 = .ok (.ldc2_w 388, 3) := by decide +kernel
theorem dX9_digest_256 : decode cX9_digest 256 = .ok (.lload_n 1, 1) := by decide +kernel
theorem dX9_digest_257 : decode cX9_digest 257 = .ok (.lmul, 1) := by decide +kernel
theorem dX9_digest_258 : decode cX9_digest 258 = .ok (.aload_n 0, 1) := by decide +kernel
theorem dX9_digest_259 : decode cX9_digest 259 = .ok (.invokevirtual 288, 3) := by decide +kernel
theorem dX9_digest_262 : decode cX9_digest 262 = .ok (.i2l, 1) := by decide +kernel
theorem dX9_digest_263 : decode cX9_digest 263 = .ok (.ladd, 1) := by decide +kernel
theorem dX9_digest_264 : decode cX9_digest 264 = .ok (.lstore_n 1, 1) := by decide +kernel
theorem dX9_digest_265 : decode cX9_digest 265 = .ok (.ldc2_w 388, 3) := by decide +kernel
theorem dX9_digest_268 : decode cX9_digest 268 = .ok (.lload_n 1, 1) := by decide +kernel
theorem dX9_digest_269 : decode cX9_digest 269 = .ok (.lmul, 1) := by decide +kernel
theorem dX9_digest_270 : decode cX9_digest 270 = .ok (.aload_n 0, 1) := by decide +kernel
theorem dX9_digest_271 : decode cX9_digest 271 = .ok (.invokevirtual 291, 3) := by decide +kernel
theorem dX9_digest_274 : decode cX9_digest 274 = .ok (.i2l, 1) := by decide +kernel
theorem dX9_digest_275 : decode cX9_digest 275 = .ok (.ladd, 1) := by decide +kernel
theorem dX9_digest_276 : decode cX9_digest 276 = .ok (.lstore_n 1, 1) := by decide +kernel
theorem dX9_digest_277 : decode cX9_digest 277 = .ok (.ldc2_w 388, 3) := by decide +kernel
theorem dX9_digest_280 : decode cX9_digest 280 = .ok (.lload_n 1, 1) := by decide +kernel
theorem dX9_digest_281 : decode cX9_digest 281 = .ok (.lmul, 1) := by decide +kernel
theorem dX9_digest_282 : decode cX9_digest 282 = .ok (.aload_n 0, 1) := by decide +kernel
theorem dX9_digest_283 : decode cX9_digest 283 = .ok (.invokevirtual 297, 3) := by decide +kernel
theorem dX9_digest_286 : decode cX9_digest 286 = .ok (.i2l, 1) := by decide +kernel
theorem dX9_digest_287 : decode cX9_digest 287 = .ok (.ladd, 1) := by decide +kernel
theorem dX9_digest_288 : decode cX9_digest 288 = .ok (.lstore_n 1, 1) := by decide +kernel
theorem dX9_digest_289 : decode cX9_digest 289 = .ok (.iconst 0, 1) := by decide +kernel
theorem dX9_digest_290 : decode cX9_digest 290 = .ok (.istore_n 3, 1) := by decide +kernel
theorem dX9_digest_291 : decode cX9_digest 291 = .ok (.iload_n 3, 1) := by decide +kernel
theorem dX9_digest_292 : decode cX9_digest 292 = .ok (.iconst 4, 1) := by decide +kernel
theorem dX9_digest_293 : decode cX9_digest 293 = .ok (.if_icmp .ge 22, 3) := by decide +kernel
theorem dX9_digest_296 : decode cX9_digest 296 = .ok (.ldc2_w 388, 3) := by decide +kernel
theorem dX9_digest_299 : decode cX9_digest 299 = .ok (.lload_n 1, 1) := by decide +kernel
theorem dX9_digest_300 : decode cX9_digest 300 = .ok (.lmul, 1) := by decide +kernel
theorem dX9_digest_301 : decode cX9_digest 301 = .ok (.aload_n 0, 1) := by decide +kernel
theorem dX9_digest_302 : decode cX9_digest 302 = .ok (.iload_n 3, 1) := by decide +kernel
theorem dX9_digest_303 : decode cX9_digest 303 = .ok (.invokevirtual 318, 3) := by decide +kernel
theorem dX9_digest_306 : decode cX9_digest 306 = .ok (.i2l, 1) := by decide +kernel
theorem dX9_digest_307 : decode cX9_digest 307 = .ok (.ladd, 1) := by decide +kernel
theorem dX9_digest_308 : decode cX9_digest 308 = .ok (.lstore_n 1, 1) := by decide +kernel
theorem dX9_digest_309 : decode cX9_digest 309 = .ok (.iinc 3 1, 3) := by decide +kernel
theorem dX9_digest_312 : decode cX9_digest 312 = .ok (.goto (-21), 3) := by decide +kernel
theorem dX9_digest_315 : decode cX9_digest 315 = .ok (.ldc2_w 388, 3) := by decide +kernel
theorem dX9_digest_318 : decode cX9_digest 318 = .ok (.lload_n 1, 1) := by decide +kernel
theorem dX9_digest_319 : decode cX9_digest 319 = .ok (.lmul, 1) := by decide +kernel
theorem dX9_digest_320 : decode cX9_digest 320 = .ok (.aload_n 0, 1) := by decide +kernel
theorem dX9_digest_321 : decode cX9_digest 321 = .ok (.invokevirtual 321, 3) := by decide +kernel
theorem dX9_digest_324 : decode cX9_digest 324 = .ok (.i2l, 1) := by decide +kernel
theorem dX9_digest_325 : decode cX9_digest 325 = .ok (.ladd, 1) := by decide +kernel
theorem dX9_digest_326 : decode cX9_digest 326 = .ok (.lstore_n 1, 1) := by decide +kernel
theorem dX9_digest_327 : decode cX9_digest 327 = .ok (.aload_n 0, 1) := by decide +kernel
theorem dX9_digest_328 : decode cX9_digest 328 = .ok (.invokevirtual 333, 3) := by decide +kernel
theorem dX9_digest_331 : decode cX9_digest 331 = .ok (.istore_n 3, 1) := by decide +kernel
theorem dX9_digest_332 : decode cX9_digest 332 = .ok (.ldc2_w 388, 3) := by decide +kernel
theorem dX9_digest_335 : decode cX9_digest 335 = .ok (.lload_n 1, 1) := by decide +kernel
theorem dX9_digest_336 : decode cX9_digest 336 = .ok (.lmul, 1) := by decide +kernel
theorem dX9_digest_337 : decode cX9_digest 337 = .ok (.iload_n 3, 1) := by decide +kernel
theorem dX9_digest_338 : decode cX9_digest 338 = .ok (.i2l, 1) := by decide +kernel
theorem dX9_digest_339 : decode cX9_digest 339 = .ok (.ladd, 1) := by decide +kernel
theorem dX9_digest_340 : decode cX9_digest 340 = .ok (.lstore_n 1, 1) := by decide +kernel
theorem dX9_digest_341 : decode cX9_digest 341 = .ok (.ldc2_w 388, 3) := by decide +kernel
theorem dX9_digest_344 : decode cX9_digest 344 = .ok (.lload_n 1, 1) := by decide +kernel
theorem dX9_digest_345 : decode cX9_digest 345 = .ok (.lmul, 1) := by decide +kernel
theorem dX9_digest_346 : decode cX9_digest 346 = .ok (.aload_n 0, 1) := by decide +kernel
theorem dX9_digest_347 : decode cX9_digest 347 = .ok (.iload_n 3, 1) := by decide +kernel
theorem dX9_digest_348 : decode cX9_digest 348 = .ok (.iconst 0, 1) := by decide +kernel
theorem dX9_digest_349 : decode cX9_digest 349 = .ok (.invokevirtual 336, 3) := by decide +kernel
theorem dX9_digest_352 : decode cX9_digest 352 = .ok (.i2l, 1) := by decide +kernel
theorem dX9_digest_353 : decode cX9_digest 353 = .ok (.ladd, 1) := by decide +kernel
theorem dX9_digest_354 : decode cX9_digest 354 = .ok (.lstore_n 1, 1) := by decide +kernel
theorem dX9_digest_355 : decode cX9_digest 355 = .ok (.ldc2_w 388, 3) := by decide +kernel
theorem dX9_digest_358 : decode cX9_digest 358 = .ok (.lload_n 1, 1) := by decide +kernel
theorem dX9_digest_359 : decode cX9_digest 359 = .ok (.lmul, 1) := by decide +kernel
theorem dX9_digest_360 : decode cX9_digest 360 = .ok (.aload_n 0, 1) := by decide +kernel
theorem dX9_digest_361 : decode cX9_digest 361 = .ok (.invokevirtual 346, 3) := by decide +kernel
theorem dX9_digest_364 : decode cX9_digest 364 = .ok (.i2l, 1) := by decide +kernel
theorem dX9_digest_365 : decode cX9_digest 365 = .ok (.ladd, 1) := by decide +kernel
theorem dX9_digest_366 : decode cX9_digest 366 = .ok (.lstore_n 1, 1) := by decide +kernel
theorem dX9_digest_367 : decode cX9_digest 367 = .ok (.ldc2_w 388, 3) := by decide +kernel
theorem dX9_digest_370 : decode cX9_digest 370 = .ok (.lload_n 1, 1) := by decide +kernel
theorem dX9_digest_371 : decode cX9_digest 371 = .ok (.lmul, 1) := by decide +kernel
theorem dX9_digest_372 : decode cX9_digest 372 = .ok (.aload_n 0, 1) := by decide +kernel
theorem dX9_digest_373 : decode cX9_digest 373 = .ok (.bipush 7, 2) := by decide +kernel
theorem dX9_digest_375 : decode cX9_digest 375 = .ok (.bipush 6, 2) := by decide +kernel
theorem dX9_digest_377 : decode cX9_digest 377 = .ok (.iconst 0, 1) := by decide +kernel
theorem dX9_digest_378 : decode cX9_digest 378 = .ok (.invokevirtual 371, 3) := by decide +kernel
theorem dX9_digest_381 : decode cX9_digest 381 = .ok (.i2l, 1) := by decide +kernel
theorem dX9_digest_382 : decode cX9_digest 382 = .ok (.ladd, 1) := by decide +kernel
theorem dX9_digest_383 : decode cX9_digest 383 = .ok (.lstore_n 1, 1) := by decide +kernel
theorem dX9_digest_384 : decode cX9_digest 384 = .ok (.ldc2_w 388, 3) := by decide +kernel
theorem dX9_digest_387 : decode cX9_digest 387 = .ok (.lload_n 1, 1) := by decide +kernel
theorem dX9_digest_388 : decode cX9_digest 388 = .ok (.lmul, 1) := by decide +kernel
theorem dX9_digest_389 : decode cX9_digest 389 = .ok (.aload_n 0, 1) := by decide +kernel
theorem dX9_digest_390 : decode cX9_digest 390 = .ok (.bipush 7, 2) := by decide +kernel
theorem dX9_digest_392 : decode cX9_digest 392 = .ok (.bipush 6, 2) := by decide +kernel
theorem dX9_digest_394 : decode cX9_digest 394 = .ok (.iconst 1, 1) := by decide +kernel
theorem dX9_digest_395 : decode cX9_digest 395 = .ok (.invokevirtual 371, 3) := by decide +kernel
theorem dX9_digest_398 : decode cX9_digest 398 = .ok (.i2l, 1) := by decide +kernel
theorem dX9_digest_399 : decode cX9_digest 399 = .ok (.ladd, 1) := by decide +kernel
theorem dX9_digest_400 : decode cX9_digest 400 = .ok (.lreturn, 1) := by decide +kernel
end
