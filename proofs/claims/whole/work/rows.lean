section
-- ===== PART A: goes FIRST, ahead of the names: the tables' words, and 'selects' of the private methods out of them =====
/-- a private method of a class that the tables say can be made, by its rows of tables_1 -/
def lw_okq (q : MethodName × Nat) : Prop := (q.1.cls ≠ "java/lang/invoke/MethodHandle" ∧ q.1.cls ≠ "java/lang/invoke/VarHandle") ∧ Cond.instantiable q.1.cls q.2 ∈ tables_1 ∧ Cond.privateMethod q.1 ∈ tables_1 ∧ Cond.instanceMethod q.1 ∈ tables_1
theorem lw_p0 : lw_okq (⟨"BackHooks", "textOf", "(I)LBackHooks$Text;"⟩, 16) := ⟨⟨by decide +kernel, by decide +kernel⟩, List.mem_of_getElem? (i := 15) (by decide +kernel), List.mem_of_getElem? (i := 298) (by decide +kernel), List.mem_of_getElem? (i := 299) (by decide +kernel)⟩
theorem lw_p1 : lw_okq (⟨"BackHooks", "noteChange", "()V"⟩, 16) := ⟨⟨by decide +kernel, by decide +kernel⟩, List.mem_of_getElem? (i := 15) (by decide +kernel), List.mem_of_getElem? (i := 302) (by decide +kernel), List.mem_of_getElem? (i := 303) (by decide +kernel)⟩
theorem lw_p2 : lw_okq (⟨"BackHooks", "refresh", "()V"⟩, 16) := ⟨⟨by decide +kernel, by decide +kernel⟩, List.mem_of_getElem? (i := 15) (by decide +kernel), List.mem_of_getElem? (i := 339) (by decide +kernel), List.mem_of_getElem? (i := 340) (by decide +kernel)⟩
theorem lw_p3 : lw_okq (⟨"BackHooks", "allEvents", "()I"⟩, 16) := ⟨⟨by decide +kernel, by decide +kernel⟩, List.mem_of_getElem? (i := 15) (by decide +kernel), List.mem_of_getElem? (i := 355) (by decide +kernel), List.mem_of_getElem? (i := 356) (by decide +kernel)⟩
theorem lw_p4 : lw_okq (⟨"BackHooks$Setting", "takeEvent", "(III)V"⟩, 8) := ⟨⟨by decide +kernel, by decide +kernel⟩, List.mem_of_getElem? (i := 77) (by decide +kernel), List.mem_of_getElem? (i := 366) (by decide +kernel), List.mem_of_getElem? (i := 367) (by decide +kernel)⟩
theorem lw_p5 : lw_okq (⟨"BackHooks$Course", "begin", "(LBackHooks$Setting;)V"⟩, 12) := ⟨⟨by decide +kernel, by decide +kernel⟩, List.mem_of_getElem? (i := 123) (by decide +kernel), List.mem_of_getElem? (i := 374) (by decide +kernel), List.mem_of_getElem? (i := 375) (by decide +kernel)⟩
theorem lw_p6 : lw_okq (⟨"BackHooks$Course", "heatUp", "(I)V"⟩, 12) := ⟨⟨by decide +kernel, by decide +kernel⟩, List.mem_of_getElem? (i := 123) (by decide +kernel), List.mem_of_getElem? (i := 382) (by decide +kernel), List.mem_of_getElem? (i := 383) (by decide +kernel)⟩
theorem lw_p7 : lw_okq (⟨"BackHooks$Course", "doHooks", "(LBackHooks$Setting;I)V"⟩, 12) := ⟨⟨by decide +kernel, by decide +kernel⟩, List.mem_of_getElem? (i := 123) (by decide +kernel), List.mem_of_getElem? (i := 386) (by decide +kernel), List.mem_of_getElem? (i := 387) (by decide +kernel)⟩
theorem lw_p8 : lw_okq (⟨"BackHooks$Course", "doHook", "(LBackHooks$Setting;IIIZ)V"⟩, 12) := ⟨⟨by decide +kernel, by decide +kernel⟩, List.mem_of_getElem? (i := 123) (by decide +kernel), List.mem_of_getElem? (i := 393) (by decide +kernel), List.mem_of_getElem? (i := 394) (by decide +kernel)⟩
theorem lw_p9 : lw_okq (⟨"BackHooks$Course", "whatIsSaid", "(LBackHooks$Setting;I)I"⟩, 12) := ⟨⟨by decide +kernel, by decide +kernel⟩, List.mem_of_getElem? (i := 123) (by decide +kernel), List.mem_of_getElem? (i := 397) (by decide +kernel), List.mem_of_getElem? (i := 398) (by decide +kernel)⟩
theorem lw_p10 : lw_okq (⟨"BackHooks$Course", "soften", "(IIIZ)V"⟩, 12) := ⟨⟨by decide +kernel, by decide +kernel⟩, List.mem_of_getElem? (i := 123) (by decide +kernel), List.mem_of_getElem? (i := 401) (by decide +kernel), List.mem_of_getElem? (i := 402) (by decide +kernel)⟩
theorem lw_p11 : lw_okq (⟨"BackHooks", "isHook", "(I)Z"⟩, 16) := ⟨⟨by decide +kernel, by decide +kernel⟩, List.mem_of_getElem? (i := 15) (by decide +kernel), List.mem_of_getElem? (i := 405) (by decide +kernel), List.mem_of_getElem? (i := 406) (by decide +kernel)⟩
theorem lw_p12 : lw_okq (⟨"BackHooks", "isThing", "(I)Z"⟩, 16) := ⟨⟨by decide +kernel, by decide +kernel⟩, List.mem_of_getElem? (i := 15) (by decide +kernel), List.mem_of_getElem? (i := 413) (by decide +kernel), List.mem_of_getElem? (i := 414) (by decide +kernel)⟩
theorem lw_p13 : lw_okq (⟨"BackHooks", "findingOf", "(I)I"⟩, 16) := ⟨⟨by decide +kernel, by decide +kernel⟩, List.mem_of_getElem? (i := 15) (by decide +kernel), List.mem_of_getElem? (i := 451) (by decide +kernel), List.mem_of_getElem? (i := 452) (by decide +kernel)⟩
theorem lw_p14 : lw_okq (⟨"BackHooks", "unsettledThings", "()I"⟩, 16) := ⟨⟨by decide +kernel, by decide +kernel⟩, List.mem_of_getElem? (i := 15) (by decide +kernel), List.mem_of_getElem? (i := 519) (by decide +kernel), List.mem_of_getElem? (i := 520) (by decide +kernel)⟩
theorem lw_p15 : lw_okq (⟨"BackHooks", "chooseSwap", "()V"⟩, 16) := ⟨⟨by decide +kernel, by decide +kernel⟩, List.mem_of_getElem? (i := 15) (by decide +kernel), List.mem_of_getElem? (i := 528) (by decide +kernel), List.mem_of_getElem? (i := 529) (by decide +kernel)⟩
def lw_privs_1 : List (MethodName × Nat) := [(⟨"BackHooks", "textOf", "(I)LBackHooks$Text;"⟩, 16), (⟨"BackHooks", "noteChange", "()V"⟩, 16), (⟨"BackHooks", "refresh", "()V"⟩, 16), (⟨"BackHooks", "allEvents", "()I"⟩, 16), (⟨"BackHooks$Setting", "takeEvent", "(III)V"⟩, 8), (⟨"BackHooks$Course", "begin", "(LBackHooks$Setting;)V"⟩, 12), (⟨"BackHooks$Course", "heatUp", "(I)V"⟩, 12), (⟨"BackHooks$Course", "doHooks", "(LBackHooks$Setting;I)V"⟩, 12), (⟨"BackHooks$Course", "doHook", "(LBackHooks$Setting;IIIZ)V"⟩, 12), (⟨"BackHooks$Course", "whatIsSaid", "(LBackHooks$Setting;I)I"⟩, 12), (⟨"BackHooks$Course", "soften", "(IIIZ)V"⟩, 12), (⟨"BackHooks", "isHook", "(I)Z"⟩, 16), (⟨"BackHooks", "isThing", "(I)Z"⟩, 16), (⟨"BackHooks", "findingOf", "(I)I"⟩, 16), (⟨"BackHooks", "unsettledThings", "()I"⟩, 16), (⟨"BackHooks", "chooseSwap", "()V"⟩, 16)]
theorem lw_r1 : ∀ q ∈ lw_privs_1, lw_okq q := List.forall_mem_cons.mpr ⟨lw_p0, List.forall_mem_cons.mpr ⟨lw_p1, List.forall_mem_cons.mpr ⟨lw_p2, List.forall_mem_cons.mpr ⟨lw_p3, List.forall_mem_cons.mpr ⟨lw_p4, List.forall_mem_cons.mpr ⟨lw_p5, List.forall_mem_cons.mpr ⟨lw_p6, List.forall_mem_cons.mpr ⟨lw_p7, List.forall_mem_cons.mpr ⟨lw_p8, List.forall_mem_cons.mpr ⟨lw_p9, List.forall_mem_cons.mpr ⟨lw_p10, List.forall_mem_cons.mpr ⟨lw_p11, List.forall_mem_cons.mpr ⟨lw_p12, List.forall_mem_cons.mpr ⟨lw_p13, List.forall_mem_cons.mpr ⟨lw_p14, List.forall_mem_cons.mpr ⟨lw_p15, fun _ h => absurd h List.not_mem_nil⟩⟩⟩⟩⟩⟩⟩⟩⟩⟩⟩⟩⟩⟩⟩⟩
theorem lw_p16 : lw_okq (⟨"BackHooks", "fewestHooks", "()I"⟩, 16) := ⟨⟨by decide +kernel, by decide +kernel⟩, List.mem_of_getElem? (i := 15) (by decide +kernel), List.mem_of_getElem? (i := 565) (by decide +kernel), List.mem_of_getElem? (i := 566) (by decide +kernel)⟩
theorem lw_p17 : lw_okq (⟨"BackHooks", "chooseLeft", "(I)V"⟩, 16) := ⟨⟨by decide +kernel, by decide +kernel⟩, List.mem_of_getElem? (i := 15) (by decide +kernel), List.mem_of_getElem? (i := 573) (by decide +kernel), List.mem_of_getElem? (i := 574) (by decide +kernel)⟩
theorem lw_p18 : lw_okq (⟨"BackHooks", "refreshEnds", "()V"⟩, 16) := ⟨⟨by decide +kernel, by decide +kernel⟩, List.mem_of_getElem? (i := 15) (by decide +kernel), List.mem_of_getElem? (i := 582) (by decide +kernel), List.mem_of_getElem? (i := 583) (by decide +kernel)⟩
theorem lw_p19 : lw_okq (⟨"BackHooks", "chooseSpared", "()V"⟩, 16) := ⟨⟨by decide +kernel, by decide +kernel⟩, List.mem_of_getElem? (i := 15) (by decide +kernel), List.mem_of_getElem? (i := 586) (by decide +kernel), List.mem_of_getElem? (i := 587) (by decide +kernel)⟩
theorem lw_p20 : lw_okq (⟨"BackHooks", "eventsThatNeverWere", "()I"⟩, 16) := ⟨⟨by decide +kernel, by decide +kernel⟩, List.mem_of_getElem? (i := 15) (by decide +kernel), List.mem_of_getElem? (i := 606) (by decide +kernel), List.mem_of_getElem? (i := 607) (by decide +kernel)⟩
theorem lw_p21 : lw_okq (⟨"BackHooks", "allComesOut", "()Z"⟩, 16) := ⟨⟨by decide +kernel, by decide +kernel⟩, List.mem_of_getElem? (i := 15) (by decide +kernel), List.mem_of_getElem? (i := 610) (by decide +kernel), List.mem_of_getElem? (i := 611) (by decide +kernel)⟩
theorem lw_p22 : lw_okq (⟨"BackHooks", "sortsThatFit", "(I)I"⟩, 16) := ⟨⟨by decide +kernel, by decide +kernel⟩, List.mem_of_getElem? (i := 15) (by decide +kernel), List.mem_of_getElem? (i := 618) (by decide +kernel), List.mem_of_getElem? (i := 619) (by decide +kernel)⟩
theorem lw_p23 : lw_okq (⟨"BackHooks", "tryHeats", "(I)V"⟩, 16) := ⟨⟨by decide +kernel, by decide +kernel⟩, List.mem_of_getElem? (i := 15) (by decide +kernel), List.mem_of_getElem? (i := 622) (by decide +kernel), List.mem_of_getElem? (i := 623) (by decide +kernel)⟩
theorem lw_p24 : lw_okq (⟨"BackHooks$Heats", "greatestLikeness", "(I)I"⟩, 2) := ⟨⟨by decide +kernel, by decide +kernel⟩, List.mem_of_getElem? (i := 195) (by decide +kernel), List.mem_of_getElem? (i := 634) (by decide +kernel), List.mem_of_getElem? (i := 635) (by decide +kernel)⟩
theorem lw_p25 : lw_okq (⟨"BackHooks$Heats", "likenessOf", "(II)I"⟩, 2) := ⟨⟨by decide +kernel, by decide +kernel⟩, List.mem_of_getElem? (i := 195) (by decide +kernel), List.mem_of_getElem? (i := 638) (by decide +kernel), List.mem_of_getElem? (i := 639) (by decide +kernel)⟩
theorem lw_p26 : lw_okq (⟨"BackHooks", "chanceOf", "(III)J"⟩, 16) := ⟨⟨by decide +kernel, by decide +kernel⟩, List.mem_of_getElem? (i := 15) (by decide +kernel), List.mem_of_getElem? (i := 650) (by decide +kernel), List.mem_of_getElem? (i := 651) (by decide +kernel)⟩
theorem lw_p27 : lw_okq (⟨"BackHooks", "weightOf", "(II)J"⟩, 16) := ⟨⟨by decide +kernel, by decide +kernel⟩, List.mem_of_getElem? (i := 15) (by decide +kernel), List.mem_of_getElem? (i := 654) (by decide +kernel), List.mem_of_getElem? (i := 655) (by decide +kernel)⟩
theorem lw_p28 : lw_okq (⟨"BackHooks", "runSeason", "(II)V"⟩, 16) := ⟨⟨by decide +kernel, by decide +kernel⟩, List.mem_of_getElem? (i := 15) (by decide +kernel), List.mem_of_getElem? (i := 662) (by decide +kernel), List.mem_of_getElem? (i := 663) (by decide +kernel)⟩
theorem lw_p29 : lw_okq (⟨"BackHooks", "foldHook", "(JI)J"⟩, 16) := ⟨⟨by decide +kernel, by decide +kernel⟩, List.mem_of_getElem? (i := 15) (by decide +kernel), List.mem_of_getElem? (i := 729) (by decide +kernel), List.mem_of_getElem? (i := 730) (by decide +kernel)⟩
theorem lw_p30 : lw_okq (⟨"BackHooks", "foldEvening", "(JI)J"⟩, 16) := ⟨⟨by decide +kernel, by decide +kernel⟩, List.mem_of_getElem? (i := 15) (by decide +kernel), List.mem_of_getElem? (i := 733) (by decide +kernel), List.mem_of_getElem? (i := 734) (by decide +kernel)⟩
theorem lw_p31 : lw_okq (⟨"BackHooks", "foldThing", "(JI)J"⟩, 16) := ⟨⟨by decide +kernel, by decide +kernel⟩, List.mem_of_getElem? (i := 15) (by decide +kernel), List.mem_of_getElem? (i := 737) (by decide +kernel), List.mem_of_getElem? (i := 738) (by decide +kernel)⟩
def lw_privs_2 : List (MethodName × Nat) := [(⟨"BackHooks", "fewestHooks", "()I"⟩, 16), (⟨"BackHooks", "chooseLeft", "(I)V"⟩, 16), (⟨"BackHooks", "refreshEnds", "()V"⟩, 16), (⟨"BackHooks", "chooseSpared", "()V"⟩, 16), (⟨"BackHooks", "eventsThatNeverWere", "()I"⟩, 16), (⟨"BackHooks", "allComesOut", "()Z"⟩, 16), (⟨"BackHooks", "sortsThatFit", "(I)I"⟩, 16), (⟨"BackHooks", "tryHeats", "(I)V"⟩, 16), (⟨"BackHooks$Heats", "greatestLikeness", "(I)I"⟩, 2), (⟨"BackHooks$Heats", "likenessOf", "(II)I"⟩, 2), (⟨"BackHooks", "chanceOf", "(III)J"⟩, 16), (⟨"BackHooks", "weightOf", "(II)J"⟩, 16), (⟨"BackHooks", "runSeason", "(II)V"⟩, 16), (⟨"BackHooks", "foldHook", "(JI)J"⟩, 16), (⟨"BackHooks", "foldEvening", "(JI)J"⟩, 16), (⟨"BackHooks", "foldThing", "(JI)J"⟩, 16)]
theorem lw_r2 : ∀ q ∈ lw_privs_2, lw_okq q := List.forall_mem_cons.mpr ⟨lw_p16, List.forall_mem_cons.mpr ⟨lw_p17, List.forall_mem_cons.mpr ⟨lw_p18, List.forall_mem_cons.mpr ⟨lw_p19, List.forall_mem_cons.mpr ⟨lw_p20, List.forall_mem_cons.mpr ⟨lw_p21, List.forall_mem_cons.mpr ⟨lw_p22, List.forall_mem_cons.mpr ⟨lw_p23, List.forall_mem_cons.mpr ⟨lw_p24, List.forall_mem_cons.mpr ⟨lw_p25, List.forall_mem_cons.mpr ⟨lw_p26, List.forall_mem_cons.mpr ⟨lw_p27, List.forall_mem_cons.mpr ⟨lw_p28, List.forall_mem_cons.mpr ⟨lw_p29, List.forall_mem_cons.mpr ⟨lw_p30, List.forall_mem_cons.mpr ⟨lw_p31, fun _ h => absurd h List.not_mem_nil⟩⟩⟩⟩⟩⟩⟩⟩⟩⟩⟩⟩⟩⟩⟩⟩
theorem lw_p32 : lw_okq (⟨"BackHooks", "foldHeat", "(JI)J"⟩, 16) := ⟨⟨by decide +kernel, by decide +kernel⟩, List.mem_of_getElem? (i := 15) (by decide +kernel), List.mem_of_getElem? (i := 741) (by decide +kernel), List.mem_of_getElem? (i := 742) (by decide +kernel)⟩
theorem lw_p33 : lw_okq (⟨"BackHooks", "foldSums", "(J)J"⟩, 16) := ⟨⟨by decide +kernel, by decide +kernel⟩, List.mem_of_getElem? (i := 15) (by decide +kernel), List.mem_of_getElem? (i := 745) (by decide +kernel), List.mem_of_getElem? (i := 746) (by decide +kernel)⟩
theorem lw_p34 : lw_okq (⟨"BackHooks", "foldPlans", "(J)J"⟩, 16) := ⟨⟨by decide +kernel, by decide +kernel⟩, List.mem_of_getElem? (i := 15) (by decide +kernel), List.mem_of_getElem? (i := 749) (by decide +kernel), List.mem_of_getElem? (i := 750) (by decide +kernel)⟩
theorem lw_p35 : lw_okq (⟨"BackHooksModel", "faultOf", "(I)I"⟩, 57) := ⟨⟨by decide +kernel, by decide +kernel⟩, List.mem_of_getElem? (i := 753) (by decide +kernel), List.mem_of_getElem? (i := 954) (by decide +kernel), List.mem_of_getElem? (i := 955) (by decide +kernel)⟩
theorem lw_p36 : lw_okq (⟨"BackHooksModel", "readsHooks", "()I"⟩, 57) := ⟨⟨by decide +kernel, by decide +kernel⟩, List.mem_of_getElem? (i := 753) (by decide +kernel), List.mem_of_getElem? (i := 958) (by decide +kernel), List.mem_of_getElem? (i := 959) (by decide +kernel)⟩
theorem lw_p37 : lw_okq (⟨"BackHooksModel", "byteAt", "(II)I"⟩, 57) := ⟨⟨by decide +kernel, by decide +kernel⟩, List.mem_of_getElem? (i := 753) (by decide +kernel), List.mem_of_getElem? (i := 962) (by decide +kernel), List.mem_of_getElem? (i := 963) (by decide +kernel)⟩
theorem lw_p38 : lw_okq (⟨"BackHooksModel", "readsThings", "()I"⟩, 57) := ⟨⟨by decide +kernel, by decide +kernel⟩, List.mem_of_getElem? (i := 753) (by decide +kernel), List.mem_of_getElem? (i := 966) (by decide +kernel), List.mem_of_getElem? (i := 967) (by decide +kernel)⟩
theorem lw_p39 : lw_okq (⟨"BackHooksModel", "readsThing", "(II)I"⟩, 57) := ⟨⟨by decide +kernel, by decide +kernel⟩, List.mem_of_getElem? (i := 753) (by decide +kernel), List.mem_of_getElem? (i := 970) (by decide +kernel), List.mem_of_getElem? (i := 971) (by decide +kernel)⟩
theorem lw_p40 : lw_okq (⟨"BackHooksModel", "isHook", "(I)Z"⟩, 57) := ⟨⟨by decide +kernel, by decide +kernel⟩, List.mem_of_getElem? (i := 753) (by decide +kernel), List.mem_of_getElem? (i := 978) (by decide +kernel), List.mem_of_getElem? (i := 979) (by decide +kernel)⟩
theorem lw_p41 : lw_okq (⟨"BackHooksModel", "reads", "()V"⟩, 57) := ⟨⟨by decide +kernel, by decide +kernel⟩, List.mem_of_getElem? (i := 753) (by decide +kernel), List.mem_of_getElem? (i := 982) (by decide +kernel), List.mem_of_getElem? (i := 983) (by decide +kernel)⟩
theorem lw_p42 : lw_okq (⟨"BackHooksModel", "isThing", "(I)Z"⟩, 57) := ⟨⟨by decide +kernel, by decide +kernel⟩, List.mem_of_getElem? (i := 753) (by decide +kernel), List.mem_of_getElem? (i := 990) (by decide +kernel), List.mem_of_getElem? (i := 991) (by decide +kernel)⟩
theorem lw_p43 : lw_okq (⟨"BackHooksModel", "thingOf", "(II)I"⟩, 57) := ⟨⟨by decide +kernel, by decide +kernel⟩, List.mem_of_getElem? (i := 753) (by decide +kernel), List.mem_of_getElem? (i := 997) (by decide +kernel), List.mem_of_getElem? (i := 998) (by decide +kernel)⟩
theorem lw_p44 : lw_okq (⟨"BackHooksModel", "meets", "(I)I"⟩, 57) := ⟨⟨by decide +kernel, by decide +kernel⟩, List.mem_of_getElem? (i := 753) (by decide +kernel), List.mem_of_getElem? (i := 1019) (by decide +kernel), List.mem_of_getElem? (i := 1020) (by decide +kernel)⟩
theorem lw_p45 : lw_okq (⟨"BackHooksModel", "heatOf", "(III)I"⟩, 57) := ⟨⟨by decide +kernel, by decide +kernel⟩, List.mem_of_getElem? (i := 753) (by decide +kernel), List.mem_of_getElem? (i := 1028) (by decide +kernel), List.mem_of_getElem? (i := 1029) (by decide +kernel)⟩
theorem lw_p46 : lw_okq (⟨"BackHooksModel", "runsTold", "()V"⟩, 57) := ⟨⟨by decide +kernel, by decide +kernel⟩, List.mem_of_getElem? (i := 753) (by decide +kernel), List.mem_of_getElem? (i := 1032) (by decide +kernel), List.mem_of_getElem? (i := 1033) (by decide +kernel)⟩
theorem lw_p47 : lw_okq (⟨"BackHooksModel", "asTold", "()V"⟩, 57) := ⟨⟨by decide +kernel, by decide +kernel⟩, List.mem_of_getElem? (i := 753) (by decide +kernel), List.mem_of_getElem? (i := 1036) (by decide +kernel), List.mem_of_getElem? (i := 1037) (by decide +kernel)⟩
def lw_privs_3 : List (MethodName × Nat) := [(⟨"BackHooks", "foldHeat", "(JI)J"⟩, 16), (⟨"BackHooks", "foldSums", "(J)J"⟩, 16), (⟨"BackHooks", "foldPlans", "(J)J"⟩, 16), (⟨"BackHooksModel", "faultOf", "(I)I"⟩, 57), (⟨"BackHooksModel", "readsHooks", "()I"⟩, 57), (⟨"BackHooksModel", "byteAt", "(II)I"⟩, 57), (⟨"BackHooksModel", "readsThings", "()I"⟩, 57), (⟨"BackHooksModel", "readsThing", "(II)I"⟩, 57), (⟨"BackHooksModel", "isHook", "(I)Z"⟩, 57), (⟨"BackHooksModel", "reads", "()V"⟩, 57), (⟨"BackHooksModel", "isThing", "(I)Z"⟩, 57), (⟨"BackHooksModel", "thingOf", "(II)I"⟩, 57), (⟨"BackHooksModel", "meets", "(I)I"⟩, 57), (⟨"BackHooksModel", "heatOf", "(III)I"⟩, 57), (⟨"BackHooksModel", "runsTold", "()V"⟩, 57), (⟨"BackHooksModel", "asTold", "()V"⟩, 57)]
theorem lw_r3 : ∀ q ∈ lw_privs_3, lw_okq q := List.forall_mem_cons.mpr ⟨lw_p32, List.forall_mem_cons.mpr ⟨lw_p33, List.forall_mem_cons.mpr ⟨lw_p34, List.forall_mem_cons.mpr ⟨lw_p35, List.forall_mem_cons.mpr ⟨lw_p36, List.forall_mem_cons.mpr ⟨lw_p37, List.forall_mem_cons.mpr ⟨lw_p38, List.forall_mem_cons.mpr ⟨lw_p39, List.forall_mem_cons.mpr ⟨lw_p40, List.forall_mem_cons.mpr ⟨lw_p41, List.forall_mem_cons.mpr ⟨lw_p42, List.forall_mem_cons.mpr ⟨lw_p43, List.forall_mem_cons.mpr ⟨lw_p44, List.forall_mem_cons.mpr ⟨lw_p45, List.forall_mem_cons.mpr ⟨lw_p46, List.forall_mem_cons.mpr ⟨lw_p47, fun _ h => absurd h List.not_mem_nil⟩⟩⟩⟩⟩⟩⟩⟩⟩⟩⟩⟩⟩⟩⟩⟩
theorem lw_p48 : lw_okq (⟨"BackHooksModel", "runs", "()V"⟩, 57) := ⟨⟨by decide +kernel, by decide +kernel⟩, List.mem_of_getElem? (i := 753) (by decide +kernel), List.mem_of_getElem? (i := 1040) (by decide +kernel), List.mem_of_getElem? (i := 1041) (by decide +kernel)⟩
theorem lw_p49 : lw_okq (⟨"BackHooksModel", "goesBy", "(I)V"⟩, 57) := ⟨⟨by decide +kernel, by decide +kernel⟩, List.mem_of_getElem? (i := 753) (by decide +kernel), List.mem_of_getElem? (i := 1044) (by decide +kernel), List.mem_of_getElem? (i := 1045) (by decide +kernel)⟩
theorem lw_p50 : lw_okq (⟨"BackHooksModel", "befalls", "(I)V"⟩, 57) := ⟨⟨by decide +kernel, by decide +kernel⟩, List.mem_of_getElem? (i := 753) (by decide +kernel), List.mem_of_getElem? (i := 1048) (by decide +kernel), List.mem_of_getElem? (i := 1049) (by decide +kernel)⟩
theorem lw_p51 : lw_okq (⟨"BackHooksModel", "heatsUp", "()V"⟩, 57) := ⟨⟨by decide +kernel, by decide +kernel⟩, List.mem_of_getElem? (i := 753) (by decide +kernel), List.mem_of_getElem? (i := 1055) (by decide +kernel), List.mem_of_getElem? (i := 1056) (by decide +kernel)⟩
theorem lw_p52 : lw_okq (⟨"BackHooksModel", "isOpen", "(I)Z"⟩, 57) := ⟨⟨by decide +kernel, by decide +kernel⟩, List.mem_of_getElem? (i := 753) (by decide +kernel), List.mem_of_getElem? (i := 1059) (by decide +kernel), List.mem_of_getElem? (i := 1060) (by decide +kernel)⟩
theorem lw_p53 : lw_okq (⟨"BackHooksModel", "lastOf", "()I"⟩, 57) := ⟨⟨by decide +kernel, by decide +kernel⟩, List.mem_of_getElem? (i := 753) (by decide +kernel), List.mem_of_getElem? (i := 1063) (by decide +kernel), List.mem_of_getElem? (i := 1064) (by decide +kernel)⟩
theorem lw_p54 : lw_okq (⟨"BackHooksModel", "takes", "(I)I"⟩, 57) := ⟨⟨by decide +kernel, by decide +kernel⟩, List.mem_of_getElem? (i := 753) (by decide +kernel), List.mem_of_getElem? (i := 1067) (by decide +kernel), List.mem_of_getElem? (i := 1068) (by decide +kernel)⟩
theorem lw_p55 : lw_okq (⟨"BackHooksModel", "does", "(IZ)V"⟩, 57) := ⟨⟨by decide +kernel, by decide +kernel⟩, List.mem_of_getElem? (i := 753) (by decide +kernel), List.mem_of_getElem? (i := 1071) (by decide +kernel), List.mem_of_getElem? (i := 1072) (by decide +kernel)⟩
theorem lw_p56 : lw_okq (⟨"BackHooksModel", "says", "(II)V"⟩, 57) := ⟨⟨by decide +kernel, by decide +kernel⟩, List.mem_of_getElem? (i := 753) (by decide +kernel), List.mem_of_getElem? (i := 1075) (by decide +kernel), List.mem_of_getElem? (i := 1076) (by decide +kernel)⟩
theorem lw_p57 : lw_okq (⟨"BackHooksModel", "chosen", "(I)I"⟩, 57) := ⟨⟨by decide +kernel, by decide +kernel⟩, List.mem_of_getElem? (i := 753) (by decide +kernel), List.mem_of_getElem? (i := 1079) (by decide +kernel), List.mem_of_getElem? (i := 1080) (by decide +kernel)⟩
theorem lw_p58 : lw_okq (⟨"BackHooksModel", "notes", "(I)V"⟩, 57) := ⟨⟨by decide +kernel, by decide +kernel⟩, List.mem_of_getElem? (i := 753) (by decide +kernel), List.mem_of_getElem? (i := 1083) (by decide +kernel), List.mem_of_getElem? (i := 1084) (by decide +kernel)⟩
theorem lw_p59 : lw_okq (⟨"BackHooksModel", "saidOf", "(II)I"⟩, 57) := ⟨⟨by decide +kernel, by decide +kernel⟩, List.mem_of_getElem? (i := 753) (by decide +kernel), List.mem_of_getElem? (i := 1091) (by decide +kernel), List.mem_of_getElem? (i := 1092) (by decide +kernel)⟩
theorem lw_p60 : lw_okq (⟨"BackHooksModel", "atOf", "(II)I"⟩, 57) := ⟨⟨by decide +kernel, by decide +kernel⟩, List.mem_of_getElem? (i := 753) (by decide +kernel), List.mem_of_getElem? (i := 1099) (by decide +kernel), List.mem_of_getElem? (i := 1100) (by decide +kernel)⟩
theorem lw_p61 : lw_okq (⟨"BackHooksModel", "settledOf", "(I)I"⟩, 57) := ⟨⟨by decide +kernel, by decide +kernel⟩, List.mem_of_getElem? (i := 753) (by decide +kernel), List.mem_of_getElem? (i := 1107) (by decide +kernel), List.mem_of_getElem? (i := 1108) (by decide +kernel)⟩
theorem lw_p62 : lw_okq (⟨"BackHooksModel", "sumOf", "(I)I"⟩, 57) := ⟨⟨by decide +kernel, by decide +kernel⟩, List.mem_of_getElem? (i := 753) (by decide +kernel), List.mem_of_getElem? (i := 1115) (by decide +kernel), List.mem_of_getElem? (i := 1116) (by decide +kernel)⟩
theorem lw_p63 : lw_okq (⟨"BackHooksModel", "manySettled", "()I"⟩, 57) := ⟨⟨by decide +kernel, by decide +kernel⟩, List.mem_of_getElem? (i := 753) (by decide +kernel), List.mem_of_getElem? (i := 1119) (by decide +kernel), List.mem_of_getElem? (i := 1120) (by decide +kernel)⟩
def lw_privs_4 : List (MethodName × Nat) := [(⟨"BackHooksModel", "runs", "()V"⟩, 57), (⟨"BackHooksModel", "goesBy", "(I)V"⟩, 57), (⟨"BackHooksModel", "befalls", "(I)V"⟩, 57), (⟨"BackHooksModel", "heatsUp", "()V"⟩, 57), (⟨"BackHooksModel", "isOpen", "(I)Z"⟩, 57), (⟨"BackHooksModel", "lastOf", "()I"⟩, 57), (⟨"BackHooksModel", "takes", "(I)I"⟩, 57), (⟨"BackHooksModel", "does", "(IZ)V"⟩, 57), (⟨"BackHooksModel", "says", "(II)V"⟩, 57), (⟨"BackHooksModel", "chosen", "(I)I"⟩, 57), (⟨"BackHooksModel", "notes", "(I)V"⟩, 57), (⟨"BackHooksModel", "saidOf", "(II)I"⟩, 57), (⟨"BackHooksModel", "atOf", "(II)I"⟩, 57), (⟨"BackHooksModel", "settledOf", "(I)I"⟩, 57), (⟨"BackHooksModel", "sumOf", "(I)I"⟩, 57), (⟨"BackHooksModel", "manySettled", "()I"⟩, 57)]
theorem lw_r4 : ∀ q ∈ lw_privs_4, lw_okq q := List.forall_mem_cons.mpr ⟨lw_p48, List.forall_mem_cons.mpr ⟨lw_p49, List.forall_mem_cons.mpr ⟨lw_p50, List.forall_mem_cons.mpr ⟨lw_p51, List.forall_mem_cons.mpr ⟨lw_p52, List.forall_mem_cons.mpr ⟨lw_p53, List.forall_mem_cons.mpr ⟨lw_p54, List.forall_mem_cons.mpr ⟨lw_p55, List.forall_mem_cons.mpr ⟨lw_p56, List.forall_mem_cons.mpr ⟨lw_p57, List.forall_mem_cons.mpr ⟨lw_p58, List.forall_mem_cons.mpr ⟨lw_p59, List.forall_mem_cons.mpr ⟨lw_p60, List.forall_mem_cons.mpr ⟨lw_p61, List.forall_mem_cons.mpr ⟨lw_p62, List.forall_mem_cons.mpr ⟨lw_p63, fun _ h => absurd h List.not_mem_nil⟩⟩⟩⟩⟩⟩⟩⟩⟩⟩⟩⟩⟩⟩⟩⟩
theorem lw_p64 : lw_okq (⟨"BackHooksModel", "peaceOf", "()I"⟩, 57) := ⟨⟨by decide +kernel, by decide +kernel⟩, List.mem_of_getElem? (i := 753) (by decide +kernel), List.mem_of_getElem? (i := 1127) (by decide +kernel), List.mem_of_getElem? (i := 1128) (by decide +kernel)⟩
theorem lw_p65 : lw_okq (⟨"BackHooksModel", "longestOf", "()I"⟩, 57) := ⟨⟨by decide +kernel, by decide +kernel⟩, List.mem_of_getElem? (i := 753) (by decide +kernel), List.mem_of_getElem? (i := 1135) (by decide +kernel), List.mem_of_getElem? (i := 1136) (by decide +kernel)⟩
theorem lw_p66 : lw_okq (⟨"BackHooksModel", "highestOf", "(I)I"⟩, 57) := ⟨⟨by decide +kernel, by decide +kernel⟩, List.mem_of_getElem? (i := 753) (by decide +kernel), List.mem_of_getElem? (i := 1143) (by decide +kernel), List.mem_of_getElem? (i := 1144) (by decide +kernel)⟩
theorem lw_p67 : lw_okq (⟨"BackHooksModel", "soreOf", "()I"⟩, 57) := ⟨⟨by decide +kernel, by decide +kernel⟩, List.mem_of_getElem? (i := 753) (by decide +kernel), List.mem_of_getElem? (i := 1151) (by decide +kernel), List.mem_of_getElem? (i := 1152) (by decide +kernel)⟩
theorem lw_p68 : lw_okq (⟨"BackHooksModel", "swapOf", "(I)I"⟩, 57) := ⟨⟨by decide +kernel, by decide +kernel⟩, List.mem_of_getElem? (i := 753) (by decide +kernel), List.mem_of_getElem? (i := 1159) (by decide +kernel), List.mem_of_getElem? (i := 1160) (by decide +kernel)⟩
theorem lw_p69 : lw_okq (⟨"BackHooksModel", "starts", "()V"⟩, 57) := ⟨⟨by decide +kernel, by decide +kernel⟩, List.mem_of_getElem? (i := 753) (by decide +kernel), List.mem_of_getElem? (i := 1163) (by decide +kernel), List.mem_of_getElem? (i := 1164) (by decide +kernel)⟩
theorem lw_p70 : lw_okq (⟨"BackHooksModel", "puts", "(II)V"⟩, 57) := ⟨⟨by decide +kernel, by decide +kernel⟩, List.mem_of_getElem? (i := 753) (by decide +kernel), List.mem_of_getElem? (i := 1167) (by decide +kernel), List.mem_of_getElem? (i := 1168) (by decide +kernel)⟩
theorem lw_p71 : lw_okq (⟨"BackHooksModel", "tries", "(I)V"⟩, 57) := ⟨⟨by decide +kernel, by decide +kernel⟩, List.mem_of_getElem? (i := 753) (by decide +kernel), List.mem_of_getElem? (i := 1171) (by decide +kernel), List.mem_of_getElem? (i := 1172) (by decide +kernel)⟩
theorem lw_p72 : lw_okq (⟨"BackHooksModel", "fitOf", "()I"⟩, 57) := ⟨⟨by decide +kernel, by decide +kernel⟩, List.mem_of_getElem? (i := 753) (by decide +kernel), List.mem_of_getElem? (i := 1179) (by decide +kernel), List.mem_of_getElem? (i := 1180) (by decide +kernel)⟩
theorem lw_p73 : lw_okq (⟨"BackHooksModel", "leaveTold", "(II)I"⟩, 57) := ⟨⟨by decide +kernel, by decide +kernel⟩, List.mem_of_getElem? (i := 753) (by decide +kernel), List.mem_of_getElem? (i := 1187) (by decide +kernel), List.mem_of_getElem? (i := 1188) (by decide +kernel)⟩
theorem lw_p74 : lw_okq (⟨"BackHooksModel", "leaveOf", "(II)I"⟩, 57) := ⟨⟨by decide +kernel, by decide +kernel⟩, List.mem_of_getElem? (i := 753) (by decide +kernel), List.mem_of_getElem? (i := 1191) (by decide +kernel), List.mem_of_getElem? (i := 1192) (by decide +kernel)⟩
theorem lw_p75 : lw_okq (⟨"BackHooksModel", "spareBy", "()I"⟩, 57) := ⟨⟨by decide +kernel, by decide +kernel⟩, List.mem_of_getElem? (i := 753) (by decide +kernel), List.mem_of_getElem? (i := 1199) (by decide +kernel), List.mem_of_getElem? (i := 1200) (by decide +kernel)⟩
theorem lw_p76 : lw_okq (⟨"BackHooksModel", "isSpared", "(I)Z"⟩, 57) := ⟨⟨by decide +kernel, by decide +kernel⟩, List.mem_of_getElem? (i := 753) (by decide +kernel), List.mem_of_getElem? (i := 1203) (by decide +kernel), List.mem_of_getElem? (i := 1204) (by decide +kernel)⟩
theorem lw_p77 : lw_okq (⟨"BackHooksModel", "ofRow", "(II)I"⟩, 57) := ⟨⟨by decide +kernel, by decide +kernel⟩, List.mem_of_getElem? (i := 753) (by decide +kernel), List.mem_of_getElem? (i := 1207) (by decide +kernel), List.mem_of_getElem? (i := 1208) (by decide +kernel)⟩
theorem lw_p78 : lw_okq (⟨"BackHooksModel", "neverNow", "()I"⟩, 57) := ⟨⟨by decide +kernel, by decide +kernel⟩, List.mem_of_getElem? (i := 753) (by decide +kernel), List.mem_of_getElem? (i := 1223) (by decide +kernel), List.mem_of_getElem? (i := 1224) (by decide +kernel)⟩
theorem lw_p79 : lw_okq (⟨"BackHooksModel", "isSeen", "()Z"⟩, 57) := ⟨⟨by decide +kernel, by decide +kernel⟩, List.mem_of_getElem? (i := 753) (by decide +kernel), List.mem_of_getElem? (i := 1227) (by decide +kernel), List.mem_of_getElem? (i := 1228) (by decide +kernel)⟩
def lw_privs_5 : List (MethodName × Nat) := [(⟨"BackHooksModel", "peaceOf", "()I"⟩, 57), (⟨"BackHooksModel", "longestOf", "()I"⟩, 57), (⟨"BackHooksModel", "highestOf", "(I)I"⟩, 57), (⟨"BackHooksModel", "soreOf", "()I"⟩, 57), (⟨"BackHooksModel", "swapOf", "(I)I"⟩, 57), (⟨"BackHooksModel", "starts", "()V"⟩, 57), (⟨"BackHooksModel", "puts", "(II)V"⟩, 57), (⟨"BackHooksModel", "tries", "(I)V"⟩, 57), (⟨"BackHooksModel", "fitOf", "()I"⟩, 57), (⟨"BackHooksModel", "leaveTold", "(II)I"⟩, 57), (⟨"BackHooksModel", "leaveOf", "(II)I"⟩, 57), (⟨"BackHooksModel", "spareBy", "()I"⟩, 57), (⟨"BackHooksModel", "isSpared", "(I)Z"⟩, 57), (⟨"BackHooksModel", "ofRow", "(II)I"⟩, 57), (⟨"BackHooksModel", "neverNow", "()I"⟩, 57), (⟨"BackHooksModel", "isSeen", "()Z"⟩, 57)]
theorem lw_r5 : ∀ q ∈ lw_privs_5, lw_okq q := List.forall_mem_cons.mpr ⟨lw_p64, List.forall_mem_cons.mpr ⟨lw_p65, List.forall_mem_cons.mpr ⟨lw_p66, List.forall_mem_cons.mpr ⟨lw_p67, List.forall_mem_cons.mpr ⟨lw_p68, List.forall_mem_cons.mpr ⟨lw_p69, List.forall_mem_cons.mpr ⟨lw_p70, List.forall_mem_cons.mpr ⟨lw_p71, List.forall_mem_cons.mpr ⟨lw_p72, List.forall_mem_cons.mpr ⟨lw_p73, List.forall_mem_cons.mpr ⟨lw_p74, List.forall_mem_cons.mpr ⟨lw_p75, List.forall_mem_cons.mpr ⟨lw_p76, List.forall_mem_cons.mpr ⟨lw_p77, List.forall_mem_cons.mpr ⟨lw_p78, List.forall_mem_cons.mpr ⟨lw_p79, fun _ h => absurd h List.not_mem_nil⟩⟩⟩⟩⟩⟩⟩⟩⟩⟩⟩⟩⟩⟩⟩⟩
theorem lw_p80 : lw_okq (⟨"BackHooksModel", "heatsBy", "(I)I"⟩, 57) := ⟨⟨by decide +kernel, by decide +kernel⟩, List.mem_of_getElem? (i := 753) (by decide +kernel), List.mem_of_getElem? (i := 1235) (by decide +kernel), List.mem_of_getElem? (i := 1236) (by decide +kernel)⟩
theorem lw_p81 : lw_okq (⟨"BackHooksModel", "sortsBy", "(I)I"⟩, 57) := ⟨⟨by decide +kernel, by decide +kernel⟩, List.mem_of_getElem? (i := 753) (by decide +kernel), List.mem_of_getElem? (i := 1239) (by decide +kernel), List.mem_of_getElem? (i := 1240) (by decide +kernel)⟩
theorem lw_p82 : lw_okq (⟨"BackHooksModel", "askOf", "(I)I"⟩, 57) := ⟨⟨by decide +kernel, by decide +kernel⟩, List.mem_of_getElem? (i := 753) (by decide +kernel), List.mem_of_getElem? (i := 1247) (by decide +kernel), List.mem_of_getElem? (i := 1248) (by decide +kernel)⟩
theorem lw_p83 : lw_okq (⟨"BackHooksModel", "chanceOf", "(III)J"⟩, 57) := ⟨⟨by decide +kernel, by decide +kernel⟩, List.mem_of_getElem? (i := 753) (by decide +kernel), List.mem_of_getElem? (i := 1255) (by decide +kernel), List.mem_of_getElem? (i := 1256) (by decide +kernel)⟩
theorem lw_p84 : lw_okq (⟨"BackHooksModel", "seasonsOf", "(III)I"⟩, 57) := ⟨⟨by decide +kernel, by decide +kernel⟩, List.mem_of_getElem? (i := 753) (by decide +kernel), List.mem_of_getElem? (i := 1270) (by decide +kernel), List.mem_of_getElem? (i := 1271) (by decide +kernel)⟩
theorem lw_p85 : lw_okq (⟨"BackHooksModel", "lacks", "(III)I"⟩, 57) := ⟨⟨by decide +kernel, by decide +kernel⟩, List.mem_of_getElem? (i := 753) (by decide +kernel), List.mem_of_getElem? (i := 1287) (by decide +kernel), List.mem_of_getElem? (i := 1288) (by decide +kernel)⟩
theorem lw_p86 : lw_okq (⟨"BackHooksModel", "keep", "(III)V"⟩, 57) := ⟨⟨by decide +kernel, by decide +kernel⟩, List.mem_of_getElem? (i := 753) (by decide +kernel), List.mem_of_getElem? (i := 1291) (by decide +kernel), List.mem_of_getElem? (i := 1292) (by decide +kernel)⟩
theorem lw_p87 : lw_okq (⟨"BackHooksModel", "tellOf", "(I)I"⟩, 57) := ⟨⟨by decide +kernel, by decide +kernel⟩, List.mem_of_getElem? (i := 753) (by decide +kernel), List.mem_of_getElem? (i := 1312) (by decide +kernel), List.mem_of_getElem? (i := 1313) (by decide +kernel)⟩
theorem lw_p88 : lw_okq (⟨"BackHooksModel", "thingDigest", "(JI)J"⟩, 57) := ⟨⟨by decide +kernel, by decide +kernel⟩, List.mem_of_getElem? (i := 753) (by decide +kernel), List.mem_of_getElem? (i := 1323) (by decide +kernel), List.mem_of_getElem? (i := 1324) (by decide +kernel)⟩
theorem lw_p89 : lw_okq (⟨"BackHooksModel", "heatDigest", "(JII)J"⟩, 57) := ⟨⟨by decide +kernel, by decide +kernel⟩, List.mem_of_getElem? (i := 753) (by decide +kernel), List.mem_of_getElem? (i := 1327) (by decide +kernel), List.mem_of_getElem? (i := 1328) (by decide +kernel)⟩
def lw_privs_6 : List (MethodName × Nat) := [(⟨"BackHooksModel", "heatsBy", "(I)I"⟩, 57), (⟨"BackHooksModel", "sortsBy", "(I)I"⟩, 57), (⟨"BackHooksModel", "askOf", "(I)I"⟩, 57), (⟨"BackHooksModel", "chanceOf", "(III)J"⟩, 57), (⟨"BackHooksModel", "seasonsOf", "(III)I"⟩, 57), (⟨"BackHooksModel", "lacks", "(III)I"⟩, 57), (⟨"BackHooksModel", "keep", "(III)V"⟩, 57), (⟨"BackHooksModel", "tellOf", "(I)I"⟩, 57), (⟨"BackHooksModel", "thingDigest", "(JI)J"⟩, 57), (⟨"BackHooksModel", "heatDigest", "(JII)J"⟩, 57)]
theorem lw_r6 : ∀ q ∈ lw_privs_6, lw_okq q := List.forall_mem_cons.mpr ⟨lw_p80, List.forall_mem_cons.mpr ⟨lw_p81, List.forall_mem_cons.mpr ⟨lw_p82, List.forall_mem_cons.mpr ⟨lw_p83, List.forall_mem_cons.mpr ⟨lw_p84, List.forall_mem_cons.mpr ⟨lw_p85, List.forall_mem_cons.mpr ⟨lw_p86, List.forall_mem_cons.mpr ⟨lw_p87, List.forall_mem_cons.mpr ⟨lw_p88, List.forall_mem_cons.mpr ⟨lw_p89, fun _ h => absurd h List.not_mem_nil⟩⟩⟩⟩⟩⟩⟩⟩⟩⟩
def lw_privs : List (MethodName × Nat) := lw_privs_1 ++ (lw_privs_2 ++ (lw_privs_3 ++ (lw_privs_4 ++ (lw_privs_5 ++ (lw_privs_6)))))
def lw_tbl : List Cond := k2_sels lw_privs ++ tables_1
theorem lw_privs_ok : ∀ q ∈ lw_privs, lw_okq q := by
  show ∀ q ∈ lw_privs_1 ++ (lw_privs_2 ++ (lw_privs_3 ++ (lw_privs_4 ++ (lw_privs_5 ++ (lw_privs_6))))), lw_okq q
  exact List.forall_mem_append.mpr ⟨lw_r1, List.forall_mem_append.mpr ⟨lw_r2, List.forall_mem_append.mpr ⟨lw_r3, List.forall_mem_append.mpr ⟨lw_r4, List.forall_mem_append.mpr ⟨lw_r5, lw_r6⟩⟩⟩⟩⟩
-- ===== end of PART A; then your names; then what follows =====
end
section
def RX0 : String := "BackHooks$Choice"
def TX0 : u_T := fun k => match k with
  | 0 => ("BackHooks$Choice", "isMade", "Z", false)
  | 1 => ("BackHooks$Choice", "first", "I", false)
  | 2 => ("BackHooks$Choice", "other", "I", false)
  | 3 => ("BackHooks$Choice", "settledThings", "I", false)
  | _ => ("BackHooks$Choice", "holidayMinutes", "I", false)
def tyX0 : Nat → FieldType := fun k => match k with
  | 0 => .boolean
  | 1 => .int
  | 2 => .int
  | 3 => .int
  | _ => .int
abbrev wsX00 : List Cond := u_ws RX0 TX0 5
theorem nmX0 : ∀ a, a < 5 → ∀ b, b < 5 → a ≠ b → (TX0 a).2.1 ≠ (TX0 b).2.1 := by decide +kernel
theorem tyX0_ok : ∀ k, k < 5 → parseFieldDescriptor (TX0 k).2.2.1 = some (tyX0 k) := by decide +kernel
abbrev cX0_init : ByteArray := prog_2_method_1_code
def yX0_init : MethodName := ⟨RX0, "<init>", "()V"⟩
abbrev cX0_clear : ByteArray := prog_2_method_2_code
def yX0_clear : MethodName := ⟨RX0, "clear", "()V"⟩
abbrev cX0_offer : ByteArray := prog_2_method_3_code
def yX0_offer : MethodName := ⟨RX0, "offer", "(IIII)V"⟩
abbrev cX0_swapAnswer : ByteArray := prog_2_method_4_code
def yX0_swapAnswer : MethodName := ⟨RX0, "swapAnswer", "(I)I"⟩
abbrev cX0_leaveAnswer : ByteArray := prog_2_method_5_code
def yX0_leaveAnswer : MethodName := ⟨RX0, "leaveAnswer", "(I)I"⟩
abbrev cX0_spareAnswer : ByteArray := prog_2_method_6_code
def yX0_spareAnswer : MethodName := ⟨RX0, "spareAnswer", "(I)I"⟩
def RX1 : String := "BackHooks$Course"
def TX1 : u_T := fun k => match k with
  | 0 => ("BackHooks$Course", "heatNow", "[I", true)
  | 1 => ("BackHooks$Course", "settledOn", "[I", true)
  | 2 => ("BackHooks$Course", "highestHook", "[I", true)
  | 3 => ("BackHooks$Course", "minutesInAll", "[I", true)
  | 4 => ("BackHooks$Course", "heatBehind", "[I", true)
  | 5 => ("BackHooks$Course", "minutesOfThing", "[I", true)
  | 6 => ("BackHooks$Course", "lastSaid", "[I", true)
  | 7 => ("BackHooks$Course", "minutes", "[I", true)
  | 8 => ("BackHooks$Course", "holiday", "[I", true)
  | 9 => ("BackHooks$Course", "nothing", "[I", true)
  | 10 => ("BackHooks$Course", "settledIn", "[I", true)
  | _ => ("BackHooks$Course", "settledInAll", "I", false)
def tyX1 : Nat → FieldType := fun k => match k with
  | 0 => .array .int
  | 1 => .array .int
  | 2 => .array .int
  | 3 => .array .int
  | 4 => .array .int
  | 5 => .array .int
  | 6 => .array .int
  | 7 => .array .int
  | 8 => .array .int
  | 9 => .array .int
  | 10 => .array .int
  | _ => .int
abbrev wsX10 : List Cond := u_ws RX1 TX1 12
theorem nmX1 : ∀ a, a < 12 → ∀ b, b < 12 → a ≠ b → (TX1 a).2.1 ≠ (TX1 b).2.1 := by decide +kernel
theorem tyX1_ok : ∀ k, k < 12 → parseFieldDescriptor (TX1 k).2.2.1 = some (tyX1 k) := by decide +kernel
abbrev cX1_init : ByteArray := prog_3_method_1_code
def yX1_init : MethodName := ⟨RX1, "<init>", "()V"⟩
abbrev cX1_run : ByteArray := prog_3_method_2_code
def yX1_run : MethodName := ⟨RX1, "run", "(LBackHooks$Setting;)V"⟩
abbrev cX1_begin : ByteArray := prog_3_method_3_code
def yX1_begin : MethodName := ⟨RX1, "begin", "(LBackHooks$Setting;)V"⟩
abbrev cX1_heatUp : ByteArray := prog_3_method_4_code
def yX1_heatUp : MethodName := ⟨RX1, "heatUp", "(I)V"⟩
abbrev cX1_doHooks : ByteArray := prog_3_method_5_code
def yX1_doHooks : MethodName := ⟨RX1, "doHooks", "(LBackHooks$Setting;I)V"⟩
abbrev cX1_lastHookDone : ByteArray := prog_3_method_6_code
def yX1_lastHookDone : MethodName := ⟨RX1, "lastHookDone", "(LBackHooks$Setting;I)I"⟩
abbrev cX1_doHook : ByteArray := prog_3_method_7_code
def yX1_doHook : MethodName := ⟨RX1, "doHook", "(LBackHooks$Setting;IIIZ)V"⟩
abbrev cX1_whatIsSaid : ByteArray := prog_3_method_8_code
def yX1_whatIsSaid : MethodName := ⟨RX1, "whatIsSaid", "(LBackHooks$Setting;I)I"⟩
abbrev cX1_soften : ByteArray := prog_3_method_9_code
def yX1_soften : MethodName := ⟨RX1, "soften", "(IIIZ)V"⟩
abbrev cX1_settledBehind : ByteArray := prog_3_method_10_code
def yX1_settledBehind : MethodName := ⟨RX1, "settledBehind", "(I)I"⟩
abbrev cX1_firstPeace : ByteArray := prog_3_method_11_code
def yX1_firstPeace : MethodName := ⟨RX1, "firstPeace", "(I)I"⟩
abbrev cX1_thingSaidMost : ByteArray := prog_3_method_12_code
def yX1_thingSaidMost : MethodName := ⟨RX1, "thingSaidMost", "()I"⟩
abbrev cX1_eveningAnswer : ByteArray := prog_3_method_13_code
def yX1_eveningAnswer : MethodName := ⟨RX1, "eveningAnswer", "(II)I"⟩
abbrev cX1_sumAnswer : ByteArray := prog_3_method_14_code
def yX1_sumAnswer : MethodName := ⟨RX1, "sumAnswer", "(I)I"⟩
def RX2 : String := "BackHooks$Heats"
def TX2 : u_T := fun k => match k with
  | 0 => ("BackHooks$Heats", "fitting", "I", false)
  | _ => ("BackHooks$Heats", "settledBy", "[I", true)
def tyX2 : Nat → FieldType := fun k => match k with
  | 0 => .int
  | _ => .array .int
abbrev wsX20 : List Cond := u_ws RX2 TX2 2
theorem nmX2 : ∀ a, a < 2 → ∀ b, b < 2 → a ≠ b → (TX2 a).2.1 ≠ (TX2 b).2.1 := by decide +kernel
theorem tyX2_ok : ∀ k, k < 2 → parseFieldDescriptor (TX2 k).2.2.1 = some (tyX2 k) := by decide +kernel
abbrev cX2_init : ByteArray := prog_4_method_1_code
def yX2_init : MethodName := ⟨RX2, "<init>", "()V"⟩
abbrev cX2_eveningToAsk : ByteArray := prog_4_method_2_code
def yX2_eveningToAsk : MethodName := ⟨RX2, "eveningToAsk", "()I"⟩
abbrev cX2_greatestLikeness : ByteArray := prog_4_method_3_code
def yX2_greatestLikeness : MethodName := ⟨RX2, "greatestLikeness", "(I)I"⟩
abbrev cX2_likenessOf : ByteArray := prog_4_method_4_code
def yX2_likenessOf : MethodName := ⟨RX2, "likenessOf", "(II)I"⟩
def RX3 : String := "BackHooks$Lots"
def TX3 : u_T := fun k => match k with
  | _ => ("BackHooks$Lots", "seed", "I", false)
def tyX3 : Nat → FieldType := fun k => match k with
  | _ => .int
abbrev wsX30 : List Cond := u_ws RX3 TX3 1
theorem nmX3 : ∀ a, a < 1 → ∀ b, b < 1 → a ≠ b → (TX3 a).2.1 ≠ (TX3 b).2.1 := by decide +kernel
theorem tyX3_ok : ∀ k, k < 1 → parseFieldDescriptor (TX3 k).2.2.1 = some (tyX3 k) := by decide +kernel
abbrev cX3_init : ByteArray := prog_5_method_1_code
def yX3_init : MethodName := ⟨RX3, "<init>", "()V"⟩
abbrev cX3_draw : ByteArray := prog_5_method_2_code
def yX3_draw : MethodName := ⟨RX3, "draw", "(I)I"⟩
def RX4 : String := "BackHooks$Setting"
def TX4 : u_T := fun k => match k with
  | 0 => ("BackHooks$Setting", "hooks", "I", false)
  | 1 => ("BackHooks$Setting", "things", "I", false)
  | 2 => ("BackHooks$Setting", "takes", "[I", true)
  | 3 => ("BackHooks$Setting", "sort", "[I", true)
  | 4 => ("BackHooks$Setting", "warmth", "[I", true)
  | 5 => ("BackHooks$Setting", "mark", "[I", true)
  | 6 => ("BackHooks$Setting", "left", "[I", true)
  | _ => ("BackHooks$Setting", "silence", "[I", true)
def tyX4 : Nat → FieldType := fun k => match k with
  | 0 => .int
  | 1 => .int
  | 2 => .array .int
  | 3 => .array .int
  | 4 => .array .int
  | 5 => .array .int
  | 6 => .array .int
  | _ => .array .int
abbrev wsX40 : List Cond := u_ws RX4 TX4 8
theorem nmX4 : ∀ a, a < 8 → ∀ b, b < 8 → a ≠ b → (TX4 a).2.1 ≠ (TX4 b).2.1 := by decide +kernel
theorem tyX4_ok : ∀ k, k < 8 → parseFieldDescriptor (TX4 k).2.2.1 = some (tyX4 k) := by decide +kernel
abbrev cX4_init : ByteArray := prog_6_method_1_code
def yX4_init : MethodName := ⟨RX4, "<init>", "()V"⟩
abbrev cX4_takeHooks : ByteArray := prog_6_method_2_code
def yX4_takeHooks : MethodName := ⟨RX4, "takeHooks", "(LBackHooks$Text;)V"⟩
abbrev cX4_takeThings : ByteArray := prog_6_method_3_code
def yX4_takeThings : MethodName := ⟨RX4, "takeThings", "(LBackHooks$Text;)V"⟩
abbrev cX4_takeEvents : ByteArray := prog_6_method_4_code
def yX4_takeEvents : MethodName := ⟨RX4, "takeEvents", "(LBackHooks$Triples;I)V"⟩
abbrev cX4_takeEvent : ByteArray := prog_6_method_5_code
def yX4_takeEvent : MethodName := ⟨RX4, "takeEvent", "(III)V"⟩
abbrev cX4_copyFrom : ByteArray := prog_6_method_6_code
def yX4_copyFrom : MethodName := ⟨RX4, "copyFrom", "(LBackHooks$Setting;)V"⟩
abbrev cX4_allThings : ByteArray := prog_6_method_7_code
def yX4_allThings : MethodName := ⟨RX4, "allThings", "()I"⟩
abbrev cX4_exchange : ByteArray := prog_6_method_8_code
def yX4_exchange : MethodName := ⟨RX4, "exchange", "(II)V"⟩
abbrev cX4_exchangeIn : ByteArray := prog_6_method_9_code
def yX4_exchangeIn : MethodName := ⟨RX4, "exchangeIn", "([III)V"⟩
def RX5 : String := "BackHooks$Sheet"
def TX5 : u_T := fun k => match k with
  | 0 => ("BackHooks$Sheet", "form", "I", false)
  | 1 => ("BackHooks$Sheet", "size", "I", false)
  | _ => ("BackHooks$Sheet", "items", "[I", true)
def tyX5 : Nat → FieldType := fun k => match k with
  | 0 => .int
  | 1 => .int
  | _ => .array .int
abbrev wsX50 : List Cond := u_ws RX5 TX5 3
theorem nmX5 : ∀ a, a < 3 → ∀ b, b < 3 → a ≠ b → (TX5 a).2.1 ≠ (TX5 b).2.1 := by decide +kernel
theorem tyX5_ok : ∀ k, k < 3 → parseFieldDescriptor (TX5 k).2.2.1 = some (tyX5 k) := by decide +kernel
abbrev cX5_init : ByteArray := prog_7_method_1_code
def yX5_init : MethodName := ⟨RX5, "<init>", "()V"⟩
abbrev cX5_isLost : ByteArray := prog_7_method_2_code
def yX5_isLost : MethodName := ⟨RX5, "isLost", "()Z"⟩
abbrev cX5_lay : ByteArray := prog_7_method_3_code
def yX5_lay : MethodName := ⟨RX5, "lay", "(II)V"⟩
abbrev cX5_findingAt : ByteArray := prog_7_method_4_code
def yX5_findingAt : MethodName := ⟨RX5, "findingAt", "(II)I"⟩
abbrev cX5_hasStretch : ByteArray := prog_7_method_5_code
def yX5_hasStretch : MethodName := ⟨RX5, "hasStretch", "(II)Z"⟩
abbrev cX5_lowestBits : ByteArray := prog_7_method_6_code
def yX5_lowestBits : MethodName := ⟨RX5, "lowestBits", "(I)I"⟩
def RX6 : String := "BackHooks$Text"
def TX6 : u_T := fun k => match k with
  | 0 => ("BackHooks$Text", "bytes", "[I", true)
  | 1 => ("BackHooks$Text", "limit", "I", true)
  | _ => ("BackHooks$Text", "length", "I", false)
def tyX6 : Nat → FieldType := fun k => match k with
  | 0 => .array .int
  | 1 => .int
  | _ => .int
abbrev wsX60 : List Cond := u_ws RX6 TX6 3
theorem nmX6 : ∀ a, a < 3 → ∀ b, b < 3 → a ≠ b → (TX6 a).2.1 ≠ (TX6 b).2.1 := by decide +kernel
theorem tyX6_ok : ∀ k, k < 3 → parseFieldDescriptor (TX6 k).2.2.1 = some (tyX6 k) := by decide +kernel
abbrev cX6_init : ByteArray := prog_8_method_1_code
def yX6_init : MethodName := ⟨RX6, "<init>", "(I)V"⟩
abbrev cX6_faultOfHooks : ByteArray := prog_8_method_2_code
def yX6_faultOfHooks : MethodName := ⟨RX6, "faultOfHooks", "()I"⟩
abbrev cX6_faultOfThings : ByteArray := prog_8_method_3_code
def yX6_faultOfThings : MethodName := ⟨RX6, "faultOfThings", "()I"⟩
abbrev cX6_mayStand : ByteArray := prog_8_method_4_code
def yX6_mayStand : MethodName := ⟨RX6, "mayStand", "(II)Z"⟩
abbrev cX6_minutesOf : ByteArray := prog_8_method_5_code
def yX6_minutesOf : MethodName := ⟨RX6, "minutesOf", "(I)I"⟩
abbrev cX6_sortOf : ByteArray := prog_8_method_6_code
def yX6_sortOf : MethodName := ⟨RX6, "sortOf", "(I)I"⟩
def RX7 : String := "BackHooks$Triples"
def TX7 : u_T := fun k => match k with
  | 0 => ("BackHooks$Triples", "first", "[I", true)
  | 1 => ("BackHooks$Triples", "second", "[I", true)
  | 2 => ("BackHooks$Triples", "third", "[I", true)
  | _ => ("BackHooks$Triples", "size", "I", false)
def tyX7 : Nat → FieldType := fun k => match k with
  | 0 => .array .int
  | 1 => .array .int
  | 2 => .array .int
  | _ => .int
abbrev wsX70 : List Cond := u_ws RX7 TX7 4
theorem nmX7 : ∀ a, a < 4 → ∀ b, b < 4 → a ≠ b → (TX7 a).2.1 ≠ (TX7 b).2.1 := by decide +kernel
theorem tyX7_ok : ∀ k, k < 4 → parseFieldDescriptor (TX7 k).2.2.1 = some (tyX7 k) := by decide +kernel
abbrev cX7_init : ByteArray := prog_9_method_1_code
def yX7_init : MethodName := ⟨RX7, "<init>", "()V"⟩
abbrev cX7_isFull : ByteArray := prog_9_method_2_code
def yX7_isFull : MethodName := ⟨RX7, "isFull", "()Z"⟩
abbrev cX7_append : ByteArray := prog_9_method_3_code
def yX7_append : MethodName := ⟨RX7, "append", "(III)V"⟩
def RX8 : String := "BackHooks"
def TX8 : u_T := fun k => match k with
  | 0 => ("BackHooks", "hookText", "LBackHooks$Text;", true)
  | 1 => ("BackHooks", "thingText", "LBackHooks$Text;", true)
  | 2 => ("BackHooks", "events", "LBackHooks$Triples;", true)
  | 3 => ("BackHooks", "sights", "LBackHooks$Triples;", true)
  | 4 => ("BackHooks", "sheets", "[LBackHooks$Sheet;", true)
  | 5 => ("BackHooks", "told", "LBackHooks$Setting;", true)
  | 6 => ("BackHooks", "tried", "LBackHooks$Setting;", true)
  | 7 => ("BackHooks", "toldCourse", "LBackHooks$Course;", true)
  | 8 => ("BackHooks", "triedCourse", "LBackHooks$Course;", true)
  | 9 => ("BackHooks", "choice", "LBackHooks$Choice;", true)
  | 10 => ("BackHooks", "heats", "LBackHooks$Heats;", true)
  | 11 => ("BackHooks", "lots", "LBackHooks$Lots;", true)
  | 12 => ("BackHooks", "ends", "[I", true)
  | 13 => ("BackHooks", "toldIsStale", "Z", false)
  | 14 => ("BackHooks", "endsAreStale", "Z", false)
  | _ => ("BackHooks", "latestFinding", "I", false)
def tyX8 : Nat → FieldType := fun k => match k with
  | 0 => .object "BackHooks$Text"
  | 1 => .object "BackHooks$Text"
  | 2 => .object "BackHooks$Triples"
  | 3 => .object "BackHooks$Triples"
  | 4 => .array (.object "BackHooks$Sheet")
  | 5 => .object "BackHooks$Setting"
  | 6 => .object "BackHooks$Setting"
  | 7 => .object "BackHooks$Course"
  | 8 => .object "BackHooks$Course"
  | 9 => .object "BackHooks$Choice"
  | 10 => .object "BackHooks$Heats"
  | 11 => .object "BackHooks$Lots"
  | 12 => .array .int
  | 13 => .boolean
  | 14 => .boolean
  | _ => .int
abbrev wsX80 : List Cond := u_ws RX8 TX8 16
theorem nmX8 : ∀ a, a < 16 → ∀ b, b < 16 → a ≠ b → (TX8 a).2.1 ≠ (TX8 b).2.1 := by decide +kernel
theorem tyX8_ok : ∀ k, k < 16 → parseFieldDescriptor (TX8 k).2.2.1 = some (tyX8 k) := by decide +kernel
abbrev cX8_init : ByteArray := prog_1_method_1_code
def yX8_init : MethodName := ⟨RX8, "<init>", "()V"⟩
abbrev cX8_type : ByteArray := prog_1_method_2_code
def yX8_type : MethodName := ⟨RX8, "type", "(II)I"⟩
abbrev cX8_wipe : ByteArray := prog_1_method_3_code
def yX8_wipe : MethodName := ⟨RX8, "wipe", "(I)I"⟩
abbrev cX8_undo : ByteArray := prog_1_method_4_code
def yX8_undo : MethodName := ⟨RX8, "undo", "(I)I"⟩
abbrev cX8_fault : ByteArray := prog_1_method_5_code
def yX8_fault : MethodName := ⟨RX8, "fault", "(I)I"⟩
abbrev cX8_hook : ByteArray := prog_1_method_6_code
def yX8_hook : MethodName := ⟨RX8, "hook", "(I)I"⟩
abbrev cX8_thing : ByteArray := prog_1_method_7_code
def yX8_thing : MethodName := ⟨RX8, "thing", "(II)I"⟩
abbrev cX8_event : ByteArray := prog_1_method_8_code
def yX8_event : MethodName := ⟨RX8, "event", "(III)I"⟩
abbrev cX8_back : ByteArray := prog_1_method_9_code
def yX8_back : MethodName := ⟨RX8, "back", "()I"⟩
abbrev cX8_read : ByteArray := prog_1_method_10_code
def yX8_read : MethodName := ⟨RX8, "read", "(I)I"⟩
abbrev cX8_heat : ByteArray := prog_1_method_11_code
def yX8_heat : MethodName := ⟨RX8, "heat", "(III)I"⟩
abbrev cX8_said : ByteArray := prog_1_method_12_code
def yX8_said : MethodName := ⟨RX8, "said", "(II)I"⟩
abbrev cX8_at : ByteArray := prog_1_method_13_code
def yX8_at : MethodName := ⟨RX8, "at", "(II)I"⟩
abbrev cX8_settled : ByteArray := prog_1_method_14_code
def yX8_settled : MethodName := ⟨RX8, "settled", "(I)I"⟩
abbrev cX8_sum : ByteArray := prog_1_method_15_code
def yX8_sum : MethodName := ⟨RX8, "sum", "(I)I"⟩
abbrev cX8_peace : ByteArray := prog_1_method_16_code
def yX8_peace : MethodName := ⟨RX8, "peace", "()I"⟩
abbrev cX8_longest : ByteArray := prog_1_method_17_code
def yX8_longest : MethodName := ⟨RX8, "longest", "()I"⟩
abbrev cX8_highest : ByteArray := prog_1_method_18_code
def yX8_highest : MethodName := ⟨RX8, "highest", "(I)I"⟩
abbrev cX8_sore : ByteArray := prog_1_method_19_code
def yX8_sore : MethodName := ⟨RX8, "sore", "()I"⟩
abbrev cX8_swap : ByteArray := prog_1_method_20_code
def yX8_swap : MethodName := ⟨RX8, "swap", "(I)I"⟩
abbrev cX8_fit : ByteArray := prog_1_method_21_code
def yX8_fit : MethodName := ⟨RX8, "fit", "()I"⟩
abbrev cX8_leave : ByteArray := prog_1_method_22_code
def yX8_leave : MethodName := ⟨RX8, "leave", "(II)I"⟩
abbrev cX8_spare : ByteArray := prog_1_method_23_code
def yX8_spare : MethodName := ⟨RX8, "spare", "(I)I"⟩
abbrev cX8_seen : ByteArray := prog_1_method_24_code
def yX8_seen : MethodName := ⟨RX8, "seen", "(III)I"⟩
abbrev cX8_forget : ByteArray := prog_1_method_25_code
def yX8_forget : MethodName := ⟨RX8, "forget", "()I"⟩
abbrev cX8_never : ByteArray := prog_1_method_26_code
def yX8_never : MethodName := ⟨RX8, "never", "()I"⟩
abbrev cX8_was : ByteArray := prog_1_method_27_code
def yX8_was : MethodName := ⟨RX8, "was", "(II)I"⟩
abbrev cX8_ask : ByteArray := prog_1_method_28_code
def yX8_ask : MethodName := ⟨RX8, "ask", "(I)I"⟩
abbrev cX8_chance : ByteArray := prog_1_method_29_code
def yX8_chance : MethodName := ⟨RX8, "chance", "(III)J"⟩
abbrev cX8_seasons : ByteArray := prog_1_method_30_code
def yX8_seasons : MethodName := ⟨RX8, "seasons", "(III)I"⟩
abbrev cX8_sheet : ByteArray := prog_1_method_31_code
def yX8_sheet : MethodName := ⟨RX8, "sheet", "(III)I"⟩
abbrev cX8_lose : ByteArray := prog_1_method_32_code
def yX8_lose : MethodName := ⟨RX8, "lose", "(I)I"⟩
abbrev cX8_put : ByteArray := prog_1_method_33_code
def yX8_put : MethodName := ⟨RX8, "put", "(IIII)I"⟩
abbrev cX8_get : ByteArray := prog_1_method_34_code
def yX8_get : MethodName := ⟨RX8, "get", "(III)I"⟩
abbrev cX8_copy : ByteArray := prog_1_method_35_code
def yX8_copy : MethodName := ⟨RX8, "copy", "(IIIII)I"⟩
abbrev cX8_write : ByteArray := prog_1_method_36_code
def yX8_write : MethodName := ⟨RX8, "write", "(II)I"⟩
abbrev cX8_count : ByteArray := prog_1_method_37_code
def yX8_count : MethodName := ⟨RX8, "count", "(I)I"⟩
abbrev cX8_digest : ByteArray := prog_1_method_38_code
def yX8_digest : MethodName := ⟨RX8, "digest", "()J"⟩
abbrev cX8_foldHook : ByteArray := prog_1_method_39_code
def yX8_foldHook : MethodName := ⟨RX8, "foldHook", "(JI)J"⟩
abbrev cX8_foldEvening : ByteArray := prog_1_method_40_code
def yX8_foldEvening : MethodName := ⟨RX8, "foldEvening", "(JI)J"⟩
abbrev cX8_foldThing : ByteArray := prog_1_method_41_code
def yX8_foldThing : MethodName := ⟨RX8, "foldThing", "(JI)J"⟩
abbrev cX8_foldHeat : ByteArray := prog_1_method_42_code
def yX8_foldHeat : MethodName := ⟨RX8, "foldHeat", "(JI)J"⟩
abbrev cX8_foldSums : ByteArray := prog_1_method_43_code
def yX8_foldSums : MethodName := ⟨RX8, "foldSums", "(J)J"⟩
abbrev cX8_foldPlans : ByteArray := prog_1_method_44_code
def yX8_foldPlans : MethodName := ⟨RX8, "foldPlans", "(J)J"⟩
abbrev cX8_isBelow : ByteArray := prog_1_method_45_code
def yX8_isBelow : MethodName := ⟨RX8, "isBelow", "(II)Z"⟩
abbrev cX8_isText : ByteArray := prog_1_method_46_code
def yX8_isText : MethodName := ⟨RX8, "isText", "(I)Z"⟩
abbrev cX8_isEvening : ByteArray := prog_1_method_47_code
def yX8_isEvening : MethodName := ⟨RX8, "isEvening", "(I)Z"⟩
abbrev cX8_isSheet : ByteArray := prog_1_method_48_code
def yX8_isSheet : MethodName := ⟨RX8, "isSheet", "(I)Z"⟩
abbrev cX8_isEvent : ByteArray := prog_1_method_49_code
def yX8_isEvent : MethodName := ⟨RX8, "isEvent", "(III)Z"⟩
abbrev cX8_isHook : ByteArray := prog_1_method_50_code
def yX8_isHook : MethodName := ⟨RX8, "isHook", "(I)Z"⟩
abbrev cX8_isThing : ByteArray := prog_1_method_51_code
def yX8_isThing : MethodName := ⟨RX8, "isThing", "(I)Z"⟩
abbrev cX8_textOf : ByteArray := prog_1_method_52_code
def yX8_textOf : MethodName := ⟨RX8, "textOf", "(I)LBackHooks$Text;"⟩
abbrev cX8_findingOf : ByteArray := prog_1_method_53_code
def yX8_findingOf : MethodName := ⟨RX8, "findingOf", "(I)I"⟩
abbrev cX8_sumOf : ByteArray := prog_1_method_54_code
def yX8_sumOf : MethodName := ⟨RX8, "sumOf", "([I)I"⟩
abbrev cX8_noteChange : ByteArray := prog_1_method_55_code
def yX8_noteChange : MethodName := ⟨RX8, "noteChange", "()V"⟩
abbrev cX8_refresh : ByteArray := prog_1_method_56_code
def yX8_refresh : MethodName := ⟨RX8, "refresh", "()V"⟩
abbrev cX8_allEvents : ByteArray := prog_1_method_57_code
def yX8_allEvents : MethodName := ⟨RX8, "allEvents", "()I"⟩
abbrev cX8_unsettledThings : ByteArray := prog_1_method_58_code
def yX8_unsettledThings : MethodName := ⟨RX8, "unsettledThings", "()I"⟩
abbrev cX8_fewestHooks : ByteArray := prog_1_method_59_code
def yX8_fewestHooks : MethodName := ⟨RX8, "fewestHooks", "()I"⟩
abbrev cX8_chooseSwap : ByteArray := prog_1_method_60_code
def yX8_chooseSwap : MethodName := ⟨RX8, "chooseSwap", "()V"⟩
abbrev cX8_chooseLeft : ByteArray := prog_1_method_61_code
def yX8_chooseLeft : MethodName := ⟨RX8, "chooseLeft", "(I)V"⟩
abbrev cX8_chooseSpared : ByteArray := prog_1_method_62_code
def yX8_chooseSpared : MethodName := ⟨RX8, "chooseSpared", "()V"⟩
abbrev cX8_eventsThatNeverWere : ByteArray := prog_1_method_63_code
def yX8_eventsThatNeverWere : MethodName := ⟨RX8, "eventsThatNeverWere", "()I"⟩
abbrev cX8_allComesOut : ByteArray := prog_1_method_64_code
def yX8_allComesOut : MethodName := ⟨RX8, "allComesOut", "()Z"⟩
abbrev cX8_sortsThatFit : ByteArray := prog_1_method_65_code
def yX8_sortsThatFit : MethodName := ⟨RX8, "sortsThatFit", "(I)I"⟩
abbrev cX8_tryHeats : ByteArray := prog_1_method_66_code
def yX8_tryHeats : MethodName := ⟨RX8, "tryHeats", "(I)V"⟩
abbrev cX8_refreshEnds : ByteArray := prog_1_method_67_code
def yX8_refreshEnds : MethodName := ⟨RX8, "refreshEnds", "()V"⟩
abbrev cX8_chanceOf : ByteArray := prog_1_method_68_code
def yX8_chanceOf : MethodName := ⟨RX8, "chanceOf", "(III)J"⟩
abbrev cX8_weightOf : ByteArray := prog_1_method_69_code
def yX8_weightOf : MethodName := ⟨RX8, "weightOf", "(II)J"⟩
abbrev cX8_runSeason : ByteArray := prog_1_method_70_code
def yX8_runSeason : MethodName := ⟨RX8, "runSeason", "(II)V"⟩
def RX9 : String := "BackHooksModel"
def TX9 : u_T := fun k => match k with
  | 0 => ("BackHooksModel", "typed", "[I", true)
  | 1 => ("BackHooksModel", "texts", "[I", true)
  | 2 => ("BackHooksModel", "hooks", "I", false)
  | 3 => ("BackHooksModel", "minutes", "[I", true)
  | 4 => ("BackHooksModel", "things", "I", false)
  | 5 => ("BackHooksModel", "sorts", "[I", true)
  | 6 => ("BackHooksModel", "heats", "[I", true)
  | 7 => ("BackHooksModel", "marks", "[I", true)
  | 8 => ("BackHooksModel", "events", "I", false)
  | 9 => ("BackHooksModel", "eventKind", "[I", true)
  | 10 => ("BackHooksModel", "eventAt", "[I", true)
  | 11 => ("BackHooksModel", "eventNumber", "[I", true)
  | 12 => ("BackHooksModel", "thingsNow", "I", false)
  | 13 => ("BackHooksModel", "sortNow", "[I", true)
  | 14 => ("BackHooksModel", "firstHeat", "[I", true)
  | 15 => ("BackHooksModel", "markNow", "[I", true)
  | 16 => ("BackHooksModel", "hooksNow", "I", false)
  | 17 => ("BackHooksModel", "besidesAt", "I", false)
  | 18 => ("BackHooksModel", "besides", "I", false)
  | 19 => ("BackHooksModel", "notEvents", "I", false)
  | 20 => ("BackHooksModel", "maid", "I", false)
  | 21 => ("BackHooksModel", "front", "I", false)
  | 22 => ("BackHooksModel", "left", "I", false)
  | 23 => ("BackHooksModel", "lastHook", "I", false)
  | 24 => ("BackHooksModel", "settledNow", "I", false)
  | 25 => ("BackHooksModel", "minutesNow", "I", false)
  | 26 => ("BackHooksModel", "holidayNow", "I", false)
  | 27 => ("BackHooksModel", "nothingNow", "I", false)
  | 28 => ("BackHooksModel", "allMinutes", "I", false)
  | 29 => ("BackHooksModel", "allHoliday", "I", false)
  | 30 => ("BackHooksModel", "allNothing", "I", false)
  | 31 => ("BackHooksModel", "peaceAt", "I", false)
  | 32 => ("BackHooksModel", "heat", "[I", true)
  | 33 => ("BackHooksModel", "saidNow", "[I", true)
  | 34 => ("BackHooksModel", "saidAll", "[I", true)
  | 35 => ("BackHooksModel", "settledAt", "[I", true)
  | 36 => ("BackHooksModel", "highestAt", "[I", true)
  | 37 => ("BackHooksModel", "heatAt", "[I", true)
  | 38 => ("BackHooksModel", "saidAt", "[I", true)
  | 39 => ("BackHooksModel", "lastSaid", "[I", true)
  | 40 => ("BackHooksModel", "tells", "[I", true)
  | 41 => ("BackHooksModel", "coldAt", "[I", true)
  | 42 => ("BackHooksModel", "bestNow", "I", false)
  | 43 => ("BackHooksModel", "mostNow", "I", false)
  | 44 => ("BackHooksModel", "mostHoliday", "I", false)
  | 45 => ("BackHooksModel", "planRow", "[I", true)
  | 46 => ("BackHooksModel", "seens", "I", false)
  | 47 => ("BackHooksModel", "seenAt", "[I", true)
  | 48 => ("BackHooksModel", "seenThing", "[I", true)
  | 49 => ("BackHooksModel", "seenIs", "[I", true)
  | 50 => ("BackHooksModel", "coldBy", "[I", true)
  | 51 => ("BackHooksModel", "isThere", "[Z", true)
  | 52 => ("BackHooksModel", "forms", "[I", true)
  | 53 => ("BackHooksModel", "sizes", "[I", true)
  | 54 => ("BackHooksModel", "items", "[I", true)
  | 55 => ("BackHooksModel", "moved", "[I", true)
  | _ => ("BackHooksModel", "finding", "I", false)
def tyX9 : Nat → FieldType := fun k => match k with
  | 0 => .array .int
  | 1 => .array .int
  | 2 => .int
  | 3 => .array .int
  | 4 => .int
  | 5 => .array .int
  | 6 => .array .int
  | 7 => .array .int
  | 8 => .int
  | 9 => .array .int
  | 10 => .array .int
  | 11 => .array .int
  | 12 => .int
  | 13 => .array .int
  | 14 => .array .int
  | 15 => .array .int
  | 16 => .int
  | 17 => .int
  | 18 => .int
  | 19 => .int
  | 20 => .int
  | 21 => .int
  | 22 => .int
  | 23 => .int
  | 24 => .int
  | 25 => .int
  | 26 => .int
  | 27 => .int
  | 28 => .int
  | 29 => .int
  | 30 => .int
  | 31 => .int
  | 32 => .array .int
  | 33 => .array .int
  | 34 => .array .int
  | 35 => .array .int
  | 36 => .array .int
  | 37 => .array .int
  | 38 => .array .int
  | 39 => .array .int
  | 40 => .array .int
  | 41 => .array .int
  | 42 => .int
  | 43 => .int
  | 44 => .int
  | 45 => .array .int
  | 46 => .int
  | 47 => .array .int
  | 48 => .array .int
  | 49 => .array .int
  | 50 => .array .int
  | 51 => .array .boolean
  | 52 => .array .int
  | 53 => .array .int
  | 54 => .array .int
  | 55 => .array .int
  | _ => .int
abbrev wsX90 : List Cond := u_ws RX9 TX9 57
theorem nmX9 : ∀ a, a < 57 → ∀ b, b < 57 → a ≠ b → (TX9 a).2.1 ≠ (TX9 b).2.1 := by decide +kernel
theorem tyX9_ok : ∀ k, k < 57 → parseFieldDescriptor (TX9 k).2.2.1 = some (tyX9 k) := by decide +kernel
abbrev cX9_init : ByteArray := prog_11_method_1_code
def yX9_init : MethodName := ⟨RX9, "<init>", "()V"⟩
abbrev cX9_in : ByteArray := prog_11_method_3_code
def yX9_in : MethodName := ⟨RX9, "in", "(III)Z"⟩
abbrev cX9_isIn : ByteArray := prog_11_method_4_code
def yX9_isIn : MethodName := ⟨RX9, "isIn", "(II)Z"⟩
abbrev cX9_no : ByteArray := prog_11_method_5_code
def yX9_no : MethodName := ⟨RX9, "no", "(I)J"⟩
abbrev cX9_lowest : ByteArray := prog_11_method_6_code
def yX9_lowest : MethodName := ⟨RX9, "lowest", "(JJI)J"⟩
abbrev cX9_isTwo : ByteArray := prog_11_method_7_code
def yX9_isTwo : MethodName := ⟨RX9, "isTwo", "(I)Z"⟩
abbrev cX9_isThree : ByteArray := prog_11_method_8_code
def yX9_isThree : MethodName := ⟨RX9, "isThree", "(I)Z"⟩
abbrev cX9_isTwelve : ByteArray := prog_11_method_9_code
def yX9_isTwelve : MethodName := ⟨RX9, "isTwelve", "(I)Z"⟩
abbrev cX9_type : ByteArray := prog_11_method_10_code
def yX9_type : MethodName := ⟨RX9, "type", "(II)I"⟩
abbrev cX9_wipe : ByteArray := prog_11_method_11_code
def yX9_wipe : MethodName := ⟨RX9, "wipe", "(I)I"⟩
abbrev cX9_undo : ByteArray := prog_11_method_12_code
def yX9_undo : MethodName := ⟨RX9, "undo", "(I)I"⟩
abbrev cX9_byteAt : ByteArray := prog_11_method_13_code
def yX9_byteAt : MethodName := ⟨RX9, "byteAt", "(II)I"⟩
abbrev cX9_readsHooks : ByteArray := prog_11_method_14_code
def yX9_readsHooks : MethodName := ⟨RX9, "readsHooks", "()I"⟩
abbrev cX9_readsThing : ByteArray := prog_11_method_15_code
def yX9_readsThing : MethodName := ⟨RX9, "readsThing", "(II)I"⟩
abbrev cX9_readsThings : ByteArray := prog_11_method_16_code
def yX9_readsThings : MethodName := ⟨RX9, "readsThings", "()I"⟩
abbrev cX9_faultOf : ByteArray := prog_11_method_17_code
def yX9_faultOf : MethodName := ⟨RX9, "faultOf", "(I)I"⟩
abbrev cX9_reads : ByteArray := prog_11_method_18_code
def yX9_reads : MethodName := ⟨RX9, "reads", "()V"⟩
abbrev cX9_fault : ByteArray := prog_11_method_19_code
def yX9_fault : MethodName := ⟨RX9, "fault", "(I)I"⟩
abbrev cX9_isHook : ByteArray := prog_11_method_20_code
def yX9_isHook : MethodName := ⟨RX9, "isHook", "(I)Z"⟩
abbrev cX9_isThing : ByteArray := prog_11_method_21_code
def yX9_isThing : MethodName := ⟨RX9, "isThing", "(I)Z"⟩
abbrev cX9_hook : ByteArray := prog_11_method_22_code
def yX9_hook : MethodName := ⟨RX9, "hook", "(I)I"⟩
abbrev cX9_thingOf : ByteArray := prog_11_method_23_code
def yX9_thingOf : MethodName := ⟨RX9, "thingOf", "(II)I"⟩
abbrev cX9_thing : ByteArray := prog_11_method_24_code
def yX9_thing : MethodName := ⟨RX9, "thing", "(II)I"⟩
abbrev cX9_event : ByteArray := prog_11_method_25_code
def yX9_event : MethodName := ⟨RX9, "event", "(III)I"⟩
abbrev cX9_back : ByteArray := prog_11_method_26_code
def yX9_back : MethodName := ⟨RX9, "back", "()I"⟩
abbrev cX9_read : ByteArray := prog_11_method_27_code
def yX9_read : MethodName := ⟨RX9, "read", "(I)I"⟩
abbrev cX9_asTold : ByteArray := prog_11_method_28_code
def yX9_asTold : MethodName := ⟨RX9, "asTold", "()V"⟩
abbrev cX9_befalls : ByteArray := prog_11_method_29_code
def yX9_befalls : MethodName := ⟨RX9, "befalls", "(I)V"⟩
abbrev cX9_isOpen : ByteArray := prog_11_method_30_code
def yX9_isOpen : MethodName := ⟨RX9, "isOpen", "(I)Z"⟩
abbrev cX9_heatsUp : ByteArray := prog_11_method_31_code
def yX9_heatsUp : MethodName := ⟨RX9, "heatsUp", "()V"⟩
abbrev cX9_chosen : ByteArray := prog_11_method_32_code
def yX9_chosen : MethodName := ⟨RX9, "chosen", "(I)I"⟩
abbrev cX9_says : ByteArray := prog_11_method_33_code
def yX9_says : MethodName := ⟨RX9, "says", "(II)V"⟩
abbrev cX9_takes : ByteArray := prog_11_method_34_code
def yX9_takes : MethodName := ⟨RX9, "takes", "(I)I"⟩
abbrev cX9_lastOf : ByteArray := prog_11_method_35_code
def yX9_lastOf : MethodName := ⟨RX9, "lastOf", "()I"⟩
abbrev cX9_does : ByteArray := prog_11_method_36_code
def yX9_does : MethodName := ⟨RX9, "does", "(IZ)V"⟩
abbrev cX9_goesBy : ByteArray := prog_11_method_37_code
def yX9_goesBy : MethodName := ⟨RX9, "goesBy", "(I)V"⟩
abbrev cX9_notes : ByteArray := prog_11_method_38_code
def yX9_notes : MethodName := ⟨RX9, "notes", "(I)V"⟩
abbrev cX9_runs : ByteArray := prog_11_method_39_code
def yX9_runs : MethodName := ⟨RX9, "runs", "()V"⟩
abbrev cX9_runsTold : ByteArray := prog_11_method_40_code
def yX9_runsTold : MethodName := ⟨RX9, "runsTold", "()V"⟩
abbrev cX9_heatOf : ByteArray := prog_11_method_41_code
def yX9_heatOf : MethodName := ⟨RX9, "heatOf", "(III)I"⟩
abbrev cX9_heat : ByteArray := prog_11_method_42_code
def yX9_heat : MethodName := ⟨RX9, "heat", "(III)I"⟩
abbrev cX9_saidOf : ByteArray := prog_11_method_43_code
def yX9_saidOf : MethodName := ⟨RX9, "saidOf", "(II)I"⟩
abbrev cX9_said : ByteArray := prog_11_method_44_code
def yX9_said : MethodName := ⟨RX9, "said", "(II)I"⟩
abbrev cX9_atOf : ByteArray := prog_11_method_45_code
def yX9_atOf : MethodName := ⟨RX9, "atOf", "(II)I"⟩
abbrev cX9_at : ByteArray := prog_11_method_46_code
def yX9_at : MethodName := ⟨RX9, "at", "(II)I"⟩
abbrev cX9_settledOf : ByteArray := prog_11_method_47_code
def yX9_settledOf : MethodName := ⟨RX9, "settledOf", "(I)I"⟩
abbrev cX9_settled : ByteArray := prog_11_method_48_code
def yX9_settled : MethodName := ⟨RX9, "settled", "(I)I"⟩
abbrev cX9_manySettled : ByteArray := prog_11_method_49_code
def yX9_manySettled : MethodName := ⟨RX9, "manySettled", "()I"⟩
abbrev cX9_sumOf : ByteArray := prog_11_method_50_code
def yX9_sumOf : MethodName := ⟨RX9, "sumOf", "(I)I"⟩
abbrev cX9_sum : ByteArray := prog_11_method_51_code
def yX9_sum : MethodName := ⟨RX9, "sum", "(I)I"⟩
abbrev cX9_peaceOf : ByteArray := prog_11_method_52_code
def yX9_peaceOf : MethodName := ⟨RX9, "peaceOf", "()I"⟩
abbrev cX9_peace : ByteArray := prog_11_method_53_code
def yX9_peace : MethodName := ⟨RX9, "peace", "()I"⟩
abbrev cX9_longestOf : ByteArray := prog_11_method_54_code
def yX9_longestOf : MethodName := ⟨RX9, "longestOf", "()I"⟩
abbrev cX9_longest : ByteArray := prog_11_method_55_code
def yX9_longest : MethodName := ⟨RX9, "longest", "()I"⟩
abbrev cX9_highestOf : ByteArray := prog_11_method_56_code
def yX9_highestOf : MethodName := ⟨RX9, "highestOf", "(I)I"⟩
abbrev cX9_highest : ByteArray := prog_11_method_57_code
def yX9_highest : MethodName := ⟨RX9, "highest", "(I)I"⟩
abbrev cX9_soreOf : ByteArray := prog_11_method_58_code
def yX9_soreOf : MethodName := ⟨RX9, "soreOf", "()I"⟩
abbrev cX9_sore : ByteArray := prog_11_method_59_code
def yX9_sore : MethodName := ⟨RX9, "sore", "()I"⟩
abbrev cX9_starts : ByteArray := prog_11_method_60_code
def yX9_starts : MethodName := ⟨RX9, "starts", "()V"⟩
abbrev cX9_tries : ByteArray := prog_11_method_61_code
def yX9_tries : MethodName := ⟨RX9, "tries", "(I)V"⟩
abbrev cX9_puts : ByteArray := prog_11_method_62_code
def yX9_puts : MethodName := ⟨RX9, "puts", "(II)V"⟩
abbrev cX9_swapOf : ByteArray := prog_11_method_63_code
def yX9_swapOf : MethodName := ⟨RX9, "swapOf", "(I)I"⟩
abbrev cX9_swap : ByteArray := prog_11_method_64_code
def yX9_swap : MethodName := ⟨RX9, "swap", "(I)I"⟩
abbrev cX9_fitOf : ByteArray := prog_11_method_65_code
def yX9_fitOf : MethodName := ⟨RX9, "fitOf", "()I"⟩
abbrev cX9_fit : ByteArray := prog_11_method_66_code
def yX9_fit : MethodName := ⟨RX9, "fit", "()I"⟩
abbrev cX9_leaveOf : ByteArray := prog_11_method_67_code
def yX9_leaveOf : MethodName := ⟨RX9, "leaveOf", "(II)I"⟩
abbrev cX9_leaveTold : ByteArray := prog_11_method_68_code
def yX9_leaveTold : MethodName := ⟨RX9, "leaveTold", "(II)I"⟩
abbrev cX9_leave : ByteArray := prog_11_method_69_code
def yX9_leave : MethodName := ⟨RX9, "leave", "(II)I"⟩
abbrev cX9_isSpared : ByteArray := prog_11_method_70_code
def yX9_isSpared : MethodName := ⟨RX9, "isSpared", "(I)Z"⟩
abbrev cX9_spareBy : ByteArray := prog_11_method_71_code
def yX9_spareBy : MethodName := ⟨RX9, "spareBy", "()I"⟩
abbrev cX9_ofRow : ByteArray := prog_11_method_72_code
def yX9_ofRow : MethodName := ⟨RX9, "ofRow", "(II)I"⟩
abbrev cX9_spare : ByteArray := prog_11_method_73_code
def yX9_spare : MethodName := ⟨RX9, "spare", "(I)I"⟩
abbrev cX9_seen : ByteArray := prog_11_method_74_code
def yX9_seen : MethodName := ⟨RX9, "seen", "(III)I"⟩
abbrev cX9_forget : ByteArray := prog_11_method_75_code
def yX9_forget : MethodName := ⟨RX9, "forget", "()I"⟩
abbrev cX9_isSeen : ByteArray := prog_11_method_76_code
def yX9_isSeen : MethodName := ⟨RX9, "isSeen", "()Z"⟩
abbrev cX9_neverNow : ByteArray := prog_11_method_77_code
def yX9_neverNow : MethodName := ⟨RX9, "neverNow", "()I"⟩
abbrev cX9_never : ByteArray := prog_11_method_78_code
def yX9_never : MethodName := ⟨RX9, "never", "()I"⟩
abbrev cX9_heatsBy : ByteArray := prog_11_method_79_code
def yX9_heatsBy : MethodName := ⟨RX9, "heatsBy", "(I)I"⟩
abbrev cX9_sortsBy : ByteArray := prog_11_method_80_code
def yX9_sortsBy : MethodName := ⟨RX9, "sortsBy", "(I)I"⟩
abbrev cX9_was : ByteArray := prog_11_method_81_code
def yX9_was : MethodName := ⟨RX9, "was", "(II)I"⟩
abbrev cX9_askOf : ByteArray := prog_11_method_82_code
def yX9_askOf : MethodName := ⟨RX9, "askOf", "(I)I"⟩
abbrev cX9_ask : ByteArray := prog_11_method_83_code
def yX9_ask : MethodName := ⟨RX9, "ask", "(I)I"⟩
abbrev cX9_chanceOf : ByteArray := prog_11_method_84_code
def yX9_chanceOf : MethodName := ⟨RX9, "chanceOf", "(III)J"⟩
abbrev cX9_chance : ByteArray := prog_11_method_85_code
def yX9_chance : MethodName := ⟨RX9, "chance", "(III)J"⟩
abbrev cX9_seasonsOf : ByteArray := prog_11_method_86_code
def yX9_seasonsOf : MethodName := ⟨RX9, "seasonsOf", "(III)I"⟩
abbrev cX9_seasons : ByteArray := prog_11_method_87_code
def yX9_seasons : MethodName := ⟨RX9, "seasons", "(III)I"⟩
abbrev cX9_meets : ByteArray := prog_11_method_88_code
def yX9_meets : MethodName := ⟨RX9, "meets", "(I)I"⟩
abbrev cX9_isSheet : ByteArray := prog_11_method_89_code
def yX9_isSheet : MethodName := ⟨RX9, "isSheet", "(I)Z"⟩
abbrev cX9_sheet : ByteArray := prog_11_method_90_code
def yX9_sheet : MethodName := ⟨RX9, "sheet", "(III)I"⟩
abbrev cX9_lose : ByteArray := prog_11_method_91_code
def yX9_lose : MethodName := ⟨RX9, "lose", "(I)I"⟩
abbrev cX9_lacks : ByteArray := prog_11_method_92_code
def yX9_lacks : MethodName := ⟨RX9, "lacks", "(III)I"⟩
abbrev cX9_keep : ByteArray := prog_11_method_93_code
def yX9_keep : MethodName := ⟨RX9, "keep", "(III)V"⟩
abbrev cX9_put : ByteArray := prog_11_method_94_code
def yX9_put : MethodName := ⟨RX9, "put", "(IIII)I"⟩
abbrev cX9_get : ByteArray := prog_11_method_95_code
def yX9_get : MethodName := ⟨RX9, "get", "(III)I"⟩
abbrev cX9_copy : ByteArray := prog_11_method_96_code
def yX9_copy : MethodName := ⟨RX9, "copy", "(IIIII)I"⟩
abbrev cX9_write : ByteArray := prog_11_method_97_code
def yX9_write : MethodName := ⟨RX9, "write", "(II)I"⟩
abbrev cX9_tellOf : ByteArray := prog_11_method_98_code
def yX9_tellOf : MethodName := ⟨RX9, "tellOf", "(I)I"⟩
abbrev cX9_count : ByteArray := prog_11_method_99_code
def yX9_count : MethodName := ⟨RX9, "count", "(I)I"⟩
abbrev cX9_heatDigest : ByteArray := prog_11_method_100_code
def yX9_heatDigest : MethodName := ⟨RX9, "heatDigest", "(JII)J"⟩
abbrev cX9_thingDigest : ByteArray := prog_11_method_101_code
def yX9_thingDigest : MethodName := ⟨RX9, "thingDigest", "(JI)J"⟩
abbrev cX9_digest : ByteArray := prog_11_method_102_code
def yX9_digest : MethodName := ⟨RX9, "digest", "()J"⟩
def RJ9 : String := "java/lang/Math"
def TJ9 : u_T := fun k => match k with
  | _ => ("", "", "", false)
def tyJ9 : Nat → FieldType := fun k => match k with
  | _ => .int
abbrev wsJ90 : List Cond := u_ws RJ9 TJ9 0
theorem nmJ9 : ∀ a, a < 0 → ∀ b, b < 0 → a ≠ b → (TJ9 a).2.1 ≠ (TJ9 b).2.1 := by decide +kernel
theorem tyJ9_ok : ∀ k, k < 0 → parseFieldDescriptor (TJ9 k).2.2.1 = some (tyJ9 k) := by decide +kernel
abbrev cJ9_max_7cf53 : ByteArray := prog_12_method_65_code
def yJ9_max_7cf53 : MethodName := ⟨RJ9, "max", "(II)I"⟩
abbrev cJ9_min_7cf53 : ByteArray := prog_12_method_69_code
def yJ9_min_7cf53 : MethodName := ⟨RJ9, "min", "(II)I"⟩
def RJ10 : String := "java/lang/System"
def TJ10 : u_T := fun k => match k with
  | _ => ("", "", "", false)
def tyJ10 : Nat → FieldType := fun k => match k with
  | _ => .int
abbrev wsJ100 : List Cond := u_ws RJ10 TJ10 0
theorem nmJ10 : ∀ a, a < 0 → ∀ b, b < 0 → a ≠ b → (TJ10 a).2.1 ≠ (TJ10 b).2.1 := by decide +kernel
theorem tyJ10_ok : ∀ k, k < 0 → parseFieldDescriptor (TJ10 k).2.2.1 = some (tyJ10 k) := by decide +kernel
def RJ7 : String := "java/util/Arrays"
def TJ7 : u_T := fun k => match k with
  | _ => ("", "", "", false)
def tyJ7 : Nat → FieldType := fun k => match k with
  | _ => .int
abbrev wsJ70 : List Cond := u_ws RJ7 TJ7 0
theorem nmJ7 : ∀ a, a < 0 → ∀ b, b < 0 → a ≠ b → (TJ7 a).2.1 ≠ (TJ7 b).2.1 := by decide +kernel
theorem tyJ7_ok : ∀ k, k < 0 → parseFieldDescriptor (TJ7 k).2.2.1 = some (tyJ7 k) := by decide +kernel
abbrev cJ7_fill_53178 : ByteArray := prog_14_method_103_code
def yJ7_fill_53178 : MethodName := ⟨RJ7, "fill", "([II)V"⟩
def RL : String := "BackHooksLaw"
abbrev cL_law : ByteArray := code
def yL_law : MethodName := ⟨RL, "law", "([I)Z"⟩
abbrev vwCl : List vw_C := [(RX0, TX0, 5), (RX1, TX1, 12), (RX2, TX2, 2), (RX3, TX3, 1), (RX4, TX4, 8), (RX5, TX5, 3), (RX6, TX6, 3), (RX7, TX7, 4), (RX8, TX8, 16), (RX9, TX9, 57)]
end
section
/-! The world as one function of numbers, a judgement over it, a row an instruction. -/
abbrev bk_S : Type := Nat → Nat → Int32
abbrev bk_L : Type := Nat → ((Nat × Nat) ⊕ ((Nat × List (Option Nat)) ⊕ (Nat × (Nat → Nat))))
abbrev bk_Y : Type := bk_L × Nat
abbrev bk_W : Type := va_G × (Nat → Nat) × (Nat → ClassId)
def bk_r (w : bk_W) (k : Nat) : Nat := w.2.1 k
def bk_fs (w : bk_W) (g : Nat → Int32) : Nat → List (Option Nat) → List Value
  | _, [] => []
  | j, some q :: l => .ref (bk_r w q) :: bk_fs w g (j + 1) l
  | j, none :: l => .int (g j) :: bk_fs w g (j + 1) l
def bk_cell (Y : bk_Y) (w : bk_W) (σ : bk_S) (k : Nat) : va_E := match Y.1 k with
  | .inl q => .inl (w.2.2 q.1, q.2, .inl (σ k))
  | .inr (.inl q) => .inr (q.1, bk_fs w (σ k) 0 q.2)
  | .inr (.inr q) => .inl (w.2.2 2, q.1, .inr (.inr (.inr (.inr (fun j => some (bk_r w (q.2 j)))))))
def bk_wl (Y : bk_Y) (w : bk_W) (σ : bk_S) : va_W := (List.range Y.2).map fun k => (bk_r w k, bk_cell Y w σ k)
abbrev bk_tys (w : bk_W) : List (ClassId × FieldType) := [(w.2.2 0, .int), (w.2.2 1, .boolean), (w.2.2 2, .object "BackHooks$Sheet")]
def bk_is (Y : bk_Y) (k : Nat) (x : (Nat × Nat) ⊕ ((Nat × List (Option Nat)) ⊕ (Nat × (Nat → Nat)))) : Prop := Y.1 k = x ∧ k < Y.2
/-- a row of the state replaced -/
def bk_w (σ : bk_S) (k : Nat) (g : Nat → Int32) : bk_S := fun a => if a = k then g else σ a
/-- one number of the state replaced -/
def bk_u (σ : bk_S) (k j : Nat) (v : Int32) : bk_S := bk_w σ k (upd (σ k) j v)
def bk_lt {α : Type} (a : α) (f : α → Prop) : Prop := f a
def bk_jn {α : Type} (rest : α → Prop) (F : (α → Prop) → Prop) : Prop := F rest
def bk_lp {α : Type} (F : (α → Prop) → α → Prop) : Nat → α → Prop
  | 0, _ => False
  | n + 1, a => F (bk_lp F n) a
def bk_loop {α : Type} (F : (α → Prop) → α → Prop) (a : α) : Prop := ∃ n, bk_lp F n a
theorem bk_w_s (σ : bk_S) (k : Nat) (g : Nat → Int32) : bk_w σ k g k = g := if_pos rfl
theorem bk_w_n (σ : bk_S) {k a : Nat} (g : Nat → Int32) (h : a ≠ k) : bk_w σ k g a = σ a := if_neg h
theorem bk_fs_get (w : bk_W) (g : Nat → Int32) : ∀ (l : List (Option Nat)) (j k : Nat), (bk_fs w g j l)[k]? = (l[k]?).map (fun o => match o with | some q => Value.ref (bk_r w q) | none => Value.int (g (j + k)))
  | [], _, _ => by simp [bk_fs]
  | some q :: l, j, 0 => by simp [bk_fs]
  | none :: l, j, 0 => by simp [bk_fs]
  | some q :: l, j, k + 1 => by
    simp only [bk_fs, List.getElem?_cons_succ, bk_fs_get w g l (j + 1) k]
    rw [show j + 1 + k = j + (k + 1) by omega]
  | none :: l, j, k + 1 => by
    simp only [bk_fs, List.getElem?_cons_succ, bk_fs_get w g l (j + 1) k]
    rw [show j + 1 + k = j + (k + 1) by omega]
theorem bk_fs_len (w : bk_W) (g : Nat → Int32) : ∀ (l : List (Option Nat)) (j : Nat), (bk_fs w g j l).length = l.length
  | [], _ => rfl
  | some q :: l, j => by simp [bk_fs, bk_fs_len w g l]
  | none :: l, j => by simp [bk_fs, bk_fs_len w g l]
theorem bk_fs_congr (w : bk_W) {g g' : Nat → Int32} : ∀ (l : List (Option Nat)) (j : Nat), (∀ i, j ≤ i → g i = g' i) → bk_fs w g j l = bk_fs w g' j l
  | [], _, _ => rfl
  | some q :: l, j, h => by simp only [bk_fs]; rw [bk_fs_congr w l (j + 1) (fun i hi => h i (by omega))]
  | none :: l, j, h => by simp only [bk_fs]; rw [bk_fs_congr w l (j + 1) (fun i hi => h i (by omega)), h j (Nat.le_refl j)]
theorem bk_fs_set (w : bk_W) (g : Nat → Int32) (v : Int32) : ∀ (l : List (Option Nat)) (j k : Nat), l[k]? = some none → (bk_fs w g j l).set k (.int v) = bk_fs w (upd g (j + k) v) j l
  | [], _, _, h => by simp at h
  | some q :: l, j, 0, h => by simp at h
  | none :: l, j, 0, _ => by
    simp only [bk_fs, List.set_cons_zero, Nat.add_zero]
    rw [bk_fs_congr w (g := g) (g' := upd g j v) l (j + 1) (fun i hi => by simp [upd, show i ≠ j by omega])]
    simp [upd]
  | some q :: l, j, k + 1, h => by
    have h : l[k]? = some none := by simpa using h
    simp only [bk_fs, List.set_cons_succ, bk_fs_set w g v l (j + 1) k h]
    rw [show j + 1 + k = j + (k + 1) by omega]
  | none :: l, j, k + 1, h => by
    have h : l[k]? = some none := by simpa using h
    simp only [bk_fs, List.set_cons_succ, bk_fs_set w g v l (j + 1) k h]
    rw [show j + 1 + k = j + (k + 1) by omega]
    simp [upd, show j ≠ j + (k + 1) by omega]
theorem bk_wl_get (Y : bk_Y) (w : bk_W) (σ : bk_S) {k : Nat} (h : k < Y.2) : (bk_wl Y w σ)[k]? = some (bk_r w k, bk_cell Y w σ k) := by
  simp [bk_wl, h]
theorem bk_wl_none (Y : bk_Y) (w : bk_W) (σ : bk_S) {k : Nat} (h : Y.2 ≤ k) : (bk_wl Y w σ)[k]? = none := by
  simp [bk_wl, h]
theorem bk_wl_some {Y : bk_Y} {w : bk_W} {σ : bk_S} {k : Nat} {q : Nat × va_E} (h : (bk_wl Y w σ)[k]? = some q) : k < Y.2 ∧ q = (bk_r w k, bk_cell Y w σ k) := by
  rcases Nat.lt_or_ge k Y.2 with hk | hk
  · rw [bk_wl_get Y w σ hk] at h; exact ⟨hk, (Option.some.inj h).symm⟩
  · rw [bk_wl_none Y w σ hk] at h; cases h
theorem bk_cell_n (Y : bk_Y) (w : bk_W) (σ : bk_S) {k a : Nat} (g : Nat → Int32) (h : a ≠ k) : bk_cell Y w (bk_w σ k g) a = bk_cell Y w σ a := by
  simp only [bk_cell, bk_w_n σ g h]
theorem bk_wl_set (Y : bk_Y) (w : bk_W) (σ : bk_S) {k : Nat} (g : Nat → Int32) (h : k < Y.2) (x : va_E) (hx : bk_cell Y w (bk_w σ k g) k = x) : (bk_wl Y w σ).set k (bk_r w k, x) = bk_wl Y w (bk_w σ k g) := by
  apply List.ext_getElem?
  intro i
  rw [List.getElem?_set]
  by_cases hik : k = i
  · subst hik
    rw [if_pos rfl, bk_wl_get Y w _ h, hx]
    simp [bk_wl, h]
  · rw [if_neg hik]
    rcases Nat.lt_or_ge i Y.2 with hi | hi
    · rw [bk_wl_get Y w _ hi, bk_wl_get Y w _ hi, bk_cell_n Y w σ g (fun e => hik e.symm)]
    · rw [bk_wl_none Y w _ hi, bk_wl_none Y w _ hi]
abbrev bk_X : Type := (Program × Launch × Env × Room × State × MethodId × Array Value × List Frame × Method × Code) × (Nat × Nat × Nat × (State → Prop) × (Nat → Prop))
def bk_At (Y : bk_Y) (w : bk_W) (X : bk_X) (pc : Nat) (lv : List (Nat × Value)) (st : List Value) (σ : bk_S) : Prop := match X with
  | ((p, l, e, R, s, m, args, below, meth, c), (nL, cells, slots, Q, A)) => ∀ (H : Heap) (locs : List Loc) (ls : Array Slot), va_P w.1 vwCl (bk_wl Y w σ) H → va_S A s.heap H locs → lv_has ls nL lv → W p l e R s m args below meth c H locs cells slots Q (F0 m pc ls st)
def bk_D (Y : bk_Y) (w : bk_W) (A : Nat → Prop) : Prop := (∀ i j, i < Y.2 → j < Y.2 → bk_r w i = bk_r w j → i = j) ∧ ∀ k, k < Y.2 → A (bk_r w k)
def lw_good : List Cond := lw_tbl.filter goodWord
theorem bk_in {w : Cond} (i : Nat) (h : lw_tbl[i]? = some w) (g : goodWord w = true) : w ∈ lw_good := List.mem_filter.mpr ⟨List.mem_of_getElem? h, g⟩
def bk_nest : List (String × Nat × MethodName × String) := [(RX8, 23, yX7_init, RX8), (RX8, 39, yX4_init, RX8), (RX8, 49, yX1_init, RX8), (RX8, 59, yX0_init, RX8), (RX8, 66, yX2_init, RX8), (RX8, 73, yX3_init, RX8), (RX8, 93, yX5_init, RX8), (RX1, 118, yX8_sumOf, RX8), (RX5, 32, yX8_isBelow, RX8)]
def bk_N (U : State) : Prop := ∀ q ∈ bk_nest, va_Nw (.methodLinkNest q.1 q.2.1 q.2.2.1 q.2.2.2) U
theorem bk_N.warm {s U : State} (h : bk_N s) (hW : s.WarmedH U.vm) : bk_N U := fun q hq => va_Nw.warmM hW (h q hq)
theorem bk_N.same {s U : State} (h : bk_N s) (e : s.vm = U.vm) : bk_N U := fun q hq => va_Nw.same rfl e (h q hq)
def bk_Ok (Y : bk_Y) (w : bk_W) (X : bk_X) (cc : ByteArray) (own : String) (n fr lo : Nat) : Prop := match X with
  | ((p, l, e, R, s, m, args, below, meth, c), (nL, cells, slots, Q, A)) => p.tables.exec = Jvm.exec ∧ c.code = cc ∧ c.maxLocals = nL ∧ s.vm.findClass own = some m.cls ∧ (∀ w ∈ lw_good, w.before args s = true) ∧ va_K w.1 vwCl (bk_tys w) s ∧ bk_N s ∧ bk_D Y w A ∧ (∀ q, s.heap.size ≤ q → A q) ∧ nL = n ∧ fr ≤ R.frames ∧ lo ≤ R.locals ∧ cells ≤ R.cells ∧ slots ≤ R.slots
theorem bk_D.va {Y : bk_Y} {w : bk_W} {A : Nat → Prop} (h : bk_D Y w A) (σ : bk_S) : va_D A (bk_wl Y w σ) := by
  refine ⟨fun i j p q hi hj e => ?_, fun k q hk => ?_⟩
  · obtain ⟨h1, rfl⟩ := bk_wl_some hi
    obtain ⟨h2, rfl⟩ := bk_wl_some hj
    exact h.1 i j h1 h2 e
  · obtain ⟨h1, rfl⟩ := bk_wl_some hk
    exact h.2 k h1
theorem bk_D.of {Y : bk_Y} {w : bk_W} {A : Nat → Prop} {σ : bk_S} (h : va_D A (bk_wl Y w σ)) : bk_D Y w A :=
  ⟨fun i j hi hj e => h.1 i j _ _ (bk_wl_get Y w σ hi) (bk_wl_get Y w σ hj) e, fun k hk => h.2 k _ (bk_wl_get Y w σ hk)⟩
end
section
section Rows
variable {Y : bk_Y} {w : bk_W} {X : bk_X} {cc : ByteArray} {own : String} {n fr lo pc : Nat} {lv : List (Nat × Value)} {st : List Value} {σ : bk_S} {Z : Prop}
theorem bk_iadd (hX : bk_Ok Y w X cc own n fr lo) {x y : Int32} (d : decode cc pc = .ok (.iadd, 1)) (k : Z → bk_At Y w X (pc + 1) lv (.int (x + y) :: st) σ) : Z → bk_At Y w X pc lv (.int y :: .int x :: st) σ := by
  obtain ⟨⟨p, l, e, R, s, m, args, below, meth, c⟩, nL, cells, slots, Q, A⟩ := X
  obtain ⟨hx, hb, hml, hown, hts, hK, hN, hD, hA, rfl, hfr, hlo, hce, hsl⟩ := hX
  exact fun z H locs ls hP hS hl => lv_iadd hx hb d  (k z H locs ls hP hS hl)
theorem bk_isub (hX : bk_Ok Y w X cc own n fr lo) {x y : Int32} (d : decode cc pc = .ok (.isub, 1)) (k : Z → bk_At Y w X (pc + 1) lv (.int (x - y) :: st) σ) : Z → bk_At Y w X pc lv (.int y :: .int x :: st) σ := by
  obtain ⟨⟨p, l, e, R, s, m, args, below, meth, c⟩, nL, cells, slots, Q, A⟩ := X
  obtain ⟨hx, hb, hml, hown, hts, hK, hN, hD, hA, rfl, hfr, hlo, hce, hsl⟩ := hX
  exact fun z H locs ls hP hS hl => lv_isub hx hb d  (k z H locs ls hP hS hl)
theorem bk_imul (hX : bk_Ok Y w X cc own n fr lo) {x y : Int32} (d : decode cc pc = .ok (.imul, 1)) (k : Z → bk_At Y w X (pc + 1) lv (.int (x * y) :: st) σ) : Z → bk_At Y w X pc lv (.int y :: .int x :: st) σ := by
  obtain ⟨⟨p, l, e, R, s, m, args, below, meth, c⟩, nL, cells, slots, Q, A⟩ := X
  obtain ⟨hx, hb, hml, hown, hts, hK, hN, hD, hA, rfl, hfr, hlo, hce, hsl⟩ := hX
  exact fun z H locs ls hP hS hl => lv_imul hx hb d  (k z H locs ls hP hS hl)
theorem bk_iand (hX : bk_Ok Y w X cc own n fr lo) {x y : Int32} (d : decode cc pc = .ok (.iand, 1)) (k : Z → bk_At Y w X (pc + 1) lv (.int (x &&& y) :: st) σ) : Z → bk_At Y w X pc lv (.int y :: .int x :: st) σ := by
  obtain ⟨⟨p, l, e, R, s, m, args, below, meth, c⟩, nL, cells, slots, Q, A⟩ := X
  obtain ⟨hx, hb, hml, hown, hts, hK, hN, hD, hA, rfl, hfr, hlo, hce, hsl⟩ := hX
  exact fun z H locs ls hP hS hl => lv_iand hx hb d  (k z H locs ls hP hS hl)
theorem bk_ior (hX : bk_Ok Y w X cc own n fr lo) {x y : Int32} (d : decode cc pc = .ok (.ior, 1)) (k : Z → bk_At Y w X (pc + 1) lv (.int (x ||| y) :: st) σ) : Z → bk_At Y w X pc lv (.int y :: .int x :: st) σ := by
  obtain ⟨⟨p, l, e, R, s, m, args, below, meth, c⟩, nL, cells, slots, Q, A⟩ := X
  obtain ⟨hx, hb, hml, hown, hts, hK, hN, hD, hA, rfl, hfr, hlo, hce, hsl⟩ := hX
  exact fun z H locs ls hP hS hl => lv_ior hx hb d  (k z H locs ls hP hS hl)
theorem bk_ixor (hX : bk_Ok Y w X cc own n fr lo) {x y : Int32} (d : decode cc pc = .ok (.ixor, 1)) (k : Z → bk_At Y w X (pc + 1) lv (.int (x ^^^ y) :: st) σ) : Z → bk_At Y w X pc lv (.int y :: .int x :: st) σ := by
  obtain ⟨⟨p, l, e, R, s, m, args, below, meth, c⟩, nL, cells, slots, Q, A⟩ := X
  obtain ⟨hx, hb, hml, hown, hts, hK, hN, hD, hA, rfl, hfr, hlo, hce, hsl⟩ := hX
  exact fun z H locs ls hP hS hl => lv_ixor hx hb d  (k z H locs ls hP hS hl)
theorem bk_ishl (hX : bk_Ok Y w X cc own n fr lo) {x y : Int32} (d : decode cc pc = .ok (.ishl, 1)) (k : Z → bk_At Y w X (pc + 1) lv (.int (x <<< (y &&& 31)) :: st) σ) : Z → bk_At Y w X pc lv (.int y :: .int x :: st) σ := by
  obtain ⟨⟨p, l, e, R, s, m, args, below, meth, c⟩, nL, cells, slots, Q, A⟩ := X
  obtain ⟨hx, hb, hml, hown, hts, hK, hN, hD, hA, rfl, hfr, hlo, hce, hsl⟩ := hX
  exact fun z H locs ls hP hS hl => lv_ishl hx hb d  (k z H locs ls hP hS hl)
theorem bk_ishr (hX : bk_Ok Y w X cc own n fr lo) {x y : Int32} (d : decode cc pc = .ok (.ishr, 1)) (k : Z → bk_At Y w X (pc + 1) lv (.int (x >>> (y &&& 31)) :: st) σ) : Z → bk_At Y w X pc lv (.int y :: .int x :: st) σ := by
  obtain ⟨⟨p, l, e, R, s, m, args, below, meth, c⟩, nL, cells, slots, Q, A⟩ := X
  obtain ⟨hx, hb, hml, hown, hts, hK, hN, hD, hA, rfl, hfr, hlo, hce, hsl⟩ := hX
  exact fun z H locs ls hP hS hl => lv_ishr hx hb d  (k z H locs ls hP hS hl)
theorem bk_iushr (hX : bk_Ok Y w X cc own n fr lo) {x y : Int32} (d : decode cc pc = .ok (.iushr, 1)) (k : Z → bk_At Y w X (pc + 1) lv (.int ((x.toUInt32 >>> (y.toUInt32 &&& Int32.toUInt32 31)).toInt32) :: st) σ) : Z → bk_At Y w X pc lv (.int y :: .int x :: st) σ := by
  obtain ⟨⟨p, l, e, R, s, m, args, below, meth, c⟩, nL, cells, slots, Q, A⟩ := X
  obtain ⟨hx, hb, hml, hown, hts, hK, hN, hD, hA, rfl, hfr, hlo, hce, hsl⟩ := hX
  exact fun z H locs ls hP hS hl => lv_iushr hx hb d rfl (k z H locs ls hP hS hl)
theorem bk_ladd (hX : bk_Ok Y w X cc own n fr lo) {x y : Int64} (d : decode cc pc = .ok (.ladd, 1)) (k : Z → bk_At Y w X (pc + 1) lv (.long (x + y) :: st) σ) : Z → bk_At Y w X pc lv (.long y :: .long x :: st) σ := by
  obtain ⟨⟨p, l, e, R, s, m, args, below, meth, c⟩, nL, cells, slots, Q, A⟩ := X
  obtain ⟨hx, hb, hml, hown, hts, hK, hN, hD, hA, rfl, hfr, hlo, hce, hsl⟩ := hX
  exact fun z H locs ls hP hS hl => lv_ladd hx hb d  (k z H locs ls hP hS hl)
theorem bk_lsub (hX : bk_Ok Y w X cc own n fr lo) {x y : Int64} (d : decode cc pc = .ok (.lsub, 1)) (k : Z → bk_At Y w X (pc + 1) lv (.long (x - y) :: st) σ) : Z → bk_At Y w X pc lv (.long y :: .long x :: st) σ := by
  obtain ⟨⟨p, l, e, R, s, m, args, below, meth, c⟩, nL, cells, slots, Q, A⟩ := X
  obtain ⟨hx, hb, hml, hown, hts, hK, hN, hD, hA, rfl, hfr, hlo, hce, hsl⟩ := hX
  exact fun z H locs ls hP hS hl => lv_lsub hx hb d  (k z H locs ls hP hS hl)
theorem bk_lmul (hX : bk_Ok Y w X cc own n fr lo) {x y : Int64} (d : decode cc pc = .ok (.lmul, 1)) (k : Z → bk_At Y w X (pc + 1) lv (.long (x * y) :: st) σ) : Z → bk_At Y w X pc lv (.long y :: .long x :: st) σ := by
  obtain ⟨⟨p, l, e, R, s, m, args, below, meth, c⟩, nL, cells, slots, Q, A⟩ := X
  obtain ⟨hx, hb, hml, hown, hts, hK, hN, hD, hA, rfl, hfr, hlo, hce, hsl⟩ := hX
  exact fun z H locs ls hP hS hl => lv_lmul hx hb d  (k z H locs ls hP hS hl)
theorem bk_land (hX : bk_Ok Y w X cc own n fr lo) {x y : Int64} (d : decode cc pc = .ok (.land, 1)) (k : Z → bk_At Y w X (pc + 1) lv (.long (x &&& y) :: st) σ) : Z → bk_At Y w X pc lv (.long y :: .long x :: st) σ := by
  obtain ⟨⟨p, l, e, R, s, m, args, below, meth, c⟩, nL, cells, slots, Q, A⟩ := X
  obtain ⟨hx, hb, hml, hown, hts, hK, hN, hD, hA, rfl, hfr, hlo, hce, hsl⟩ := hX
  exact fun z H locs ls hP hS hl => lv_land hx hb d  (k z H locs ls hP hS hl)
theorem bk_lcmp (hX : bk_Ok Y w X cc own n fr lo) {x y : Int64} (d : decode cc pc = .ok (.lcmp, 1)) (k : Z → bk_At Y w X (pc + 1) lv (.int (lg_cmp x y) :: st) σ) : Z → bk_At Y w X pc lv (.long y :: .long x :: st) σ := by
  obtain ⟨⟨p, l, e, R, s, m, args, below, meth, c⟩, nL, cells, slots, Q, A⟩ := X
  obtain ⟨hx, hb, hml, hown, hts, hK, hN, hD, hA, rfl, hfr, hlo, hce, hsl⟩ := hX
  exact fun z H locs ls hP hS hl => W.lcmp hx hb d  (k z H locs ls hP hS hl)
theorem bk_lshl (hX : bk_Ok Y w X cc own n fr lo) {x : Int64} {y : Int32} (d : decode cc pc = .ok (.lshl, 1)) (k : Z → bk_At Y w X (pc + 1) lv (.long (x <<< (y.toInt64 &&& 63)) :: st) σ) : Z → bk_At Y w X pc lv (.int y :: .long x :: st) σ := by
  obtain ⟨⟨p, l, e, R, s, m, args, below, meth, c⟩, nL, cells, slots, Q, A⟩ := X
  obtain ⟨hx, hb, hml, hown, hts, hK, hN, hD, hA, rfl, hfr, hlo, hce, hsl⟩ := hX
  exact fun z H locs ls hP hS hl => lv_lshl hx hb d rfl (k z H locs ls hP hS hl)
theorem bk_lshr (hX : bk_Ok Y w X cc own n fr lo) {x : Int64} {y : Int32} (d : decode cc pc = .ok (.lshr, 1)) (k : Z → bk_At Y w X (pc + 1) lv (.long (x >>> (y.toInt64 &&& 63)) :: st) σ) : Z → bk_At Y w X pc lv (.int y :: .long x :: st) σ := by
  obtain ⟨⟨p, l, e, R, s, m, args, below, meth, c⟩, nL, cells, slots, Q, A⟩ := X
  obtain ⟨hx, hb, hml, hown, hts, hK, hN, hD, hA, rfl, hfr, hlo, hce, hsl⟩ := hX
  exact fun z H locs ls hP hS hl => lv_lshr hx hb d rfl (k z H locs ls hP hS hl)
theorem bk_i2l (hX : bk_Ok Y w X cc own n fr lo) {x : Int32} (d : decode cc pc = .ok (.i2l, 1)) (k : Z → bk_At Y w X (pc + 1) lv (.long x.toInt64 :: st) σ) : Z → bk_At Y w X pc lv (.int x :: st) σ := by
  obtain ⟨⟨p, l, e, R, s, m, args, below, meth, c⟩, nL, cells, slots, Q, A⟩ := X
  obtain ⟨hx, hb, hml, hown, hts, hK, hN, hD, hA, rfl, hfr, hlo, hce, hsl⟩ := hX
  exact fun z H locs ls hP hS hl => lv_i2l hx hb d rfl (k z H locs ls hP hS hl)
theorem bk_i2b (hX : bk_Ok Y w X cc own n fr lo) {x : Int32} (d : decode cc pc = .ok (.i2b, 1)) (k : Z → bk_At Y w X (pc + 1) lv (.int x.toInt8.toInt32 :: st) σ) : Z → bk_At Y w X pc lv (.int x :: st) σ := by
  obtain ⟨⟨p, l, e, R, s, m, args, below, meth, c⟩, nL, cells, slots, Q, A⟩ := X
  obtain ⟨hx, hb, hml, hown, hts, hK, hN, hD, hA, rfl, hfr, hlo, hce, hsl⟩ := hX
  exact fun z H locs ls hP hS hl => lv_i2b hx hb d rfl (k z H locs ls hP hS hl)
theorem bk_i2s (hX : bk_Ok Y w X cc own n fr lo) {x : Int32} (d : decode cc pc = .ok (.i2s, 1)) (k : Z → bk_At Y w X (pc + 1) lv (.int x.toInt16.toInt32 :: st) σ) : Z → bk_At Y w X pc lv (.int x :: st) σ := by
  obtain ⟨⟨p, l, e, R, s, m, args, below, meth, c⟩, nL, cells, slots, Q, A⟩ := X
  obtain ⟨hx, hb, hml, hown, hts, hK, hN, hD, hA, rfl, hfr, hlo, hce, hsl⟩ := hX
  exact fun z H locs ls hP hS hl => lv_i2s hx hb d rfl (k z H locs ls hP hS hl)
theorem bk_dup (hX : bk_Ok Y w X cc own n fr lo) {va : Value} (hv : va.category = 1) (d : decode cc pc = .ok (.dup, 1)) (k : Z → bk_At Y w X (pc + 1) lv (va :: va :: st) σ) : Z → bk_At Y w X pc lv (va :: st) σ := by
  obtain ⟨⟨p, l, e, R, s, m, args, below, meth, c⟩, nL, cells, slots, Q, A⟩ := X
  obtain ⟨hx, hb, hml, hown, hts, hK, hN, hD, hA, rfl, hfr, hlo, hce, hsl⟩ := hX
  exact fun z H locs ls hP hS hl => lv_dup hx hb d hv (k z H locs ls hP hS hl)
theorem bk_pop (hX : bk_Ok Y w X cc own n fr lo) {va : Value} (hv : va.category = 1) (d : decode cc pc = .ok (.pop, 1)) (k : Z → bk_At Y w X (pc + 1) lv (st) σ) : Z → bk_At Y w X pc lv (va :: st) σ := by
  obtain ⟨⟨p, l, e, R, s, m, args, below, meth, c⟩, nL, cells, slots, Q, A⟩ := X
  obtain ⟨hx, hb, hml, hown, hts, hK, hN, hD, hA, rfl, hfr, hlo, hce, hsl⟩ := hX
  exact fun z H locs ls hP hS hl => lv_pop hx hb d hv (k z H locs ls hP hS hl)
theorem bk_dup2 (hX : bk_Ok Y w X cc own n fr lo) {va vb : Value} (hv : va.category = 1) (hu : vb.category = 1) (d : decode cc pc = .ok (.dup2, 1)) (k : Z → bk_At Y w X (pc + 1) lv (va :: vb :: va :: vb :: st) σ) : Z → bk_At Y w X pc lv (va :: vb :: st) σ := by
  obtain ⟨⟨p, l, e, R, s, m, args, below, meth, c⟩, nL, cells, slots, Q, A⟩ := X
  obtain ⟨hx, hb, hml, hown, hts, hK, hN, hD, hA, rfl, hfr, hlo, hce, hsl⟩ := hX
  exact fun z H locs ls hP hS hl => lv_dup2_11 hx hb d hv hu (k z H locs ls hP hS hl)
theorem bk_iconst (hX : bk_Ok Y w X cc own n fr lo) {i : Int} {v : Int32} (hv : Int32.ofInt i = v) (d : decode cc pc = .ok (.iconst i, 1)) (k : Z → bk_At Y w X (pc + 1) lv (.int v :: st) σ) : Z → bk_At Y w X pc lv (st) σ := by
  obtain ⟨⟨p, l, e, R, s, m, args, below, meth, c⟩, nL, cells, slots, Q, A⟩ := X
  obtain ⟨hx, hb, hml, hown, hts, hK, hN, hD, hA, rfl, hfr, hlo, hce, hsl⟩ := hX
  exact fun z H locs ls hP hS hl => lv_iconst hx hb d hv (k z H locs ls hP hS hl)
theorem bk_bipush (hX : bk_Ok Y w X cc own n fr lo) {i : Int} {v : Int32} (hv : (Int8.ofInt i).toInt32 = v) (d : decode cc pc = .ok (.bipush i, 2)) (k : Z → bk_At Y w X (pc + 2) lv (.int v :: st) σ) : Z → bk_At Y w X pc lv (st) σ := by
  obtain ⟨⟨p, l, e, R, s, m, args, below, meth, c⟩, nL, cells, slots, Q, A⟩ := X
  obtain ⟨hx, hb, hml, hown, hts, hK, hN, hD, hA, rfl, hfr, hlo, hce, hsl⟩ := hX
  exact fun z H locs ls hP hS hl => lv_bipush hx hb d hv (k z H locs ls hP hS hl)
theorem bk_sipush (hX : bk_Ok Y w X cc own n fr lo) {i : Int} {v : Int32} (hv : (Int16.ofInt i).toInt32 = v) (d : decode cc pc = .ok (.sipush i, 3)) (k : Z → bk_At Y w X (pc + 3) lv (.int v :: st) σ) : Z → bk_At Y w X pc lv (st) σ := by
  obtain ⟨⟨p, l, e, R, s, m, args, below, meth, c⟩, nL, cells, slots, Q, A⟩ := X
  obtain ⟨hx, hb, hml, hown, hts, hK, hN, hD, hA, rfl, hfr, hlo, hce, hsl⟩ := hX
  exact fun z H locs ls hP hS hl => lv_sipush hx hb d hv (k z H locs ls hP hS hl)
theorem bk_lconst (hX : bk_Ok Y w X cc own n fr lo) {i : Fin 2} {v : Int64} (hv : Int64.ofNat (i : Nat) = v) (d : decode cc pc = .ok (.lconst i, 1)) (k : Z → bk_At Y w X (pc + 1) lv (.long v :: st) σ) : Z → bk_At Y w X pc lv (st) σ := by
  obtain ⟨⟨p, l, e, R, s, m, args, below, meth, c⟩, nL, cells, slots, Q, A⟩ := X
  obtain ⟨hx, hb, hml, hown, hts, hK, hN, hD, hA, rfl, hfr, hlo, hce, hsl⟩ := hX
  exact fun z H locs ls hP hS hl => lv_lconst hx hb d hv (k z H locs ls hP hS hl)
theorem bk_ldc (hX : bk_Ok Y w X cc own n fr lo) {i : Nat} {v : Int32} (hc : Jvm.Cond.constant own i v ∈ lw_good) (d : decode cc pc = .ok (.ldc i, 2)) (k : Z → bk_At Y w X (pc + 2) lv (.int v :: st) σ) : Z → bk_At Y w X pc lv st σ := by
  obtain ⟨⟨p, l, e, R, s, m, args, below, meth, c⟩, nL, cells, slots, Q, A⟩ := X
  obtain ⟨hx, hb, hml, hown, hts, hK, hN, hD, hA, rfl, hfr, hlo, hce, hsl⟩ := hX
  exact fun z H locs ls hP hS hl => lv_ldc hx hb hown (hts _ hc) d (k z H locs ls hP hS hl)
theorem bk_ldcw (hX : bk_Ok Y w X cc own n fr lo) {i : Nat} {v : Int32} (hc : Jvm.Cond.constant own i v ∈ lw_good) (d : decode cc pc = .ok (.ldc_w i, 3)) (k : Z → bk_At Y w X (pc + 3) lv (.int v :: st) σ) : Z → bk_At Y w X pc lv st σ := by
  obtain ⟨⟨p, l, e, R, s, m, args, below, meth, c⟩, nL, cells, slots, Q, A⟩ := X
  obtain ⟨hx, hb, hml, hown, hts, hK, hN, hD, hA, rfl, hfr, hlo, hce, hsl⟩ := hX
  exact fun z H locs ls hP hS hl => lv_ldcw hx hb hown (hts _ hc) d (k z H locs ls hP hS hl)
theorem bk_ldc2 (hX : bk_Ok Y w X cc own n fr lo) {i : Nat} {v : Int64} (hc : Jvm.Cond.constantLong own i v ∈ lw_good) (d : decode cc pc = .ok (.ldc2_w i, 3)) (k : Z → bk_At Y w X (pc + 3) lv (.long v :: st) σ) : Z → bk_At Y w X pc lv st σ := by
  obtain ⟨⟨p, l, e, R, s, m, args, below, meth, c⟩, nL, cells, slots, Q, A⟩ := X
  obtain ⟨hx, hb, hml, hown, hts, hK, hN, hD, hA, rfl, hfr, hlo, hce, hsl⟩ := hX
  exact fun z H locs ls hP hS hl => lv_ldc2 hx hb hown (hts _ hc) d (k z H locs ls hP hS hl)
theorem bk_irem (hX : bk_Ok Y w X cc own n fr lo) {x y : Int32} (d : decode cc pc = .ok (.irem, 1)) (k : Z → bk_At Y w X (pc + 1) lv (.int (x - x / y * y) :: st) σ) : ¬ y = 0 ∧ Z → bk_At Y w X pc lv (.int y :: .int x :: st) σ := by
  obtain ⟨⟨p, l, e, R, s, m, args, below, meth, c⟩, nL, cells, slots, Q, A⟩ := X
  obtain ⟨hx, hb, hml, hown, hts, hK, hN, hD, hA, rfl, hfr, hlo, hce, hsl⟩ := hX
  exact fun z H locs ls hP hS hl => lv_irem hx hb d z.1 (k z.2 H locs ls hP hS hl)
theorem bk_idiv (hX : bk_Ok Y w X cc own n fr lo) {x y : Int32} (d : decode cc pc = .ok (.idiv, 1)) (k : Z → bk_At Y w X (pc + 1) lv (.int (x / y) :: st) σ) : ¬ y = 0 ∧ Z → bk_At Y w X pc lv (.int y :: .int x :: st) σ := by
  obtain ⟨⟨p, l, e, R, s, m, args, below, meth, c⟩, nL, cells, slots, Q, A⟩ := X
  obtain ⟨hx, hb, hml, hown, hts, hK, hN, hD, hA, rfl, hfr, hlo, hce, hsl⟩ := hX
  exact fun z H locs ls hP hS hl => lv_idiv hx hb d z.1 (k z.2 H locs ls hP hS hl)
theorem bk_lrem (hX : bk_Ok Y w X cc own n fr lo) {x y : Int64} (d : decode cc pc = .ok (.lrem, 1)) (k : Z → bk_At Y w X (pc + 1) lv (.long (x - x / y * y) :: st) σ) : ¬ y = 0 ∧ Z → bk_At Y w X pc lv (.long y :: .long x :: st) σ := by
  obtain ⟨⟨p, l, e, R, s, m, args, below, meth, c⟩, nL, cells, slots, Q, A⟩ := X
  obtain ⟨hx, hb, hml, hown, hts, hK, hN, hD, hA, rfl, hfr, hlo, hce, hsl⟩ := hX
  exact fun z H locs ls hP hS hl => lv_lrem hx hb d z.1 (k z.2 H locs ls hP hS hl)
theorem bk_ldiv (hX : bk_Ok Y w X cc own n fr lo) {x y : Int64} (d : decode cc pc = .ok (.ldiv, 1)) (k : Z → bk_At Y w X (pc + 1) lv (.long (x / y) :: st) σ) : ¬ y = 0 ∧ Z → bk_At Y w X pc lv (.long y :: .long x :: st) σ := by
  obtain ⟨⟨p, l, e, R, s, m, args, below, meth, c⟩, nL, cells, slots, Q, A⟩ := X
  obtain ⟨hx, hb, hml, hown, hts, hK, hN, hD, hA, rfl, hfr, hlo, hce, hsl⟩ := hX
  exact fun z H locs ls hP hS hl => lv_ldiv hx hb d z.1 (k z.2 H locs ls hP hS hl)
theorem bk_iload_n (hX : bk_Ok Y w X cc own n fr lo) (j : Nat) {i : Fin 4} {x : Int32} (d : decode cc pc = .ok (.iload_n i, 1)) (h : lv[j]? = some ((i : Nat), .int x)) (k : Z → bk_At Y w X (pc + 1) lv (.int x :: st) σ) : Z → bk_At Y w X pc lv st σ := by
  obtain ⟨⟨p, l, e, R, s, m, args, below, meth, c⟩, nL, cells, slots, Q, A⟩ := X
  obtain ⟨hx, hb, hml, hown, hts, hK, hN, hD, hA, rfl, hfr, hlo, hce, hsl⟩ := hX
  exact fun z H locs ls hP hS hl => lv_iload_n hx hb d rfl (lv_at hl j h) (k z H locs ls hP hS hl)
theorem bk_iload (hX : bk_Ok Y w X cc own n fr lo) (j : Nat) {i : Nat} {x : Int32} (d : decode cc pc = .ok (.iload i, 2)) (h : lv[j]? = some (i, .int x)) (k : Z → bk_At Y w X (pc + 2) lv (.int x :: st) σ) : Z → bk_At Y w X pc lv st σ := by
  obtain ⟨⟨p, l, e, R, s, m, args, below, meth, c⟩, nL, cells, slots, Q, A⟩ := X
  obtain ⟨hx, hb, hml, hown, hts, hK, hN, hD, hA, rfl, hfr, hlo, hce, hsl⟩ := hX
  exact fun z H locs ls hP hS hl => lv_iload hx hb d (lv_at hl j h) (k z H locs ls hP hS hl)
theorem bk_lload_n (hX : bk_Ok Y w X cc own n fr lo) (j : Nat) {i : Fin 4} {x : Int64} (d : decode cc pc = .ok (.lload_n i, 1)) (h : lv[j]? = some ((i : Nat), .long x)) (k : Z → bk_At Y w X (pc + 1) lv (.long x :: st) σ) : Z → bk_At Y w X pc lv st σ := by
  obtain ⟨⟨p, l, e, R, s, m, args, below, meth, c⟩, nL, cells, slots, Q, A⟩ := X
  obtain ⟨hx, hb, hml, hown, hts, hK, hN, hD, hA, rfl, hfr, hlo, hce, hsl⟩ := hX
  exact fun z H locs ls hP hS hl => lv_lload_n hx hb d rfl (lv_at hl j h) (k z H locs ls hP hS hl)
theorem bk_lload (hX : bk_Ok Y w X cc own n fr lo) (j : Nat) {i : Nat} {x : Int64} (d : decode cc pc = .ok (.lload i, 2)) (h : lv[j]? = some (i, .long x)) (k : Z → bk_At Y w X (pc + 2) lv (.long x :: st) σ) : Z → bk_At Y w X pc lv st σ := by
  obtain ⟨⟨p, l, e, R, s, m, args, below, meth, c⟩, nL, cells, slots, Q, A⟩ := X
  obtain ⟨hx, hb, hml, hown, hts, hK, hN, hD, hA, rfl, hfr, hlo, hce, hsl⟩ := hX
  exact fun z H locs ls hP hS hl => lv_lload hx hb d (lv_at hl j h) (k z H locs ls hP hS hl)
theorem bk_aload_n (hX : bk_Ok Y w X cc own n fr lo) (j : Nat) {i : Fin 4} {x : Nat} (d : decode cc pc = .ok (.aload_n i, 1)) (h : lv[j]? = some ((i : Nat), .ref x)) (k : Z → bk_At Y w X (pc + 1) lv (.ref x :: st) σ) : Z → bk_At Y w X pc lv st σ := by
  obtain ⟨⟨p, l, e, R, s, m, args, below, meth, c⟩, nL, cells, slots, Q, A⟩ := X
  obtain ⟨hx, hb, hml, hown, hts, hK, hN, hD, hA, rfl, hfr, hlo, hce, hsl⟩ := hX
  exact fun z H locs ls hP hS hl => lv_aload_n hx hb d rfl (lv_at hl j h) (k z H locs ls hP hS hl)
theorem bk_aload (hX : bk_Ok Y w X cc own n fr lo) (j : Nat) {i : Nat} {x : Nat} (d : decode cc pc = .ok (.aload i, 2)) (h : lv[j]? = some (i, .ref x)) (k : Z → bk_At Y w X (pc + 2) lv (.ref x :: st) σ) : Z → bk_At Y w X pc lv st σ := by
  obtain ⟨⟨p, l, e, R, s, m, args, below, meth, c⟩, nL, cells, slots, Q, A⟩ := X
  obtain ⟨hx, hb, hml, hown, hts, hK, hN, hD, hA, rfl, hfr, hlo, hce, hsl⟩ := hX
  exact fun z H locs ls hP hS hl => lv_aload hx hb d (lv_at hl j h) (k z H locs ls hP hS hl)
theorem bk_istore_n (hX : bk_Ok Y w X cc own n fr lo) (lv' : Int32 → List (Nat × Value)) {Z : Int32 → Prop} {i : Fin 4} {x : Int32} (d : decode cc pc = .ok (.istore_n i, 1)) (hn : (i : Nat) < n) (h : ∀ v, ((i : Nat), Value.int v) :: lv.filter (fun q => !(q.1 == (i : Nat)) && !(q.1 + 1 == (i : Nat) && q.2.category == 2)) = lv' v) (k : ∀ v, Z v → bk_At Y w X (pc + 1) (lv' v) st σ) : bk_lt x Z → bk_At Y w X pc lv (.int x :: st) σ := by
  obtain ⟨⟨p, l, e, R, s, m, args, below, meth, c⟩, nL, cells, slots, Q, A⟩ := X
  obtain ⟨hx, hb, hml, hown, hts, hK, hN, hD, hA, rfl, hfr, hlo, hce, hsl⟩ := hX
  exact fun z H locs ls hP hS hl => lv_istore_n hx hb d rfl hl hn (h x) (fun ls hl => k x z H locs ls hP hS hl)
theorem bk_istore (hX : bk_Ok Y w X cc own n fr lo) (lv' : Int32 → List (Nat × Value)) {Z : Int32 → Prop} {i : Nat} {x : Int32} (d : decode cc pc = .ok (.istore i, 2)) (hn : (i : Nat) < n) (h : ∀ v, ((i : Nat), Value.int v) :: lv.filter (fun q => !(q.1 == (i : Nat)) && !(q.1 + 1 == (i : Nat) && q.2.category == 2)) = lv' v) (k : ∀ v, Z v → bk_At Y w X (pc + 2) (lv' v) st σ) : bk_lt x Z → bk_At Y w X pc lv (.int x :: st) σ := by
  obtain ⟨⟨p, l, e, R, s, m, args, below, meth, c⟩, nL, cells, slots, Q, A⟩ := X
  obtain ⟨hx, hb, hml, hown, hts, hK, hN, hD, hA, rfl, hfr, hlo, hce, hsl⟩ := hX
  exact fun z H locs ls hP hS hl => lv_istore hx hb d hl hn (h x) (fun ls hl => k x z H locs ls hP hS hl)
theorem bk_lstore_n (hX : bk_Ok Y w X cc own n fr lo) (lv' : Int64 → List (Nat × Value)) {Z : Int64 → Prop} {i : Fin 4} {x : Int64} (d : decode cc pc = .ok (.lstore_n i, 1)) (hn : (i : Nat) + 1 < n) (h : ∀ v, ((i : Nat), Value.long v) :: lv.filter (fun q => !(q.1 == (i : Nat)) && (!(q.1 == (i : Nat) + 1) && !(q.1 + 1 == (i : Nat) && q.2.category == 2))) = lv' v) (k : ∀ v, Z v → bk_At Y w X (pc + 1) (lv' v) st σ) : bk_lt x Z → bk_At Y w X pc lv (.long x :: st) σ := by
  obtain ⟨⟨p, l, e, R, s, m, args, below, meth, c⟩, nL, cells, slots, Q, A⟩ := X
  obtain ⟨hx, hb, hml, hown, hts, hK, hN, hD, hA, rfl, hfr, hlo, hce, hsl⟩ := hX
  exact fun z H locs ls hP hS hl => lv_lstore_n hx hb d rfl hl hn (h x) (fun ls hl => k x z H locs ls hP hS hl)
theorem bk_lstore (hX : bk_Ok Y w X cc own n fr lo) (lv' : Int64 → List (Nat × Value)) {Z : Int64 → Prop} {i : Nat} {x : Int64} (d : decode cc pc = .ok (.lstore i, 2)) (hn : (i : Nat) + 1 < n) (h : ∀ v, ((i : Nat), Value.long v) :: lv.filter (fun q => !(q.1 == (i : Nat)) && (!(q.1 == (i : Nat) + 1) && !(q.1 + 1 == (i : Nat) && q.2.category == 2))) = lv' v) (k : ∀ v, Z v → bk_At Y w X (pc + 2) (lv' v) st σ) : bk_lt x Z → bk_At Y w X pc lv (.long x :: st) σ := by
  obtain ⟨⟨p, l, e, R, s, m, args, below, meth, c⟩, nL, cells, slots, Q, A⟩ := X
  obtain ⟨hx, hb, hml, hown, hts, hK, hN, hD, hA, rfl, hfr, hlo, hce, hsl⟩ := hX
  exact fun z H locs ls hP hS hl => lv_lstore hx hb d hl hn (h x) (fun ls hl => k x z H locs ls hP hS hl)
theorem bk_astore_n (hX : bk_Ok Y w X cc own n fr lo) (lv' : List (Nat × Value)) {i : Fin 4} {x : Nat} (d : decode cc pc = .ok (.astore_n i, 1)) (hn : (i : Nat) < n) (h : ((i : Nat), Value.ref x) :: lv.filter (fun q => !(q.1 == (i : Nat)) && !(q.1 + 1 == (i : Nat) && q.2.category == 2)) = lv') (k : Z → bk_At Y w X (pc + 1) lv' st σ) : Z → bk_At Y w X pc lv (.ref x :: st) σ := by
  obtain ⟨⟨p, l, e, R, s, m, args, below, meth, c⟩, nL, cells, slots, Q, A⟩ := X
  obtain ⟨hx, hb, hml, hown, hts, hK, hN, hD, hA, rfl, hfr, hlo, hce, hsl⟩ := hX
  exact fun z H locs ls hP hS hl => lv_astore_n hx hb d rfl hl hn h (fun ls hl => k z H locs ls hP hS hl)
theorem bk_astore (hX : bk_Ok Y w X cc own n fr lo) (lv' : List (Nat × Value)) {i : Nat} {x : Nat} (d : decode cc pc = .ok (.astore i, 2)) (hn : (i : Nat) < n) (h : ((i : Nat), Value.ref x) :: lv.filter (fun q => !(q.1 == (i : Nat)) && !(q.1 + 1 == (i : Nat) && q.2.category == 2)) = lv') (k : Z → bk_At Y w X (pc + 2) lv' st σ) : Z → bk_At Y w X pc lv (.ref x :: st) σ := by
  obtain ⟨⟨p, l, e, R, s, m, args, below, meth, c⟩, nL, cells, slots, Q, A⟩ := X
  obtain ⟨hx, hb, hml, hown, hts, hK, hN, hD, hA, rfl, hfr, hlo, hce, hsl⟩ := hX
  exact fun z H locs ls hP hS hl => lv_astore hx hb d hl hn h (fun ls hl => k z H locs ls hP hS hl)
theorem bk_iinc (hX : bk_Ok Y w X cc own n fr lo) (j : Nat) (lv' : Int32 → List (Nat × Value)) {Z : Int32 → Prop} {i : Nat} {a : Int} {x v0 : Int32} (d : decode cc pc = .ok (.iinc i a, 3)) (hj : lv[j]? = some (i, .int x)) (hv : Int32.ofInt a = v0) (hn : i < n) (h : ∀ v, (i, Value.int v) :: lv.filter (fun q => !(q.1 == i) && !(q.1 + 1 == i && q.2.category == 2)) = lv' v) (k : ∀ v, Z v → bk_At Y w X (pc + 3) (lv' v) st σ) : bk_lt (x + v0) Z → bk_At Y w X pc lv st σ := by
  obtain ⟨⟨p, l, e, R, s, m, args, below, meth, c⟩, nL, cells, slots, Q, A⟩ := X
  obtain ⟨hx, hb, hml, hown, hts, hK, hN, hD, hA, rfl, hfr, hlo, hce, hsl⟩ := hX
  exact fun z H locs ls hP hS hl => lv_iinc (v := x + v0) hx hb d hl hj (by rw [hv]) hn (h _) (fun ls hl => k _ z H locs ls hP hS hl)
theorem bk_if_eq (hX : bk_Ok Y w X cc own n fr lo) {Z1 Z2 : Prop} {x : Int32} {off : Int} (tgt : Nat) (d : decode cc pc = .ok (.ifCond .eq off, 3)) (ht : (pc : Int) + off = (tgt : Int)) (k1 : Z1 → bk_At Y w X tgt lv st σ) (k2 : Z2 → bk_At Y w X (pc + 3) lv st σ) : (x = 0 → Z1) ∧ (¬ x = 0 → Z2) → bk_At Y w X pc lv (.int x :: st) σ := by
  obtain ⟨⟨p, l, e, R, s, m, args, below, meth, c⟩, nL, cells, slots, Q, A⟩ := X
  obtain ⟨hx, hb, hml, hown, hts, hK, hN, hD, hA, rfl, hfr, hlo, hce, hsl⟩ := hX
  exact fun z H locs ls hP hS hl => lv_if_eq hx hb d ht (fun h => k1 (z.1 h) H locs ls hP hS hl) (fun h => k2 (z.2 h) H locs ls hP hS hl)
theorem bk_if_ne (hX : bk_Ok Y w X cc own n fr lo) {Z1 Z2 : Prop} {x : Int32} {off : Int} (tgt : Nat) (d : decode cc pc = .ok (.ifCond .ne off, 3)) (ht : (pc : Int) + off = (tgt : Int)) (k1 : Z1 → bk_At Y w X tgt lv st σ) (k2 : Z2 → bk_At Y w X (pc + 3) lv st σ) : (¬ x = 0 → Z1) ∧ (x = 0 → Z2) → bk_At Y w X pc lv (.int x :: st) σ := by
  obtain ⟨⟨p, l, e, R, s, m, args, below, meth, c⟩, nL, cells, slots, Q, A⟩ := X
  obtain ⟨hx, hb, hml, hown, hts, hK, hN, hD, hA, rfl, hfr, hlo, hce, hsl⟩ := hX
  exact fun z H locs ls hP hS hl => lv_if_ne hx hb d ht (fun h => k1 (z.1 h) H locs ls hP hS hl) (fun h => k2 (z.2 h) H locs ls hP hS hl)
theorem bk_if_lt (hX : bk_Ok Y w X cc own n fr lo) {Z1 Z2 : Prop} {x : Int32} {off : Int} (tgt : Nat) (d : decode cc pc = .ok (.ifCond .lt off, 3)) (ht : (pc : Int) + off = (tgt : Int)) (k1 : Z1 → bk_At Y w X tgt lv st σ) (k2 : Z2 → bk_At Y w X (pc + 3) lv st σ) : (x < 0 → Z1) ∧ (¬ x < 0 → Z2) → bk_At Y w X pc lv (.int x :: st) σ := by
  obtain ⟨⟨p, l, e, R, s, m, args, below, meth, c⟩, nL, cells, slots, Q, A⟩ := X
  obtain ⟨hx, hb, hml, hown, hts, hK, hN, hD, hA, rfl, hfr, hlo, hce, hsl⟩ := hX
  exact fun z H locs ls hP hS hl => lv_if_lt hx hb d ht (fun h => k1 (z.1 h) H locs ls hP hS hl) (fun h => k2 (z.2 h) H locs ls hP hS hl)
theorem bk_if_ge (hX : bk_Ok Y w X cc own n fr lo) {Z1 Z2 : Prop} {x : Int32} {off : Int} (tgt : Nat) (d : decode cc pc = .ok (.ifCond .ge off, 3)) (ht : (pc : Int) + off = (tgt : Int)) (k1 : Z1 → bk_At Y w X tgt lv st σ) (k2 : Z2 → bk_At Y w X (pc + 3) lv st σ) : (0 ≤ x → Z1) ∧ (¬ 0 ≤ x → Z2) → bk_At Y w X pc lv (.int x :: st) σ := by
  obtain ⟨⟨p, l, e, R, s, m, args, below, meth, c⟩, nL, cells, slots, Q, A⟩ := X
  obtain ⟨hx, hb, hml, hown, hts, hK, hN, hD, hA, rfl, hfr, hlo, hce, hsl⟩ := hX
  exact fun z H locs ls hP hS hl => lv_if_ge hx hb d ht (fun h => k1 (z.1 h) H locs ls hP hS hl) (fun h => k2 (z.2 h) H locs ls hP hS hl)
theorem bk_if_gt (hX : bk_Ok Y w X cc own n fr lo) {Z1 Z2 : Prop} {x : Int32} {off : Int} (tgt : Nat) (d : decode cc pc = .ok (.ifCond .gt off, 3)) (ht : (pc : Int) + off = (tgt : Int)) (k1 : Z1 → bk_At Y w X tgt lv st σ) (k2 : Z2 → bk_At Y w X (pc + 3) lv st σ) : (0 < x → Z1) ∧ (¬ 0 < x → Z2) → bk_At Y w X pc lv (.int x :: st) σ := by
  obtain ⟨⟨p, l, e, R, s, m, args, below, meth, c⟩, nL, cells, slots, Q, A⟩ := X
  obtain ⟨hx, hb, hml, hown, hts, hK, hN, hD, hA, rfl, hfr, hlo, hce, hsl⟩ := hX
  exact fun z H locs ls hP hS hl => lv_if_gt hx hb d ht (fun h => k1 (z.1 h) H locs ls hP hS hl) (fun h => k2 (z.2 h) H locs ls hP hS hl)
theorem bk_if_le (hX : bk_Ok Y w X cc own n fr lo) {Z1 Z2 : Prop} {x : Int32} {off : Int} (tgt : Nat) (d : decode cc pc = .ok (.ifCond .le off, 3)) (ht : (pc : Int) + off = (tgt : Int)) (k1 : Z1 → bk_At Y w X tgt lv st σ) (k2 : Z2 → bk_At Y w X (pc + 3) lv st σ) : (x ≤ 0 → Z1) ∧ (¬ x ≤ 0 → Z2) → bk_At Y w X pc lv (.int x :: st) σ := by
  obtain ⟨⟨p, l, e, R, s, m, args, below, meth, c⟩, nL, cells, slots, Q, A⟩ := X
  obtain ⟨hx, hb, hml, hown, hts, hK, hN, hD, hA, rfl, hfr, hlo, hce, hsl⟩ := hX
  exact fun z H locs ls hP hS hl => lv_if_le hx hb d ht (fun h => k1 (z.1 h) H locs ls hP hS hl) (fun h => k2 (z.2 h) H locs ls hP hS hl)
theorem bk_icmp_eq (hX : bk_Ok Y w X cc own n fr lo) {Z1 Z2 : Prop} {x y : Int32} {off : Int} (tgt : Nat) (d : decode cc pc = .ok (.if_icmp .eq off, 3)) (ht : (pc : Int) + off = (tgt : Int)) (k1 : Z1 → bk_At Y w X tgt lv st σ) (k2 : Z2 → bk_At Y w X (pc + 3) lv st σ) : (x = y → Z1) ∧ (¬ x = y → Z2) → bk_At Y w X pc lv (.int y :: .int x :: st) σ := by
  obtain ⟨⟨p, l, e, R, s, m, args, below, meth, c⟩, nL, cells, slots, Q, A⟩ := X
  obtain ⟨hx, hb, hml, hown, hts, hK, hN, hD, hA, rfl, hfr, hlo, hce, hsl⟩ := hX
  exact fun z H locs ls hP hS hl => lv_icmp_eq hx hb d ht (fun h => k1 (z.1 h) H locs ls hP hS hl) (fun h => k2 (z.2 h) H locs ls hP hS hl)
theorem bk_icmp_ne (hX : bk_Ok Y w X cc own n fr lo) {Z1 Z2 : Prop} {x y : Int32} {off : Int} (tgt : Nat) (d : decode cc pc = .ok (.if_icmp .ne off, 3)) (ht : (pc : Int) + off = (tgt : Int)) (k1 : Z1 → bk_At Y w X tgt lv st σ) (k2 : Z2 → bk_At Y w X (pc + 3) lv st σ) : (¬ x = y → Z1) ∧ (x = y → Z2) → bk_At Y w X pc lv (.int y :: .int x :: st) σ := by
  obtain ⟨⟨p, l, e, R, s, m, args, below, meth, c⟩, nL, cells, slots, Q, A⟩ := X
  obtain ⟨hx, hb, hml, hown, hts, hK, hN, hD, hA, rfl, hfr, hlo, hce, hsl⟩ := hX
  exact fun z H locs ls hP hS hl => lv_icmp_ne hx hb d ht (fun h => k1 (z.1 h) H locs ls hP hS hl) (fun h => k2 (z.2 h) H locs ls hP hS hl)
theorem bk_icmp_lt (hX : bk_Ok Y w X cc own n fr lo) {Z1 Z2 : Prop} {x y : Int32} {off : Int} (tgt : Nat) (d : decode cc pc = .ok (.if_icmp .lt off, 3)) (ht : (pc : Int) + off = (tgt : Int)) (k1 : Z1 → bk_At Y w X tgt lv st σ) (k2 : Z2 → bk_At Y w X (pc + 3) lv st σ) : (x < y → Z1) ∧ (¬ x < y → Z2) → bk_At Y w X pc lv (.int y :: .int x :: st) σ := by
  obtain ⟨⟨p, l, e, R, s, m, args, below, meth, c⟩, nL, cells, slots, Q, A⟩ := X
  obtain ⟨hx, hb, hml, hown, hts, hK, hN, hD, hA, rfl, hfr, hlo, hce, hsl⟩ := hX
  exact fun z H locs ls hP hS hl => lv_icmp_lt hx hb d ht (fun h => k1 (z.1 h) H locs ls hP hS hl) (fun h => k2 (z.2 h) H locs ls hP hS hl)
theorem bk_icmp_ge (hX : bk_Ok Y w X cc own n fr lo) {Z1 Z2 : Prop} {x y : Int32} {off : Int} (tgt : Nat) (d : decode cc pc = .ok (.if_icmp .ge off, 3)) (ht : (pc : Int) + off = (tgt : Int)) (k1 : Z1 → bk_At Y w X tgt lv st σ) (k2 : Z2 → bk_At Y w X (pc + 3) lv st σ) : (y ≤ x → Z1) ∧ (¬ y ≤ x → Z2) → bk_At Y w X pc lv (.int y :: .int x :: st) σ := by
  obtain ⟨⟨p, l, e, R, s, m, args, below, meth, c⟩, nL, cells, slots, Q, A⟩ := X
  obtain ⟨hx, hb, hml, hown, hts, hK, hN, hD, hA, rfl, hfr, hlo, hce, hsl⟩ := hX
  exact fun z H locs ls hP hS hl => lv_icmp_ge hx hb d ht (fun h => k1 (z.1 h) H locs ls hP hS hl) (fun h => k2 (z.2 h) H locs ls hP hS hl)
theorem bk_icmp_gt (hX : bk_Ok Y w X cc own n fr lo) {Z1 Z2 : Prop} {x y : Int32} {off : Int} (tgt : Nat) (d : decode cc pc = .ok (.if_icmp .gt off, 3)) (ht : (pc : Int) + off = (tgt : Int)) (k1 : Z1 → bk_At Y w X tgt lv st σ) (k2 : Z2 → bk_At Y w X (pc + 3) lv st σ) : (y < x → Z1) ∧ (¬ y < x → Z2) → bk_At Y w X pc lv (.int y :: .int x :: st) σ := by
  obtain ⟨⟨p, l, e, R, s, m, args, below, meth, c⟩, nL, cells, slots, Q, A⟩ := X
  obtain ⟨hx, hb, hml, hown, hts, hK, hN, hD, hA, rfl, hfr, hlo, hce, hsl⟩ := hX
  exact fun z H locs ls hP hS hl => lv_icmp_gt hx hb d ht (fun h => k1 (z.1 h) H locs ls hP hS hl) (fun h => k2 (z.2 h) H locs ls hP hS hl)
theorem bk_icmp_le (hX : bk_Ok Y w X cc own n fr lo) {Z1 Z2 : Prop} {x y : Int32} {off : Int} (tgt : Nat) (d : decode cc pc = .ok (.if_icmp .le off, 3)) (ht : (pc : Int) + off = (tgt : Int)) (k1 : Z1 → bk_At Y w X tgt lv st σ) (k2 : Z2 → bk_At Y w X (pc + 3) lv st σ) : (x ≤ y → Z1) ∧ (¬ x ≤ y → Z2) → bk_At Y w X pc lv (.int y :: .int x :: st) σ := by
  obtain ⟨⟨p, l, e, R, s, m, args, below, meth, c⟩, nL, cells, slots, Q, A⟩ := X
  obtain ⟨hx, hb, hml, hown, hts, hK, hN, hD, hA, rfl, hfr, hlo, hce, hsl⟩ := hX
  exact fun z H locs ls hP hS hl => lv_icmp_le hx hb d ht (fun h => k1 (z.1 h) H locs ls hP hS hl) (fun h => k2 (z.2 h) H locs ls hP hS hl)
theorem bk_goto (hX : bk_Ok Y w X cc own n fr lo) {off : Int} (tgt : Nat) (d : decode cc pc = .ok (.goto off, 3)) (ht : (pc : Int) + off = (tgt : Int)) (k : Z → bk_At Y w X tgt lv st σ) : Z → bk_At Y w X pc lv st σ := by
  obtain ⟨⟨p, l, e, R, s, m, args, below, meth, c⟩, nL, cells, slots, Q, A⟩ := X
  obtain ⟨hx, hb, hml, hown, hts, hK, hN, hD, hA, rfl, hfr, hlo, hce, hsl⟩ := hX
  exact fun z H locs ls hP hS hl => lv_goto hx hb d ht (k z H locs ls hP hS hl)
/-- a field of class ci, place j, as 'own' links it at its entry i -/
def bk_Fl (own : String) (i ci j : Nat) : Prop := ∃ (C : String) (T : u_T) (N : Nat), vwCl[ci]? = some (C, T, N) ∧ (∀ w ∈ u_ws C T N, w ∈ lw_good) ∧ j < N ∧ Cond.fieldLink own i (T j).1 (T j).2.1 (T j).2.2.1 ∈ lw_good
def bk_Fp (own : String) (i ci j : Nat) (ty : FieldType) : Prop := ∃ (C : String) (T : u_T) (N : Nat) (t0 : Nat → FieldType), vwCl[ci]? = some (C, T, N) ∧ (∀ w ∈ u_ws C T N, w ∈ lw_good) ∧ j < N ∧ Cond.fieldLink own i (T j).1 (T j).2.1 (T j).2.2.1 ∈ lw_good ∧ (∀ k, k < N → parseFieldDescriptor (T k).2.2.1 = some (t0 k)) ∧ (∀ a, a < N → ∀ b, b < N → a ≠ b → (T a).2.1 ≠ (T b).2.1) ∧ (T j).2.2.2 = false ∧ parseFieldDescriptor (T j).2.2.1 = some ty
theorem bk_geti (hX : bk_Ok Y w X cc own n fr lo) {q i ci j : Nat} {fs : List (Option Nat)} (ho : bk_is Y q (.inr (.inl (ci, fs)))) (hf : fs[j]? = some (none)) (hF : bk_Fl own i ci j) (d : decode cc pc = .ok (.getfield i, 3)) (k : Z → bk_At Y w X (pc + 3) lv (.int (σ q j) :: st) σ) : Z → bk_At Y w X pc lv (.ref (bk_r w q) :: st) σ := by
  obtain ⟨⟨p, l, e, R, s, m, args, below, meth, c⟩, nL, cells, slots, Q, A⟩ := X
  obtain ⟨hx, hb, hml, hown, hts, hK, hN, hD, hA, rfl, hfr, hlo, hce, hsl⟩ := hX
  have hcell : (bk_wl Y w σ)[q]? = some (bk_r w q, bk_cell Y w σ q) := bk_wl_get Y w σ ho.2
  rw [bk_cell, ho.1] at hcell
  obtain ⟨C, T, N, h1, h2, h3, h4⟩ := hF
  exact fun z H locs ls hP hS hl => va_get (D := w.1) (ci := ci) hx hb hts h2 hown hK hP q hcell h1 j h3 (hts _ h4) (fun _ h9 => h9) (by rw [bk_fs_get, hf]; simp) d (k z H locs ls hP hS hl)
theorem bk_getr (hX : bk_Ok Y w X cc own n fr lo) {q i ci j : Nat} {r : Nat} {fs : List (Option Nat)} (ho : bk_is Y q (.inr (.inl (ci, fs)))) (hf : fs[j]? = some (some r)) (hF : bk_Fl own i ci j) (d : decode cc pc = .ok (.getfield i, 3)) (k : Z → bk_At Y w X (pc + 3) lv (.ref (bk_r w r) :: st) σ) : Z → bk_At Y w X pc lv (.ref (bk_r w q) :: st) σ := by
  obtain ⟨⟨p, l, e, R, s, m, args, below, meth, c⟩, nL, cells, slots, Q, A⟩ := X
  obtain ⟨hx, hb, hml, hown, hts, hK, hN, hD, hA, rfl, hfr, hlo, hce, hsl⟩ := hX
  have hcell : (bk_wl Y w σ)[q]? = some (bk_r w q, bk_cell Y w σ q) := bk_wl_get Y w σ ho.2
  rw [bk_cell, ho.1] at hcell
  obtain ⟨C, T, N, h1, h2, h3, h4⟩ := hF
  exact fun z H locs ls hP hS hl => va_get (D := w.1) (ci := ci) hx hb hts h2 hown hK hP q hcell h1 j h3 (hts _ h4) (fun _ h9 => h9) (by rw [bk_fs_get, hf]; simp) d (k z H locs ls hP hS hl)
theorem bk_puti (hX : bk_Ok Y w X cc own n fr lo) {Z : bk_S → Prop} {q i ci j : Nat} {ty : FieldType} {x : Int32} {fs : List (Option Nat)} (ho : bk_is Y q (.inr (.inl (ci, fs)))) (hf : fs[j]? = some none) (hF : bk_Fp own i ci j ty) (hn : narrow ty (.int x) = .int x) (hft : fits ty (.int x) = true) (d : decode cc pc = .ok (.putfield i, 3)) (k : ∀ σ', Z σ' → bk_At Y w X (pc + 3) lv st σ') : bk_lt (bk_u σ q j x) Z → bk_At Y w X pc lv (.int x :: .ref (bk_r w q) :: st) σ := by
  obtain ⟨⟨p, l, e, R, s, m, args, below, meth, c⟩, nL, cells, slots, Q, A⟩ := X
  obtain ⟨hx, hb, hml, hown, hts, hK, hN, hD, hA, rfl, hfr, hlo, hce, hsl⟩ := hX
  have hcell : (bk_wl Y w σ)[q]? = some (bk_r w q, bk_cell Y w σ q) := bk_wl_get Y w σ ho.2
  rw [bk_cell, ho.1] at hcell
  obtain ⟨C, T, N, t0, h1, h2, h3, h4, h5, h6, h7, h8⟩ := hF
  have hset : (bk_wl Y w σ).set q (bk_r w q, .inr (ci, (bk_fs w (σ q) 0 fs).set j (.int x))) = bk_wl Y w (bk_u σ q j x) := by
    refine bk_wl_set Y w σ _ ho.2 _ ?_
    rw [bk_cell, ho.1]
    simp only [bk_w_s, bk_fs_set w (σ q) x fs 0 j hf, Nat.zero_add]
  intro z H locs ls hP hS hl
  refine va_put (D := w.1) (ci := ci) (v := .int x) (ty := ty) hx hb hts h2 t0 h5 h6 hown hK hP (hD.va σ) hS q hcell h1 j h3 (hts _ h4) (fun _ h9 => h9) h7 h8 hn hft (by rw [bk_fs_len]; exact (List.getElem?_eq_some_iff.mp hf).1) d (fun H1 locs1 hP1 _ hS1 => ?_)
  rw [hset] at hP1
  exact k _ z H1 locs1 ls hP1 hS1 hl
theorem bk_putI (hX : bk_Ok Y w X cc own n fr lo) {Z : bk_S → Prop} {q i ci j : Nat} {x : Int32} {fs : List (Option Nat)} (ho : bk_is Y q (.inr (.inl (ci, fs)))) (hf : fs[j]? = some none) (hF : bk_Fp own i ci j .int) (d : decode cc pc = .ok (.putfield i, 3)) (k : ∀ σ', Z σ' → bk_At Y w X (pc + 3) lv st σ') : bk_lt (bk_u σ q j x) Z → bk_At Y w X pc lv (.int x :: .ref (bk_r w q) :: st) σ := bk_puti hX ho hf hF rfl rfl d k
theorem bk_putZ (hX : bk_Ok Y w X cc own n fr lo) {Z : bk_S → Prop} {q i ci j : Nat} {x : Int32} {fs : List (Option Nat)} (ho : bk_is Y q (.inr (.inl (ci, fs)))) (hf : fs[j]? = some none) (hF : bk_Fp own i ci j .boolean) (hn : narrow .boolean (.int x) = .int x) (hft : fits .boolean (.int x) = true) (d : decode cc pc = .ok (.putfield i, 3)) (k : ∀ σ', Z σ' → bk_At Y w X (pc + 3) lv st σ') : bk_lt (bk_u σ q j x) Z → bk_At Y w X pc lv (.int x :: .ref (bk_r w q) :: st) σ := bk_puti hX ho hf hF hn hft d k
theorem bk_iaload (hX : bk_Ok Y w X cc own n fr lo) {q N : Nat} {i : Int32} (ho : bk_is Y q (.inl (0, N))) (d : decode cc pc = .ok (.iaload, 1)) (k : Z → bk_At Y w X (pc + 1) lv (.int (σ q i.toNatClampNeg) :: st) σ) : vp_in i N ∧ Z → bk_At Y w X pc lv (.int i :: .ref (bk_r w q) :: st) σ := by
  obtain ⟨⟨p, l, e, R, s, m, args, below, meth, c⟩, nL, cells, slots, Q, A⟩ := X
  obtain ⟨hx, hb, hml, hown, hts, hK, hN, hD, hA, rfl, hfr, hlo, hce, hsl⟩ := hX
  have hcell : (bk_wl Y w σ)[q]? = some (bk_r w q, bk_cell Y w σ q) := bk_wl_get Y w σ ho.2
  rw [bk_cell, ho.1] at hcell
  exact fun z H locs ls hP hS hl => va_iald (D := w.1) hx hb hK hP q 0 hcell rfl z.1 d (k z.2 H locs ls hP hS hl)
theorem bk_baload (hX : bk_Ok Y w X cc own n fr lo) {q N : Nat} {i : Int32} (ho : bk_is Y q (.inl (1, N))) (d : decode cc pc = .ok (.baload, 1)) (k : Z → bk_At Y w X (pc + 1) lv (.int (σ q i.toNatClampNeg) :: st) σ) : vp_in i N ∧ Z → bk_At Y w X pc lv (.int i :: .ref (bk_r w q) :: st) σ := by
  obtain ⟨⟨p, l, e, R, s, m, args, below, meth, c⟩, nL, cells, slots, Q, A⟩ := X
  obtain ⟨hx, hb, hml, hown, hts, hK, hN, hD, hA, rfl, hfr, hlo, hce, hsl⟩ := hX
  have hcell : (bk_wl Y w σ)[q]? = some (bk_r w q, bk_cell Y w σ q) := bk_wl_get Y w σ ho.2
  rw [bk_cell, ho.1] at hcell
  exact fun z H locs ls hP hS hl => va_zald (D := w.1) hx hb hK hP q 1 hcell rfl z.1 d (k z.2 H locs ls hP hS hl)
theorem bk_iastore (hX : bk_Ok Y w X cc own n fr lo) {Z : bk_S → Prop} {q N : Nat} {i x : Int32} (ho : bk_is Y q (.inl (0, N))) (d : decode cc pc = .ok (.iastore, 1)) (k : ∀ σ', Z σ' → bk_At Y w X (pc + 1) lv st σ') : vp_in i N ∧ bk_lt (bk_u σ q i.toNatClampNeg (x)) Z → bk_At Y w X pc lv (.int x :: .int i :: .ref (bk_r w q) :: st) σ := by
  obtain ⟨⟨p, l, e, R, s, m, args, below, meth, c⟩, nL, cells, slots, Q, A⟩ := X
  obtain ⟨hx, hb, hml, hown, hts, hK, hN, hD, hA, rfl, hfr, hlo, hce, hsl⟩ := hX
  have hcell : (bk_wl Y w σ)[q]? = some (bk_r w q, bk_cell Y w σ q) := bk_wl_get Y w σ ho.2
  rw [bk_cell, ho.1] at hcell
  have hset : (bk_wl Y w σ).set q (bk_r w q, .inl (w.2.2 0, N, .inl (upd (σ q) i.toNatClampNeg (x)))) = bk_wl Y w (bk_u σ q i.toNatClampNeg (x)) := by
    refine bk_wl_set Y w σ _ ho.2 _ ?_
    rw [bk_cell, ho.1]
    simp only [bk_w_s]
  intro z H locs ls hP hS hl
  refine va_iast (D := w.1) hx hb hK hP (hD.va σ) hS q 0 hcell rfl z.1 d (fun H1 locs1 hP1 _ hS1 => ?_)
  rw [hset] at hP1
  exact k _ z.2 H1 locs1 ls hP1 hS1 hl
theorem bk_bastore (hX : bk_Ok Y w X cc own n fr lo) {Z : bk_S → Prop} {q N : Nat} {i x : Int32} (ho : bk_is Y q (.inl (1, N))) (d : decode cc pc = .ok (.bastore, 1)) (k : ∀ σ', Z σ' → bk_At Y w X (pc + 1) lv st σ') : vp_in i N ∧ bk_lt (bk_u σ q i.toNatClampNeg (vp_nar .boolean x)) Z → bk_At Y w X pc lv (.int x :: .int i :: .ref (bk_r w q) :: st) σ := by
  obtain ⟨⟨p, l, e, R, s, m, args, below, meth, c⟩, nL, cells, slots, Q, A⟩ := X
  obtain ⟨hx, hb, hml, hown, hts, hK, hN, hD, hA, rfl, hfr, hlo, hce, hsl⟩ := hX
  have hcell : (bk_wl Y w σ)[q]? = some (bk_r w q, bk_cell Y w σ q) := bk_wl_get Y w σ ho.2
  rw [bk_cell, ho.1] at hcell
  have hset : (bk_wl Y w σ).set q (bk_r w q, .inl (w.2.2 1, N, .inl (upd (σ q) i.toNatClampNeg (vp_nar .boolean x)))) = bk_wl Y w (bk_u σ q i.toNatClampNeg (vp_nar .boolean x)) := by
    refine bk_wl_set Y w σ _ ho.2 _ ?_
    rw [bk_cell, ho.1]
    simp only [bk_w_s]
  intro z H locs ls hP hS hl
  refine va_zast (D := w.1) hx hb hK hP (hD.va σ) hS q 1 hcell rfl z.1 d (fun H1 locs1 hP1 _ hS1 => ?_)
  rw [hset] at hP1
  exact k _ z.2 H1 locs1 ls hP1 hS1 hl
theorem bk_aaload (hX : bk_Ok Y w X cc own n fr lo) {q N : Nat} {f : Nat → Nat} {i : Int32} (ho : bk_is Y q (.inr (.inr (N, f)))) (d : decode cc pc = .ok (.aaload, 1)) (k : vp_in i N → Z → bk_At Y w X (pc + 1) lv (.ref (bk_r w (f i.toNatClampNeg)) :: st) σ) : vp_in i N ∧ Z → bk_At Y w X pc lv (.int i :: .ref (bk_r w q) :: st) σ := by
  obtain ⟨⟨p, l, e, R, s, m, args, below, meth, c⟩, nL, cells, slots, Q, A⟩ := X
  obtain ⟨hx, hb, hml, hown, hts, hK, hN, hD, hA, rfl, hfr, hlo, hce, hsl⟩ := hX
  have hcell : (bk_wl Y w σ)[q]? = some (bk_r w q, bk_cell Y w σ q) := bk_wl_get Y w σ ho.2
  rw [bk_cell, ho.1] at hcell
  exact fun z H locs ls hP hS hl => va_aldq (D := w.1) hx hb hK hP q 2 hcell rfl z.1 d (k z.1 z.2 H locs ls hP hS hl)
theorem bk_alen (hX : bk_Ok Y w X cc own n fr lo) {q t N : Nat} {v : Int32} (ho : bk_is Y q (.inl (t, N))) (ht : t < 2) (hv : Int32.ofNat N = v) (d : decode cc pc = .ok (.arraylength, 1)) (k : Z → bk_At Y w X (pc + 1) lv (.int v :: st) σ) : Z → bk_At Y w X pc lv (.ref (bk_r w q) :: st) σ := by
  obtain ⟨⟨p, l, e, R, s, m, args, below, meth, c⟩, nL, cells, slots, Q, A⟩ := X
  obtain ⟨hx, hb, hml, hown, hts, hK, hN, hD, hA, rfl, hfr, hlo, hce, hsl⟩ := hX
  have hcell : (bk_wl Y w σ)[q]? = some (bk_r w q, bk_cell Y w σ q) := bk_wl_get Y w σ ho.2
  rw [bk_cell, ho.1] at hcell
  intro z H locs ls hP hS hl
  match t, ht with
  | 0, _ => exact va_alen (D := w.1) hx hb hK hP q 0 hcell rfl hv d (k z H locs ls hP hS hl)
  | 1, _ => exact va_alen (D := w.1) hx hb hK hP q 1 hcell rfl hv d (k z H locs ls hP hS hl)
theorem bk_copy (hX : bk_Ok Y w X cc own n fr lo) {Z : bk_S → Prop} {q0 q1 N0 N1 i : Nat} {sp dp m0 : Int32} (h0 : bk_is Y q0 (.inl (0, N0))) (h1 : bk_is Y q1 (.inl (0, N1))) (hl1 : Cond.methodLink own i arraycopyName ∈ lw_good) (hl2 : Cond.native arraycopyName ∈ lw_good) (hl3 : Cond.static arraycopyName ∈ lw_good) (hl4 : Cond.initialized "java/lang/System" ∈ lw_good) (hr1 : 1 ≤ fr) (hr2 : (st.map fun v => v.category).sum + (nativeFrameWords "java/lang/System" "arraycopy" 5 + 11) ≤ lo) (d : decode cc pc = .ok (.invokestatic i, 3)) (k : ∀ σ', Z σ' → bk_At Y w X (pc + 3) lv st σ') : (¬ sp < 0 ∧ ¬ dp < 0 ∧ ¬ m0 < 0 ∧ sp.toNatClampNeg + m0.toNatClampNeg ≤ N0 ∧ dp.toNatClampNeg + m0.toNatClampNeg ≤ N1) ∧ bk_lt (bk_w σ q1 (va_cpy (σ q0) (σ q1) sp.toNatClampNeg dp.toNatClampNeg m0.toNatClampNeg)) Z → bk_At Y w X pc lv (.int m0 :: .int dp :: .ref (bk_r w q1) :: .int sp :: .ref (bk_r w q0) :: st) σ := by
  obtain ⟨⟨p, l, e, R, s, m, args, below, meth, c⟩, nL, cells, slots, Q, A⟩ := X
  obtain ⟨hx, hb, hml, hown, hts, hK, hN, hD, hA, rfl, hfr, hlo, hce, hsl⟩ := hX
  have hc0 : (bk_wl Y w σ)[q0]? = some (bk_r w q0, bk_cell Y w σ q0) := bk_wl_get Y w σ h0.2
  rw [bk_cell, h0.1] at hc0
  have hc1 : (bk_wl Y w σ)[q1]? = some (bk_r w q1, bk_cell Y w σ q1) := bk_wl_get Y w σ h1.2
  rw [bk_cell, h1.1] at hc1
  have hset : (bk_wl Y w σ).set q1 (bk_r w q1, .inl (w.2.2 0, N1, .inl (va_cpy (σ q0) (σ q1) sp.toNatClampNeg dp.toNatClampNeg m0.toNatClampNeg))) = bk_wl Y w (bk_w σ q1 (va_cpy (σ q0) (σ q1) sp.toNatClampNeg dp.toNatClampNeg m0.toNatClampNeg)) := by
    refine bk_wl_set Y w σ _ h1.2 _ ?_
    rw [bk_cell, h1.1]
    simp only [bk_w_s]
  intro z H locs ls hP hS hl
  obtain ⟨⟨a1, a2, a3, a4, a5⟩, z⟩ := z
  refine va_copyi (D := w.1) hx hb (by rw [hml]; exact hl.1.symm) hown (hts _ hl1) (hts _ hl2) (hts _ hl3) (hts _ hl4) hK hP (hD.va σ) hS q0 q1 0 0 hc0 hc1 rfl rfl rfl a1 a2 a3 a4 a5 (fun _ _ => rfl) (by omega) (by omega) d (fun H1 locs1 hP1 _ hS1 => ?_)
  rw [hset] at hP1
  exact k _ z H1 locs1 ls hP1 hS1 hl
theorem bk_min (hX : bk_Ok Y w X cc own n fr lo) {i : Nat} {x y : Int32} (hl1 : Cond.methodLink own i Lib.Math.min.name ∈ lw_good) (hl2 : Cond.static Lib.Math.min.name ∈ lw_good) (hl3 : Cond.initialized "java/lang/Math" ∈ lw_good) (hl4 : Cond.code Lib.Math.min.name Lib.Math.min.code 2 (some .int) ∈ lw_good) (hr1 : 1 ≤ fr) (hr2 : (st.map fun v => v.category).sum + 13 ≤ lo) (d : decode cc pc = .ok (.invokestatic i, 3)) (k : Z → bk_At Y w X (pc + 3) lv (.int (if y < x then y else x) :: st) σ) : Z → bk_At Y w X pc lv (.int y :: .int x :: st) σ := by
  obtain ⟨⟨p, l, e, R, s, m, args, below, meth, c⟩, nL, cells, slots, Q, A⟩ := X
  obtain ⟨hx, hb, hml, hown, hts, hK, hN, hD, hA, rfl, hfr, hlo, hce, hsl⟩ := hX
  exact fun z H locs ls hP hS hl => va_mmin hx hb (by rw [hml]; exact hl.1.symm) hown (hts _ hl1) (hts _ hl2) (hts _ hl3) (hts _ hl4) (by omega) (by omega) hce hsl d (k z H locs ls hP hS hl)
theorem bk_max (hX : bk_Ok Y w X cc own n fr lo) {i : Nat} {x y : Int32} (hl1 : Cond.methodLink own i Lib.Math.max.name ∈ lw_good) (hl2 : Cond.static Lib.Math.max.name ∈ lw_good) (hl3 : Cond.initialized "java/lang/Math" ∈ lw_good) (hl4 : Cond.code Lib.Math.max.name Lib.Math.max.code 2 (some .int) ∈ lw_good) (hr1 : 1 ≤ fr) (hr2 : (st.map fun v => v.category).sum + 13 ≤ lo) (d : decode cc pc = .ok (.invokestatic i, 3)) (k : Z → bk_At Y w X (pc + 3) lv (.int (if x < y then y else x) :: st) σ) : Z → bk_At Y w X pc lv (.int y :: .int x :: st) σ := by
  obtain ⟨⟨p, l, e, R, s, m, args, below, meth, c⟩, nL, cells, slots, Q, A⟩ := X
  obtain ⟨hx, hb, hml, hown, hts, hK, hN, hD, hA, rfl, hfr, hlo, hce, hsl⟩ := hX
  exact fun z H locs ls hP hS hl => va_mmax hx hb (by rw [hml]; exact hl.1.symm) hown (hts _ hl1) (hts _ hl2) (hts _ hl3) (hts _ hl4) (by omega) (by omega) hce hsl d (k z H locs ls hP hS hl)
/-- fewer locals, in another order -/
theorem bk_pick (ps : List Nat) {lv' : List (Nat × Value)} (h : lv_pick lv ps = lv') (k : Z → bk_At Y w X pc lv' st σ) : Z → bk_At Y w X pc lv st σ := by
  obtain ⟨⟨p, l, e, R, s, m, args, below, meth, c⟩, nL, cells, slots, Q, A⟩ := X
  exact fun z H locs ls hP hS hl => k z H locs ls hP hS (lv_sub hl ps h)
end Rows
theorem bk_r_jn {α : Type} {rest : α → Prop} {F : (α → Prop) → Prop} {G : Prop} (J : α → Prop) (hr : ∀ a, rest a → J a) (hF : ∀ K : α → Prop, (∀ a, K a → J a) → F K → G) : bk_jn rest F → G := fun h => hF rest hr h
theorem bk_r_loop {α : Type} {F : (α → Prop) → α → Prop} (J : α → Prop) (a : α) (hF : ∀ K : α → Prop, (∀ a, K a → J a) → ∀ a, F K a → J a) : bk_loop F a → J a := by
  rintro ⟨n, h⟩
  induction n generalizing a with
  | zero => exact h.elim
  | succ n ih => exact hF _ (fun a h => ih a h) a h
end
