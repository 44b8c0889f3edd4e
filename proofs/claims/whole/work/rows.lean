section
-- ===== PART A: goes FIRST, ahead of the names: the tables' words, and 'selects' of the private methods out of them =====
/-- a private method of a class that the tables say can be made, by its rows of tables_1 -/
def lw_okq (q : MethodName × Nat) : Prop := (q.1.cls ≠ "java/lang/invoke/MethodHandle" ∧ q.1.cls ≠ "java/lang/invoke/VarHandle") ∧ Cond.instantiable q.1.cls q.2 ∈ tables_1 ∧ Cond.privateMethod q.1 ∈ tables_1 ∧ Cond.instanceMethod q.1 ∈ tables_1
theorem lw_p0 : lw_okq (⟨"NamedFabric$Script", "isFigure", "(I)Z"⟩, 2) := ⟨⟨by decide +kernel, by decide +kernel⟩, List.mem_of_getElem? (i := 22) (by decide +kernel), List.mem_of_getElem? (i := 244) (by decide +kernel), List.mem_of_getElem? (i := 245) (by decide +kernel)⟩
theorem lw_p1 : lw_okq (⟨"NamedFabric$Reader", "takes", "(II)Z"⟩, 4) := ⟨⟨by decide +kernel, by decide +kernel⟩, List.mem_of_getElem? (i := 36) (by decide +kernel), List.mem_of_getElem? (i := 253) (by decide +kernel), List.mem_of_getElem? (i := 254) (by decide +kernel)⟩
theorem lw_p2 : lw_okq (⟨"NamedFabric$Reader", "takesItem", "(I)Z"⟩, 4) := ⟨⟨by decide +kernel, by decide +kernel⟩, List.mem_of_getElem? (i := 36) (by decide +kernel), List.mem_of_getElem? (i := 257) (by decide +kernel), List.mem_of_getElem? (i := 258) (by decide +kernel)⟩
theorem lw_p3 : lw_okq (⟨"NamedFabric$Reader", "takesPriority", "(I)Z"⟩, 4) := ⟨⟨by decide +kernel, by decide +kernel⟩, List.mem_of_getElem? (i := 36) (by decide +kernel), List.mem_of_getElem? (i := 269) (by decide +kernel), List.mem_of_getElem? (i := 270) (by decide +kernel)⟩
theorem lw_p4 : lw_okq (⟨"NamedFabric$Reader", "takesName", "(I)Z"⟩, 4) := ⟨⟨by decide +kernel, by decide +kernel⟩, List.mem_of_getElem? (i := 36) (by decide +kernel), List.mem_of_getElem? (i := 273) (by decide +kernel), List.mem_of_getElem? (i := 274) (by decide +kernel)⟩
theorem lw_p5 : lw_okq (⟨"NamedFabric$Reader", "takesWant", "(I)Z"⟩, 4) := ⟨⟨by decide +kernel, by decide +kernel⟩, List.mem_of_getElem? (i := 36) (by decide +kernel), List.mem_of_getElem? (i := 281) (by decide +kernel), List.mem_of_getElem? (i := 282) (by decide +kernel)⟩
theorem lw_p6 : lw_okq (⟨"NamedFabric$Reader", "takesPlace", "(II)Z"⟩, 4) := ⟨⟨by decide +kernel, by decide +kernel⟩, List.mem_of_getElem? (i := 36) (by decide +kernel), List.mem_of_getElem? (i := 286) (by decide +kernel), List.mem_of_getElem? (i := 287) (by decide +kernel)⟩
theorem lw_p7 : lw_okq (⟨"NamedFabric", "rememberView", "()J"⟩, 7) := ⟨⟨by decide +kernel, by decide +kernel⟩, List.mem_of_getElem? (i := 14) (by decide +kernel), List.mem_of_getElem? (i := 345) (by decide +kernel), List.mem_of_getElem? (i := 346) (by decide +kernel)⟩
theorem lw_p8 : lw_okq (⟨"NamedFabric$Net", "spread", "(I)I"⟩, 13) := ⟨⟨by decide +kernel, by decide +kernel⟩, List.mem_of_getElem? (i := 42) (by decide +kernel), List.mem_of_getElem? (i := 357) (by decide +kernel), List.mem_of_getElem? (i := 358) (by decide +kernel)⟩
theorem lw_p9 : lw_okq (⟨"NamedFabric$Net", "viewWithin", "(II)J"⟩, 13) := ⟨⟨by decide +kernel, by decide +kernel⟩, List.mem_of_getElem? (i := 42) (by decide +kernel), List.mem_of_getElem? (i := 365) (by decide +kernel), List.mem_of_getElem? (i := 366) (by decide +kernel)⟩
theorem lw_p10 : lw_okq (⟨"NamedFabric$Net", "zonesEmpty", "(I)Z"⟩, 13) := ⟨⟨by decide +kernel, by decide +kernel⟩, List.mem_of_getElem? (i := 42) (by decide +kernel), List.mem_of_getElem? (i := 369) (by decide +kernel), List.mem_of_getElem? (i := 370) (by decide +kernel)⟩
theorem lw_p11 : lw_okq (⟨"NamedFabric$Net", "sharingZone", "(II)I"⟩, 13) := ⟨⟨by decide +kernel, by decide +kernel⟩, List.mem_of_getElem? (i := 42) (by decide +kernel), List.mem_of_getElem? (i := 377) (by decide +kernel), List.mem_of_getElem? (i := 378) (by decide +kernel)⟩
theorem lw_p12 : lw_okq (⟨"NamedFabric$Net", "blocksIn", "(I)I"⟩, 13) := ⟨⟨by decide +kernel, by decide +kernel⟩, List.mem_of_getElem? (i := 42) (by decide +kernel), List.mem_of_getElem? (i := 389) (by decide +kernel), List.mem_of_getElem? (i := 390) (by decide +kernel)⟩
theorem lw_p13 : lw_okq (⟨"NamedFabric$Net", "zonesClash", "(II)Z"⟩, 13) := ⟨⟨by decide +kernel, by decide +kernel⟩, List.mem_of_getElem? (i := 42) (by decide +kernel), List.mem_of_getElem? (i := 393) (by decide +kernel), List.mem_of_getElem? (i := 394) (by decide +kernel)⟩
theorem lw_p14 : lw_okq (⟨"NamedFabric$Net", "setEnd", "(III)V"⟩, 13) := ⟨⟨by decide +kernel, by decide +kernel⟩, List.mem_of_getElem? (i := 42) (by decide +kernel), List.mem_of_getElem? (i := 401) (by decide +kernel), List.mem_of_getElem? (i := 402) (by decide +kernel)⟩
theorem lw_p15 : lw_okq (⟨"NamedFabric$Net", "shareZones", "(II)V"⟩, 13) := ⟨⟨by decide +kernel, by decide +kernel⟩, List.mem_of_getElem? (i := 42) (by decide +kernel), List.mem_of_getElem? (i := 405) (by decide +kernel), List.mem_of_getElem? (i := 406) (by decide +kernel)⟩
def lw_privs_1 : List (MethodName × Nat) := [(⟨"NamedFabric$Script", "isFigure", "(I)Z"⟩, 2), (⟨"NamedFabric$Reader", "takes", "(II)Z"⟩, 4), (⟨"NamedFabric$Reader", "takesItem", "(I)Z"⟩, 4), (⟨"NamedFabric$Reader", "takesPriority", "(I)Z"⟩, 4), (⟨"NamedFabric$Reader", "takesName", "(I)Z"⟩, 4), (⟨"NamedFabric$Reader", "takesWant", "(I)Z"⟩, 4), (⟨"NamedFabric$Reader", "takesPlace", "(II)Z"⟩, 4), (⟨"NamedFabric", "rememberView", "()J"⟩, 7), (⟨"NamedFabric$Net", "spread", "(I)I"⟩, 13), (⟨"NamedFabric$Net", "viewWithin", "(II)J"⟩, 13), (⟨"NamedFabric$Net", "zonesEmpty", "(I)Z"⟩, 13), (⟨"NamedFabric$Net", "sharingZone", "(II)I"⟩, 13), (⟨"NamedFabric$Net", "blocksIn", "(I)I"⟩, 13), (⟨"NamedFabric$Net", "zonesClash", "(II)Z"⟩, 13), (⟨"NamedFabric$Net", "setEnd", "(III)V"⟩, 13), (⟨"NamedFabric$Net", "shareZones", "(II)V"⟩, 13)]
theorem lw_r1 : ∀ q ∈ lw_privs_1, lw_okq q := List.forall_mem_cons.mpr ⟨lw_p0, List.forall_mem_cons.mpr ⟨lw_p1, List.forall_mem_cons.mpr ⟨lw_p2, List.forall_mem_cons.mpr ⟨lw_p3, List.forall_mem_cons.mpr ⟨lw_p4, List.forall_mem_cons.mpr ⟨lw_p5, List.forall_mem_cons.mpr ⟨lw_p6, List.forall_mem_cons.mpr ⟨lw_p7, List.forall_mem_cons.mpr ⟨lw_p8, List.forall_mem_cons.mpr ⟨lw_p9, List.forall_mem_cons.mpr ⟨lw_p10, List.forall_mem_cons.mpr ⟨lw_p11, List.forall_mem_cons.mpr ⟨lw_p12, List.forall_mem_cons.mpr ⟨lw_p13, List.forall_mem_cons.mpr ⟨lw_p14, List.forall_mem_cons.mpr ⟨lw_p15, fun _ h => absurd h List.not_mem_nil⟩⟩⟩⟩⟩⟩⟩⟩⟩⟩⟩⟩⟩⟩⟩⟩
theorem lw_p16 : lw_okq (⟨"NamedFabric$Net", "goesAhead", "(II)Z"⟩, 13) := ⟨⟨by decide +kernel, by decide +kernel⟩, List.mem_of_getElem? (i := 42) (by decide +kernel), List.mem_of_getElem? (i := 421) (by decide +kernel), List.mem_of_getElem? (i := 422) (by decide +kernel)⟩
theorem lw_p17 : lw_okq (⟨"NamedFabric$Net", "lowestNameOf", "(I)I"⟩, 13) := ⟨⟨by decide +kernel, by decide +kernel⟩, List.mem_of_getElem? (i := 42) (by decide +kernel), List.mem_of_getElem? (i := 433) (by decide +kernel), List.mem_of_getElem? (i := 434) (by decide +kernel)⟩
theorem lw_p18 : lw_okq (⟨"NamedFabric$Net", "blockFor", "(II)I"⟩, 13) := ⟨⟨by decide +kernel, by decide +kernel⟩, List.mem_of_getElem? (i := 42) (by decide +kernel), List.mem_of_getElem? (i := 437) (by decide +kernel), List.mem_of_getElem? (i := 438) (by decide +kernel)⟩
theorem lw_p19 : lw_okq (⟨"NamedFabric$Net", "setBlock", "(II)V"⟩, 13) := ⟨⟨by decide +kernel, by decide +kernel⟩, List.mem_of_getElem? (i := 42) (by decide +kernel), List.mem_of_getElem? (i := 449) (by decide +kernel), List.mem_of_getElem? (i := 450) (by decide +kernel)⟩
theorem lw_p20 : lw_okq (⟨"NamedFabric$Trials", "mostAlike", "(J)I"⟩, 3) := ⟨⟨by decide +kernel, by decide +kernel⟩, List.mem_of_getElem? (i := 160) (by decide +kernel), List.mem_of_getElem? (i := 658) (by decide +kernel), List.mem_of_getElem? (i := 659) (by decide +kernel)⟩
theorem lw_p21 : lw_okq (⟨"NamedFabricModel", "readText", "()I"⟩, 20) := ⟨⟨by decide +kernel, by decide +kernel⟩, List.mem_of_getElem? (i := 711) (by decide +kernel), List.mem_of_getElem? (i := 794) (by decide +kernel), List.mem_of_getElem? (i := 795) (by decide +kernel)⟩
theorem lw_p22 : lw_okq (⟨"NamedFabricModel", "next", "()V"⟩, 20) := ⟨⟨by decide +kernel, by decide +kernel⟩, List.mem_of_getElem? (i := 711) (by decide +kernel), List.mem_of_getElem? (i := 798) (by decide +kernel), List.mem_of_getElem? (i := 799) (by decide +kernel)⟩
theorem lw_p23 : lw_okq (⟨"NamedFabricModel", "isFigure", "()Z"⟩, 20) := ⟨⟨by decide +kernel, by decide +kernel⟩, List.mem_of_getElem? (i := 711) (by decide +kernel), List.mem_of_getElem? (i := 802) (by decide +kernel), List.mem_of_getElem? (i := 803) (by decide +kernel)⟩
theorem lw_p24 : lw_okq (⟨"NamedFabricModel", "readSwitch", "()Z"⟩, 20) := ⟨⟨by decide +kernel, by decide +kernel⟩, List.mem_of_getElem? (i := 711) (by decide +kernel), List.mem_of_getElem? (i := 806) (by decide +kernel), List.mem_of_getElem? (i := 807) (by decide +kernel)⟩
theorem lw_p25 : lw_okq (⟨"NamedFabricModel", "isNumber", "(II)Z"⟩, 20) := ⟨⟨by decide +kernel, by decide +kernel⟩, List.mem_of_getElem? (i := 711) (by decide +kernel), List.mem_of_getElem? (i := 810) (by decide +kernel), List.mem_of_getElem? (i := 811) (by decide +kernel)⟩
theorem lw_p26 : lw_okq (⟨"NamedFabricModel", "isNamed", "(I)Z"⟩, 20) := ⟨⟨by decide +kernel, by decide +kernel⟩, List.mem_of_getElem? (i := 711) (by decide +kernel), List.mem_of_getElem? (i := 814) (by decide +kernel), List.mem_of_getElem? (i := 815) (by decide +kernel)⟩
theorem lw_p27 : lw_okq (⟨"NamedFabricModel", "readHost", "()Z"⟩, 20) := ⟨⟨by decide +kernel, by decide +kernel⟩, List.mem_of_getElem? (i := 711) (by decide +kernel), List.mem_of_getElem? (i := 818) (by decide +kernel), List.mem_of_getElem? (i := 819) (by decide +kernel)⟩
theorem lw_p28 : lw_okq (⟨"NamedFabricModel", "note", "()V"⟩, 20) := ⟨⟨by decide +kernel, by decide +kernel⟩, List.mem_of_getElem? (i := 711) (by decide +kernel), List.mem_of_getElem? (i := 822) (by decide +kernel), List.mem_of_getElem? (i := 823) (by decide +kernel)⟩
theorem lw_p29 : lw_okq (⟨"NamedFabricModel", "areTwo", "(II)Z"⟩, 20) := ⟨⟨by decide +kernel, by decide +kernel⟩, List.mem_of_getElem? (i := 711) (by decide +kernel), List.mem_of_getElem? (i := 833) (by decide +kernel), List.mem_of_getElem? (i := 834) (by decide +kernel)⟩
theorem lw_p30 : lw_okq (⟨"NamedFabricModel", "isSwitch", "(I)Z"⟩, 20) := ⟨⟨by decide +kernel, by decide +kernel⟩, List.mem_of_getElem? (i := 711) (by decide +kernel), List.mem_of_getElem? (i := 837) (by decide +kernel), List.mem_of_getElem? (i := 838) (by decide +kernel)⟩
theorem lw_p31 : lw_okq (⟨"NamedFabricModel", "isUp", "(II)Z"⟩, 20) := ⟨⟨by decide +kernel, by decide +kernel⟩, List.mem_of_getElem? (i := 711) (by decide +kernel), List.mem_of_getElem? (i := 841) (by decide +kernel), List.mem_of_getElem? (i := 842) (by decide +kernel)⟩
def lw_privs_2 : List (MethodName × Nat) := [(⟨"NamedFabric$Net", "goesAhead", "(II)Z"⟩, 13), (⟨"NamedFabric$Net", "lowestNameOf", "(I)I"⟩, 13), (⟨"NamedFabric$Net", "blockFor", "(II)I"⟩, 13), (⟨"NamedFabric$Net", "setBlock", "(II)V"⟩, 13), (⟨"NamedFabric$Trials", "mostAlike", "(J)I"⟩, 3), (⟨"NamedFabricModel", "readText", "()I"⟩, 20), (⟨"NamedFabricModel", "next", "()V"⟩, 20), (⟨"NamedFabricModel", "isFigure", "()Z"⟩, 20), (⟨"NamedFabricModel", "readSwitch", "()Z"⟩, 20), (⟨"NamedFabricModel", "isNumber", "(II)Z"⟩, 20), (⟨"NamedFabricModel", "isNamed", "(I)Z"⟩, 20), (⟨"NamedFabricModel", "readHost", "()Z"⟩, 20), (⟨"NamedFabricModel", "note", "()V"⟩, 20), (⟨"NamedFabricModel", "areTwo", "(II)Z"⟩, 20), (⟨"NamedFabricModel", "isSwitch", "(I)Z"⟩, 20), (⟨"NamedFabricModel", "isUp", "(II)Z"⟩, 20)]
theorem lw_r2 : ∀ q ∈ lw_privs_2, lw_okq q := List.forall_mem_cons.mpr ⟨lw_p16, List.forall_mem_cons.mpr ⟨lw_p17, List.forall_mem_cons.mpr ⟨lw_p18, List.forall_mem_cons.mpr ⟨lw_p19, List.forall_mem_cons.mpr ⟨lw_p20, List.forall_mem_cons.mpr ⟨lw_p21, List.forall_mem_cons.mpr ⟨lw_p22, List.forall_mem_cons.mpr ⟨lw_p23, List.forall_mem_cons.mpr ⟨lw_p24, List.forall_mem_cons.mpr ⟨lw_p25, List.forall_mem_cons.mpr ⟨lw_p26, List.forall_mem_cons.mpr ⟨lw_p27, List.forall_mem_cons.mpr ⟨lw_p28, List.forall_mem_cons.mpr ⟨lw_p29, List.forall_mem_cons.mpr ⟨lw_p30, List.forall_mem_cons.mpr ⟨lw_p31, fun _ h => absurd h List.not_mem_nil⟩⟩⟩⟩⟩⟩⟩⟩⟩⟩⟩⟩⟩⟩⟩⟩
theorem lw_p32 : lw_okq (⟨"NamedFabricModel", "wouldBe", "(II)I"⟩, 20) := ⟨⟨by decide +kernel, by decide +kernel⟩, List.mem_of_getElem? (i := 711) (by decide +kernel), List.mem_of_getElem? (i := 848) (by decide +kernel), List.mem_of_getElem? (i := 849) (by decide +kernel)⟩
theorem lw_p33 : lw_okq (⟨"NamedFabricModel", "fabricOf", "(I)I"⟩, 20) := ⟨⟨by decide +kernel, by decide +kernel⟩, List.mem_of_getElem? (i := 711) (by decide +kernel), List.mem_of_getElem? (i := 852) (by decide +kernel), List.mem_of_getElem? (i := 853) (by decide +kernel)⟩
theorem lw_p34 : lw_okq (⟨"NamedFabricModel", "besides", "(I)I"⟩, 20) := ⟨⟨by decide +kernel, by decide +kernel⟩, List.mem_of_getElem? (i := 711) (by decide +kernel), List.mem_of_getElem? (i := 856) (by decide +kernel), List.mem_of_getElem? (i := 857) (by decide +kernel)⟩
theorem lw_p35 : lw_okq (⟨"NamedFabricModel", "doZonesClash", "(II)Z"⟩, 20) := ⟨⟨by decide +kernel, by decide +kernel⟩, List.mem_of_getElem? (i := 711) (by decide +kernel), List.mem_of_getElem? (i := 860) (by decide +kernel), List.mem_of_getElem? (i := 861) (by decide +kernel)⟩
theorem lw_p36 : lw_okq (⟨"NamedFabricModel", "zoneOf", "(II)I"⟩, 20) := ⟨⟨by decide +kernel, by decide +kernel⟩, List.mem_of_getElem? (i := 711) (by decide +kernel), List.mem_of_getElem? (i := 864) (by decide +kernel), List.mem_of_getElem? (i := 865) (by decide +kernel)⟩
theorem lw_p37 : lw_okq (⟨"NamedFabricModel", "doBlocksClash", "(II)Z"⟩, 20) := ⟨⟨by decide +kernel, by decide +kernel⟩, List.mem_of_getElem? (i := 711) (by decide +kernel), List.mem_of_getElem? (i := 868) (by decide +kernel), List.mem_of_getElem? (i := 869) (by decide +kernel)⟩
theorem lw_p38 : lw_okq (⟨"NamedFabricModel", "blocksOf", "(I)I"⟩, 20) := ⟨⟨by decide +kernel, by decide +kernel⟩, List.mem_of_getElem? (i := 711) (by decide +kernel), List.mem_of_getElem? (i := 872) (by decide +kernel), List.mem_of_getElem? (i := 873) (by decide +kernel)⟩
theorem lw_p39 : lw_okq (⟨"NamedFabricModel", "of", "(II)I"⟩, 20) := ⟨⟨by decide +kernel, by decide +kernel⟩, List.mem_of_getElem? (i := 711) (by decide +kernel), List.mem_of_getElem? (i := 876) (by decide +kernel), List.mem_of_getElem? (i := 877) (by decide +kernel)⟩
theorem lw_p40 : lw_okq (⟨"NamedFabricModel", "putLink", "(IIII)V"⟩, 20) := ⟨⟨by decide +kernel, by decide +kernel⟩, List.mem_of_getElem? (i := 711) (by decide +kernel), List.mem_of_getElem? (i := 880) (by decide +kernel), List.mem_of_getElem? (i := 881) (by decide +kernel)⟩
theorem lw_p41 : lw_okq (⟨"NamedFabricModel", "looks", "()V"⟩, 20) := ⟨⟨by decide +kernel, by decide +kernel⟩, List.mem_of_getElem? (i := 711) (by decide +kernel), List.mem_of_getElem? (i := 884) (by decide +kernel), List.mem_of_getElem? (i := 885) (by decide +kernel)⟩
theorem lw_p42 : lw_okq (⟨"NamedFabricModel", "seesOf", "(I)I"⟩, 20) := ⟨⟨by decide +kernel, by decide +kernel⟩, List.mem_of_getElem? (i := 711) (by decide +kernel), List.mem_of_getElem? (i := 888) (by decide +kernel), List.mem_of_getElem? (i := 889) (by decide +kernel)⟩
theorem lw_p43 : lw_okq (⟨"NamedFabricModel", "doesSee", "(II)Z"⟩, 20) := ⟨⟨by decide +kernel, by decide +kernel⟩, List.mem_of_getElem? (i := 711) (by decide +kernel), List.mem_of_getElem? (i := 892) (by decide +kernel), List.mem_of_getElem? (i := 893) (by decide +kernel)⟩
theorem lw_p44 : lw_okq (⟨"NamedFabricModel", "areInOne", "(III)Z"⟩, 20) := ⟨⟨by decide +kernel, by decide +kernel⟩, List.mem_of_getElem? (i := 711) (by decide +kernel), List.mem_of_getElem? (i := 896) (by decide +kernel), List.mem_of_getElem? (i := 897) (by decide +kernel)⟩
theorem lw_p45 : lw_okq (⟨"NamedFabricModel", "zonesOf", "(I)I"⟩, 20) := ⟨⟨by decide +kernel, by decide +kernel⟩, List.mem_of_getElem? (i := 711) (by decide +kernel), List.mem_of_getElem? (i := 900) (by decide +kernel), List.mem_of_getElem? (i := 901) (by decide +kernel)⟩
theorem lw_p46 : lw_okq (⟨"NamedFabricModel", "zoned", "(III)V"⟩, 20) := ⟨⟨by decide +kernel, by decide +kernel⟩, List.mem_of_getElem? (i := 711) (by decide +kernel), List.mem_of_getElem? (i := 904) (by decide +kernel), List.mem_of_getElem? (i := 905) (by decide +kernel)⟩
theorem lw_p47 : lw_okq (⟨"NamedFabricModel", "handOut", "(I)I"⟩, 20) := ⟨⟨by decide +kernel, by decide +kernel⟩, List.mem_of_getElem? (i := 711) (by decide +kernel), List.mem_of_getElem? (i := 908) (by decide +kernel), List.mem_of_getElem? (i := 909) (by decide +kernel)⟩
def lw_privs_3 : List (MethodName × Nat) := [(⟨"NamedFabricModel", "wouldBe", "(II)I"⟩, 20), (⟨"NamedFabricModel", "fabricOf", "(I)I"⟩, 20), (⟨"NamedFabricModel", "besides", "(I)I"⟩, 20), (⟨"NamedFabricModel", "doZonesClash", "(II)Z"⟩, 20), (⟨"NamedFabricModel", "zoneOf", "(II)I"⟩, 20), (⟨"NamedFabricModel", "doBlocksClash", "(II)Z"⟩, 20), (⟨"NamedFabricModel", "blocksOf", "(I)I"⟩, 20), (⟨"NamedFabricModel", "of", "(II)I"⟩, 20), (⟨"NamedFabricModel", "putLink", "(IIII)V"⟩, 20), (⟨"NamedFabricModel", "looks", "()V"⟩, 20), (⟨"NamedFabricModel", "seesOf", "(I)I"⟩, 20), (⟨"NamedFabricModel", "doesSee", "(II)Z"⟩, 20), (⟨"NamedFabricModel", "areInOne", "(III)Z"⟩, 20), (⟨"NamedFabricModel", "zonesOf", "(I)I"⟩, 20), (⟨"NamedFabricModel", "zoned", "(III)V"⟩, 20), (⟨"NamedFabricModel", "handOut", "(I)I"⟩, 20)]
theorem lw_r3 : ∀ q ∈ lw_privs_3, lw_okq q := List.forall_mem_cons.mpr ⟨lw_p32, List.forall_mem_cons.mpr ⟨lw_p33, List.forall_mem_cons.mpr ⟨lw_p34, List.forall_mem_cons.mpr ⟨lw_p35, List.forall_mem_cons.mpr ⟨lw_p36, List.forall_mem_cons.mpr ⟨lw_p37, List.forall_mem_cons.mpr ⟨lw_p38, List.forall_mem_cons.mpr ⟨lw_p39, List.forall_mem_cons.mpr ⟨lw_p40, List.forall_mem_cons.mpr ⟨lw_p41, List.forall_mem_cons.mpr ⟨lw_p42, List.forall_mem_cons.mpr ⟨lw_p43, List.forall_mem_cons.mpr ⟨lw_p44, List.forall_mem_cons.mpr ⟨lw_p45, List.forall_mem_cons.mpr ⟨lw_p46, List.forall_mem_cons.mpr ⟨lw_p47, fun _ h => absurd h List.not_mem_nil⟩⟩⟩⟩⟩⟩⟩⟩⟩⟩⟩⟩⟩⟩⟩⟩
theorem lw_p48 : lw_okq (⟨"NamedFabricModel", "farOf", "(I)I"⟩, 20) := ⟨⟨by decide +kernel, by decide +kernel⟩, List.mem_of_getElem? (i := 711) (by decide +kernel), List.mem_of_getElem? (i := 912) (by decide +kernel), List.mem_of_getElem? (i := 913) (by decide +kernel)⟩
theorem lw_p49 : lw_okq (⟨"NamedFabricModel", "principalOf", "(I)I"⟩, 20) := ⟨⟨by decide +kernel, by decide +kernel⟩, List.mem_of_getElem? (i := 711) (by decide +kernel), List.mem_of_getElem? (i := 916) (by decide +kernel), List.mem_of_getElem? (i := 917) (by decide +kernel)⟩
theorem lw_p50 : lw_okq (⟨"NamedFabricModel", "tellNews", "()V"⟩, 20) := ⟨⟨by decide +kernel, by decide +kernel⟩, List.mem_of_getElem? (i := 711) (by decide +kernel), List.mem_of_getElem? (i := 920) (by decide +kernel), List.mem_of_getElem? (i := 921) (by decide +kernel)⟩
theorem lw_p51 : lw_okq (⟨"NamedFabricModel", "fabrics", "()I"⟩, 20) := ⟨⟨by decide +kernel, by decide +kernel⟩, List.mem_of_getElem? (i := 711) (by decide +kernel), List.mem_of_getElem? (i := 928) (by decide +kernel), List.mem_of_getElem? (i := 929) (by decide +kernel)⟩
theorem lw_p52 : lw_okq (⟨"NamedFabricModel", "isLowest", "(I)Z"⟩, 20) := ⟨⟨by decide +kernel, by decide +kernel⟩, List.mem_of_getElem? (i := 711) (by decide +kernel), List.mem_of_getElem? (i := 932) (by decide +kernel), List.mem_of_getElem? (i := 933) (by decide +kernel)⟩
theorem lw_p53 : lw_okq (⟨"NamedFabricModel", "isHost", "(I)Z"⟩, 20) := ⟨⟨by decide +kernel, by decide +kernel⟩, List.mem_of_getElem? (i := 711) (by decide +kernel), List.mem_of_getElem? (i := 944) (by decide +kernel), List.mem_of_getElem? (i := 945) (by decide +kernel)⟩
theorem lw_p54 : lw_okq (⟨"NamedFabricModel", "hostsAt", "(I)I"⟩, 20) := ⟨⟨by decide +kernel, by decide +kernel⟩, List.mem_of_getElem? (i := 711) (by decide +kernel), List.mem_of_getElem? (i := 968) (by decide +kernel), List.mem_of_getElem? (i := 969) (by decide +kernel)⟩
theorem lw_p55 : lw_okq (⟨"NamedFabricModel", "findWeakest", "()V"⟩, 20) := ⟨⟨by decide +kernel, by decide +kernel⟩, List.mem_of_getElem? (i := 711) (by decide +kernel), List.mem_of_getElem? (i := 992) (by decide +kernel), List.mem_of_getElem? (i := 993) (by decide +kernel)⟩
theorem lw_p56 : lw_okq (⟨"NamedFabricModel", "twos", "()I"⟩, 20) := ⟨⟨by decide +kernel, by decide +kernel⟩, List.mem_of_getElem? (i := 711) (by decide +kernel), List.mem_of_getElem? (i := 996) (by decide +kernel), List.mem_of_getElem? (i := 997) (by decide +kernel)⟩
theorem lw_p57 : lw_okq (⟨"NamedFabricModel", "findWhich", "()V"⟩, 20) := ⟨⟨by decide +kernel, by decide +kernel⟩, List.mem_of_getElem? (i := 711) (by decide +kernel), List.mem_of_getElem? (i := 1015) (by decide +kernel), List.mem_of_getElem? (i := 1016) (by decide +kernel)⟩
theorem lw_p58 : lw_okq (⟨"NamedFabricModel", "isSo", "()Z"⟩, 20) := ⟨⟨by decide +kernel, by decide +kernel⟩, List.mem_of_getElem? (i := 711) (by decide +kernel), List.mem_of_getElem? (i := 1019) (by decide +kernel), List.mem_of_getElem? (i := 1020) (by decide +kernel)⟩
theorem lw_p59 : lw_okq (⟨"NamedFabricModel", "sumOf", "(IIZ)I"⟩, 20) := ⟨⟨by decide +kernel, by decide +kernel⟩, List.mem_of_getElem? (i := 711) (by decide +kernel), List.mem_of_getElem? (i := 1039) (by decide +kernel), List.mem_of_getElem? (i := 1040) (by decide +kernel)⟩
def lw_privs_4 : List (MethodName × Nat) := [(⟨"NamedFabricModel", "farOf", "(I)I"⟩, 20), (⟨"NamedFabricModel", "principalOf", "(I)I"⟩, 20), (⟨"NamedFabricModel", "tellNews", "()V"⟩, 20), (⟨"NamedFabricModel", "fabrics", "()I"⟩, 20), (⟨"NamedFabricModel", "isLowest", "(I)Z"⟩, 20), (⟨"NamedFabricModel", "isHost", "(I)Z"⟩, 20), (⟨"NamedFabricModel", "hostsAt", "(I)I"⟩, 20), (⟨"NamedFabricModel", "findWeakest", "()V"⟩, 20), (⟨"NamedFabricModel", "twos", "()I"⟩, 20), (⟨"NamedFabricModel", "findWhich", "()V"⟩, 20), (⟨"NamedFabricModel", "isSo", "()Z"⟩, 20), (⟨"NamedFabricModel", "sumOf", "(IIZ)I"⟩, 20)]
theorem lw_r4 : ∀ q ∈ lw_privs_4, lw_okq q := List.forall_mem_cons.mpr ⟨lw_p48, List.forall_mem_cons.mpr ⟨lw_p49, List.forall_mem_cons.mpr ⟨lw_p50, List.forall_mem_cons.mpr ⟨lw_p51, List.forall_mem_cons.mpr ⟨lw_p52, List.forall_mem_cons.mpr ⟨lw_p53, List.forall_mem_cons.mpr ⟨lw_p54, List.forall_mem_cons.mpr ⟨lw_p55, List.forall_mem_cons.mpr ⟨lw_p56, List.forall_mem_cons.mpr ⟨lw_p57, List.forall_mem_cons.mpr ⟨lw_p58, List.forall_mem_cons.mpr ⟨lw_p59, fun _ h => absurd h List.not_mem_nil⟩⟩⟩⟩⟩⟩⟩⟩⟩⟩⟩⟩
def lw_privs : List (MethodName × Nat) := lw_privs_1 ++ (lw_privs_2 ++ (lw_privs_3 ++ (lw_privs_4)))
def lw_tbl : List Cond := k2_sels lw_privs ++ tables_1
theorem lw_privs_ok : ∀ q ∈ lw_privs, lw_okq q := by
  show ∀ q ∈ lw_privs_1 ++ (lw_privs_2 ++ (lw_privs_3 ++ (lw_privs_4))), lw_okq q
  exact List.forall_mem_append.mpr ⟨lw_r1, List.forall_mem_append.mpr ⟨lw_r2, List.forall_mem_append.mpr ⟨lw_r3, lw_r4⟩⟩⟩
end
section
def RX0 : String := "NamedFabric$Album"
def TX0 : u_T := fun k => match k with
  | 0 => ("NamedFabric$Album", "nets", "[LNamedFabric$Net;", true)
  | _ => ("NamedFabric$Album", "kept", "I", false)
def tyX0 : Nat → FieldType := fun k => match k with
  | 0 => .array (.object "NamedFabric$Net")
  | _ => .int
abbrev wsX00 : List Cond := u_ws RX0 TX0 2
theorem nmX0 : ∀ a, a < 2 → ∀ b, b < 2 → a ≠ b → (TX0 a).2.1 ≠ (TX0 b).2.1 := by decide +kernel
theorem tyX0_ok : ∀ k, k < 2 → parseFieldDescriptor (TX0 k).2.2.1 = some (tyX0 k) := by decide +kernel
abbrev cX0_init : ByteArray := prog_2_method_1_code
def yX0_init : MethodName := ⟨RX0, "<init>", "()V"⟩
abbrev cX0_empty : ByteArray := prog_2_method_2_code
def yX0_empty : MethodName := ⟨RX0, "empty", "()V"⟩
abbrev cX0_holds : ByteArray := prog_2_method_3_code
def yX0_holds : MethodName := ⟨RX0, "holds", "(I)Z"⟩
abbrev cX0_store : ByteArray := prog_2_method_4_code
def yX0_store : MethodName := ⟨RX0, "store", "(ILNamedFabric$Net;)V"⟩
abbrev cX0_restoreTo : ByteArray := prog_2_method_5_code
def yX0_restoreTo : MethodName := ⟨RX0, "restoreTo", "(ILNamedFabric$Net;)V"⟩
def RX1 : String := "NamedFabric$Clues"
def TX1 : u_T := fun k => match k with
  | 0 => ("NamedFabric$Clues", "size", "I", false)
  | 1 => ("NamedFabric$Clues", "mentioned", "I", false)
  | 2 => ("NamedFabric$Clues", "seen", "J", false)
  | _ => ("NamedFabric$Clues", "unseen", "J", false)
def tyX1 : Nat → FieldType := fun k => match k with
  | 0 => .int
  | 1 => .int
  | 2 => .long
  | _ => .long
abbrev wsX10 : List Cond := u_ws RX1 TX1 4
theorem nmX1 : ∀ a, a < 4 → ∀ b, b < 4 → a ≠ b → (TX1 a).2.1 ≠ (TX1 b).2.1 := by decide +kernel
theorem tyX1_ok : ∀ k, k < 4 → parseFieldDescriptor (TX1 k).2.2.1 = some (tyX1 k) := by decide +kernel
abbrev cX1_init : ByteArray := prog_3_method_1_code
def yX1_init : MethodName := ⟨RX1, "<init>", "()V"⟩
abbrev cX1_size : ByteArray := prog_3_method_2_code
def yX1_size : MethodName := ⟨RX1, "size", "()I"⟩
abbrev cX1_empty : ByteArray := prog_3_method_3_code
def yX1_empty : MethodName := ⟨RX1, "empty", "()V"⟩
abbrev cX1_add : ByteArray := prog_3_method_4_code
def yX1_add : MethodName := ⟨RX1, "add", "(IIZ)Z"⟩
abbrev cX1_fit : ByteArray := prog_3_method_5_code
def yX1_fit : MethodName := ⟨RX1, "fit", "(JI)Z"⟩
def RX2 : String := "NamedFabric$History"
def TX2 : u_T := fun k => match k with
  | 0 => ("NamedFabric$History", "nets", "[LNamedFabric$Net;", true)
  | 1 => ("NamedFabric$History", "oldest", "I", false)
  | _ => ("NamedFabric$History", "size", "I", false)
def tyX2 : Nat → FieldType := fun k => match k with
  | 0 => .array (.object "NamedFabric$Net")
  | 1 => .int
  | _ => .int
abbrev wsX20 : List Cond := u_ws RX2 TX2 3
theorem nmX2 : ∀ a, a < 3 → ∀ b, b < 3 → a ≠ b → (TX2 a).2.1 ≠ (TX2 b).2.1 := by decide +kernel
theorem tyX2_ok : ∀ k, k < 3 → parseFieldDescriptor (TX2 k).2.2.1 = some (tyX2 k) := by decide +kernel
abbrev cX2_init : ByteArray := prog_4_method_1_code
def yX2_init : MethodName := ⟨RX2, "<init>", "()V"⟩
abbrev cX2_size : ByteArray := prog_4_method_2_code
def yX2_size : MethodName := ⟨RX2, "size", "()I"⟩
abbrev cX2_empty : ByteArray := prog_4_method_3_code
def yX2_empty : MethodName := ⟨RX2, "empty", "()V"⟩
abbrev cX2_remember : ByteArray := prog_4_method_4_code
def yX2_remember : MethodName := ⟨RX2, "remember", "(LNamedFabric$Net;)V"⟩
abbrev cX2_restoreTo : ByteArray := prog_4_method_5_code
def yX2_restoreTo : MethodName := ⟨RX2, "restoreTo", "(LNamedFabric$Net;)V"⟩
def RX3 : String := "NamedFabric$Net"
def TX3 : u_T := fun k => match k with
  | 0 => ("NamedFabric$Net", "switches", "I", false)
  | 1 => ("NamedFabric$Net", "hosts", "I", false)
  | 2 => ("NamedFabric$Net", "renewing", "Z", false)
  | 3 => ("NamedFabric$Net", "priorities", "[I", true)
  | 4 => ("NamedFabric$Net", "names", "[I", true)
  | 5 => ("NamedFabric$Net", "wants", "[I", true)
  | 6 => ("NamedFabric$Net", "blocks", "[I", true)
  | 7 => ("NamedFabric$Net", "upTo", "[I", true)
  | 8 => ("NamedFabric$Net", "clashedTo", "[I", true)
  | 9 => ("NamedFabric$Net", "zoneSets", "[I", true)
  | 10 => ("NamedFabric$Net", "places", "[I", true)
  | 11 => ("NamedFabric$Net", "notices", "[I", true)
  | _ => ("NamedFabric$Net", "news", "[I", true)
def tyX3 : Nat → FieldType := fun k => match k with
  | 0 => .int
  | 1 => .int
  | 2 => .boolean
  | 3 => .array .int
  | 4 => .array .int
  | 5 => .array .int
  | 6 => .array .int
  | 7 => .array .int
  | 8 => .array .int
  | 9 => .array .int
  | 10 => .array .int
  | 11 => .array .int
  | _ => .array .int
abbrev wsX30 : List Cond := u_ws RX3 TX3 13
theorem nmX3 : ∀ a, a < 13 → ∀ b, b < 13 → a ≠ b → (TX3 a).2.1 ≠ (TX3 b).2.1 := by decide +kernel
theorem tyX3_ok : ∀ k, k < 13 → parseFieldDescriptor (TX3 k).2.2.1 = some (tyX3 k) := by decide +kernel
abbrev cX3_init : ByteArray := prog_5_method_1_code
def yX3_init : MethodName := ⟨RX3, "<init>", "()V"⟩
abbrev cX3_empty : ByteArray := prog_5_method_2_code
def yX3_empty : MethodName := ⟨RX3, "empty", "()V"⟩
abbrev cX3_copyFrom : ByteArray := prog_5_method_3_code
def yX3_copyFrom : MethodName := ⟨RX3, "copyFrom", "(LNamedFabric$Net;)V"⟩
abbrev cX3_copyRow : ByteArray := prog_5_method_4_code
def yX3_copyRow : MethodName := ⟨RX3, "copyRow", "([I[I)V"⟩
abbrev cX3_addSwitch : ByteArray := prog_5_method_5_code
def yX3_addSwitch : MethodName := ⟨RX3, "addSwitch", "(III)V"⟩
abbrev cX3_addHost : ByteArray := prog_5_method_6_code
def yX3_addHost : MethodName := ⟨RX3, "addHost", "(I)V"⟩
abbrev cX3_switchTotal : ByteArray := prog_5_method_7_code
def yX3_switchTotal : MethodName := ⟨RX3, "switchTotal", "()I"⟩
abbrev cX3_hostTotal : ByteArray := prog_5_method_8_code
def yX3_hostTotal : MethodName := ⟨RX3, "hostTotal", "()I"⟩
abbrev cX3_everyHost : ByteArray := prog_5_method_9_code
def yX3_everyHost : MethodName := ⟨RX3, "everyHost", "()I"⟩
abbrev cX3_hasSwitch : ByteArray := prog_5_method_10_code
def yX3_hasSwitch : MethodName := ⟨RX3, "hasSwitch", "(I)Z"⟩
abbrev cX3_hasTwo : ByteArray := prog_5_method_11_code
def yX3_hasTwo : MethodName := ⟨RX3, "hasTwo", "(II)Z"⟩
abbrev cX3_hasHost : ByteArray := prog_5_method_12_code
def yX3_hasHost : MethodName := ⟨RX3, "hasHost", "(I)Z"⟩
abbrev cX3_hasName : ByteArray := prog_5_method_13_code
def yX3_hasName : MethodName := ⟨RX3, "hasName", "(I)Z"⟩
abbrev cX3_isRenewing : ByteArray := prog_5_method_14_code
def yX3_isRenewing : MethodName := ⟨RX3, "isRenewing", "()Z"⟩
abbrev cX3_setRenewing : ByteArray := prog_5_method_15_code
def yX3_setRenewing : MethodName := ⟨RX3, "setRenewing", "(Z)V"⟩
abbrev cX3_priorityOf : ByteArray := prog_5_method_16_code
def yX3_priorityOf : MethodName := ⟨RX3, "priorityOf", "(I)I"⟩
abbrev cX3_setPriority : ByteArray := prog_5_method_17_code
def yX3_setPriority : MethodName := ⟨RX3, "setPriority", "(II)V"⟩
abbrev cX3_nameOf : ByteArray := prog_5_method_18_code
def yX3_nameOf : MethodName := ⟨RX3, "nameOf", "(I)I"⟩
abbrev cX3_wantOf : ByteArray := prog_5_method_19_code
def yX3_wantOf : MethodName := ⟨RX3, "wantOf", "(I)I"⟩
abbrev cX3_blockOf : ByteArray := prog_5_method_20_code
def yX3_blockOf : MethodName := ⟨RX3, "blockOf", "(I)I"⟩
abbrev cX3_placeOf : ByteArray := prog_5_method_21_code
def yX3_placeOf : MethodName := ⟨RX3, "placeOf", "(I)I"⟩
abbrev cX3_setPlace : ByteArray := prog_5_method_22_code
def yX3_setPlace : MethodName := ⟨RX3, "setPlace", "(II)V"⟩
abbrev cX3_noticesOf : ByteArray := prog_5_method_23_code
def yX3_noticesOf : MethodName := ⟨RX3, "noticesOf", "(I)I"⟩
abbrev cX3_newsOf : ByteArray := prog_5_method_24_code
def yX3_newsOf : MethodName := ⟨RX3, "newsOf", "(I)I"⟩
abbrev cX3_noticeTotal : ByteArray := prog_5_method_25_code
def yX3_noticeTotal : MethodName := ⟨RX3, "noticeTotal", "()I"⟩
abbrev cX3_isUp : ByteArray := prog_5_method_26_code
def yX3_isUp : MethodName := ⟨RX3, "isUp", "(II)Z"⟩
abbrev cX3_linkState : ByteArray := prog_5_method_27_code
def yX3_linkState : MethodName := ⟨RX3, "linkState", "(II)I"⟩
abbrev cX3_setLink : ByteArray := prog_5_method_28_code
def yX3_setLink : MethodName := ⟨RX3, "setLink", "(III)V"⟩
abbrev cX3_setEnd : ByteArray := prog_5_method_29_code
def yX3_setEnd : MethodName := ⟨RX3, "setEnd", "(III)V"⟩
abbrev cX3_linkTotal : ByteArray := prog_5_method_30_code
def yX3_linkTotal : MethodName := ⟨RX3, "linkTotal", "(I)I"⟩
abbrev cX3_spread : ByteArray := prog_5_method_31_code
def yX3_spread : MethodName := ⟨RX3, "spread", "(I)I"⟩
abbrev cX3_fabricOf : ByteArray := prog_5_method_32_code
def yX3_fabricOf : MethodName := ⟨RX3, "fabricOf", "(I)I"⟩
abbrev cX3_fabricTotal : ByteArray := prog_5_method_33_code
def yX3_fabricTotal : MethodName := ⟨RX3, "fabricTotal", "()I"⟩
abbrev cX3_principalOf : ByteArray := prog_5_method_34_code
def yX3_principalOf : MethodName := ⟨RX3, "principalOf", "(I)I"⟩
abbrev cX3_goesAhead : ByteArray := prog_5_method_35_code
def yX3_goesAhead : MethodName := ⟨RX3, "goesAhead", "(II)Z"⟩
abbrev cX3_farOf : ByteArray := prog_5_method_36_code
def yX3_farOf : MethodName := ⟨RX3, "farOf", "(I)I"⟩
abbrev cX3_handOut : ByteArray := prog_5_method_37_code
def yX3_handOut : MethodName := ⟨RX3, "handOut", "(I)I"⟩
abbrev cX3_setBlock : ByteArray := prog_5_method_38_code
def yX3_setBlock : MethodName := ⟨RX3, "setBlock", "(II)V"⟩
abbrev cX3_lowestNameOf : ByteArray := prog_5_method_39_code
def yX3_lowestNameOf : MethodName := ⟨RX3, "lowestNameOf", "(I)I"⟩
abbrev cX3_blockFor : ByteArray := prog_5_method_40_code
def yX3_blockFor : MethodName := ⟨RX3, "blockFor", "(II)I"⟩
abbrev cX3_blocksIn : ByteArray := prog_5_method_41_code
def yX3_blocksIn : MethodName := ⟨RX3, "blocksIn", "(I)I"⟩
abbrev cX3_zoneSet : ByteArray := prog_5_method_42_code
def yX3_zoneSet : MethodName := ⟨RX3, "zoneSet", "(II)I"⟩
abbrev cX3_setZone : ByteArray := prog_5_method_43_code
def yX3_setZone : MethodName := ⟨RX3, "setZone", "(III)V"⟩
abbrev cX3_zonesClash : ByteArray := prog_5_method_44_code
def yX3_zonesClash : MethodName := ⟨RX3, "zonesClash", "(II)Z"⟩
abbrev cX3_outcomeOf : ByteArray := prog_5_method_45_code
def yX3_outcomeOf : MethodName := ⟨RX3, "outcomeOf", "(II)I"⟩
abbrev cX3_join : ByteArray := prog_5_method_46_code
def yX3_join : MethodName := ⟨RX3, "join", "(II)Z"⟩
abbrev cX3_shareZones : ByteArray := prog_5_method_47_code
def yX3_shareZones : MethodName := ⟨RX3, "shareZones", "(II)V"⟩
abbrev cX3_hostsAt : ByteArray := prog_5_method_48_code
def yX3_hostsAt : MethodName := ⟨RX3, "hostsAt", "(I)I"⟩
abbrev cX3_view : ByteArray := prog_5_method_49_code
def yX3_view : MethodName := ⟨RX3, "view", "()J"⟩
abbrev cX3_viewWithin : ByteArray := prog_5_method_50_code
def yX3_viewWithin : MethodName := ⟨RX3, "viewWithin", "(II)J"⟩
abbrev cX3_zonesEmpty : ByteArray := prog_5_method_51_code
def yX3_zonesEmpty : MethodName := ⟨RX3, "zonesEmpty", "(I)Z"⟩
abbrev cX3_sharingZone : ByteArray := prog_5_method_52_code
def yX3_sharingZone : MethodName := ⟨RX3, "sharingZone", "(II)I"⟩
abbrev cX3_viewWithout : ByteArray := prog_5_method_53_code
def yX3_viewWithout : MethodName := ⟨RX3, "viewWithout", "(II)J"⟩
abbrev cX3_noticeSince : ByteArray := prog_5_method_54_code
def yX3_noticeSince : MethodName := ⟨RX3, "noticeSince", "(J)V"⟩
def RX4 : String := "NamedFabric$Reader"
def TX4 : u_T := fun k => match k with
  | 0 => ("NamedFabric$Reader", "told", "LNamedFabric$Net;", true)
  | 1 => ("NamedFabric$Reader", "awaited", "I", false)
  | 2 => ("NamedFabric$Reader", "priority", "I", false)
  | _ => ("NamedFabric$Reader", "name", "I", false)
def tyX4 : Nat → FieldType := fun k => match k with
  | 0 => .object "NamedFabric$Net"
  | 1 => .int
  | 2 => .int
  | _ => .int
abbrev wsX40 : List Cond := u_ws RX4 TX4 4
theorem nmX4 : ∀ a, a < 4 → ∀ b, b < 4 → a ≠ b → (TX4 a).2.1 ≠ (TX4 b).2.1 := by decide +kernel
theorem tyX4_ok : ∀ k, k < 4 → parseFieldDescriptor (TX4 k).2.2.1 = some (tyX4 k) := by decide +kernel
abbrev cX4_init : ByteArray := prog_6_method_1_code
def yX4_init : MethodName := ⟨RX4, "<init>", "()V"⟩
abbrev cX4_told : ByteArray := prog_6_method_2_code
def yX4_told : MethodName := ⟨RX4, "told", "()LNamedFabric$Net;"⟩
abbrev cX4_faultOf : ByteArray := prog_6_method_3_code
def yX4_faultOf : MethodName := ⟨RX4, "faultOf", "(LNamedFabric$Script;)I"⟩
abbrev cX4_takes : ByteArray := prog_6_method_4_code
def yX4_takes : MethodName := ⟨RX4, "takes", "(II)Z"⟩
abbrev cX4_takesItem : ByteArray := prog_6_method_5_code
def yX4_takesItem : MethodName := ⟨RX4, "takesItem", "(I)Z"⟩
abbrev cX4_takesPriority : ByteArray := prog_6_method_6_code
def yX4_takesPriority : MethodName := ⟨RX4, "takesPriority", "(I)Z"⟩
abbrev cX4_takesName : ByteArray := prog_6_method_7_code
def yX4_takesName : MethodName := ⟨RX4, "takesName", "(I)Z"⟩
abbrev cX4_takesWant : ByteArray := prog_6_method_8_code
def yX4_takesWant : MethodName := ⟨RX4, "takesWant", "(I)Z"⟩
abbrev cX4_takesPlace : ByteArray := prog_6_method_9_code
def yX4_takesPlace : MethodName := ⟨RX4, "takesPlace", "(II)Z"⟩
def RX5 : String := "NamedFabric$Script"
def TX5 : u_T := fun k => match k with
  | 0 => ("NamedFabric$Script", "letters", "[I", true)
  | _ => ("NamedFabric$Script", "size", "I", false)
def tyX5 : Nat → FieldType := fun k => match k with
  | 0 => .array .int
  | _ => .int
abbrev wsX50 : List Cond := u_ws RX5 TX5 2
theorem nmX5 : ∀ a, a < 2 → ∀ b, b < 2 → a ≠ b → (TX5 a).2.1 ≠ (TX5 b).2.1 := by decide +kernel
theorem tyX5_ok : ∀ k, k < 2 → parseFieldDescriptor (TX5 k).2.2.1 = some (tyX5 k) := by decide +kernel
abbrev cX5_init : ByteArray := prog_7_method_1_code
def yX5_init : MethodName := ⟨RX5, "<init>", "()V"⟩
abbrev cX5_add : ByteArray := prog_7_method_2_code
def yX5_add : MethodName := ⟨RX5, "add", "(I)Z"⟩
abbrev cX5_empty : ByteArray := prog_7_method_3_code
def yX5_empty : MethodName := ⟨RX5, "empty", "()V"⟩
abbrev cX5_size : ByteArray := prog_7_method_4_code
def yX5_size : MethodName := ⟨RX5, "size", "()I"⟩
abbrev cX5_letterAt : ByteArray := prog_7_method_5_code
def yX5_letterAt : MethodName := ⟨RX5, "letterAt", "(I)I"⟩
abbrev cX5_isFigure : ByteArray := prog_7_method_6_code
def yX5_isFigure : MethodName := ⟨RX5, "isFigure", "(I)Z"⟩
abbrev cX5_skipBlanks : ByteArray := prog_7_method_7_code
def yX5_skipBlanks : MethodName := ⟨RX5, "skipBlanks", "(I)I"⟩
abbrev cX5_tokenEnd : ByteArray := prog_7_method_8_code
def yX5_tokenEnd : MethodName := ⟨RX5, "tokenEnd", "(I)I"⟩
abbrev cX5_numberAt : ByteArray := prog_7_method_9_code
def yX5_numberAt : MethodName := ⟨RX5, "numberAt", "(II)I"⟩
def RX6 : String := "NamedFabric$Trials"
def TX6 : u_T := fun k => match k with
  | 0 => ("NamedFabric$Trials", "codes", "[I", true)
  | 1 => ("NamedFabric$Trials", "views", "[J", true)
  | _ => ("NamedFabric$Trials", "size", "I", false)
def tyX6 : Nat → FieldType := fun k => match k with
  | 0 => .array .int
  | 1 => .array .long
  | _ => .int
abbrev wsX60 : List Cond := u_ws RX6 TX6 3
theorem nmX6 : ∀ a, a < 3 → ∀ b, b < 3 → a ≠ b → (TX6 a).2.1 ≠ (TX6 b).2.1 := by decide +kernel
theorem tyX6_ok : ∀ k, k < 3 → parseFieldDescriptor (TX6 k).2.2.1 = some (tyX6 k) := by decide +kernel
abbrev cX6_init : ByteArray := prog_8_method_1_code
def yX6_init : MethodName := ⟨RX6, "<init>", "()V"⟩
abbrev cX6_size : ByteArray := prog_8_method_2_code
def yX6_size : MethodName := ⟨RX6, "size", "()I"⟩
abbrev cX6_codeAt : ByteArray := prog_8_method_3_code
def yX6_codeAt : MethodName := ⟨RX6, "codeAt", "(I)I"⟩
abbrev cX6_cutEach : ByteArray := prog_8_method_4_code
def yX6_cutEach : MethodName := ⟨RX6, "cutEach", "(LNamedFabric$Net;)V"⟩
abbrev cX6_dropUnfit : ByteArray := prog_8_method_5_code
def yX6_dropUnfit : MethodName := ⟨RX6, "dropUnfit", "(LNamedFabric$Clues;I)V"⟩
abbrev cX6_lostAt : ByteArray := prog_8_method_6_code
def yX6_lostAt : MethodName := ⟨RX6, "lostAt", "(IJ)I"⟩
abbrev cX6_dearest : ByteArray := prog_8_method_7_code
def yX6_dearest : MethodName := ⟨RX6, "dearest", "(J)I"⟩
abbrev cX6_bestQuestion : ByteArray := prog_8_method_8_code
def yX6_bestQuestion : MethodName := ⟨RX6, "bestQuestion", "(I)I"⟩
abbrev cX6_mostAlike : ByteArray := prog_8_method_9_code
def yX6_mostAlike : MethodName := ⟨RX6, "mostAlike", "(J)I"⟩
def RX7 : String := "NamedFabric"
def TX7 : u_T := fun k => match k with
  | 0 => ("NamedFabric", "script", "LNamedFabric$Script;", true)
  | 1 => ("NamedFabric", "reader", "LNamedFabric$Reader;", true)
  | 2 => ("NamedFabric", "now", "LNamedFabric$Net;", true)
  | 3 => ("NamedFabric", "history", "LNamedFabric$History;", true)
  | 4 => ("NamedFabric", "album", "LNamedFabric$Album;", true)
  | 5 => ("NamedFabric", "clues", "LNamedFabric$Clues;", true)
  | _ => ("NamedFabric", "trials", "LNamedFabric$Trials;", true)
def tyX7 : Nat → FieldType := fun k => match k with
  | 0 => .object "NamedFabric$Script"
  | 1 => .object "NamedFabric$Reader"
  | 2 => .object "NamedFabric$Net"
  | 3 => .object "NamedFabric$History"
  | 4 => .object "NamedFabric$Album"
  | 5 => .object "NamedFabric$Clues"
  | _ => .object "NamedFabric$Trials"
abbrev wsX70 : List Cond := u_ws RX7 TX7 7
theorem nmX7 : ∀ a, a < 7 → ∀ b, b < 7 → a ≠ b → (TX7 a).2.1 ≠ (TX7 b).2.1 := by decide +kernel
theorem tyX7_ok : ∀ k, k < 7 → parseFieldDescriptor (TX7 k).2.2.1 = some (tyX7 k) := by decide +kernel
abbrev cX7_init : ByteArray := prog_1_method_1_code
def yX7_init : MethodName := ⟨RX7, "<init>", "()V"⟩
abbrev cX7_type : ByteArray := prog_1_method_2_code
def yX7_type : MethodName := ⟨RX7, "type", "(I)I"⟩
abbrev cX7_clear : ByteArray := prog_1_method_3_code
def yX7_clear : MethodName := ⟨RX7, "clear", "()I"⟩
abbrev cX7_tells : ByteArray := prog_1_method_4_code
def yX7_tells : MethodName := ⟨RX7, "tells", "()I"⟩
abbrev cX7_joins : ByteArray := prog_1_method_5_code
def yX7_joins : MethodName := ⟨RX7, "joins", "(II)I"⟩
abbrev cX7_cuts : ByteArray := prog_1_method_6_code
def yX7_cuts : MethodName := ⟨RX7, "cuts", "(II)I"⟩
abbrev cX7_zones : ByteArray := prog_1_method_7_code
def yX7_zones : MethodName := ⟨RX7, "zones", "(III)I"⟩
abbrev cX7_moves : ByteArray := prog_1_method_8_code
def yX7_moves : MethodName := ⟨RX7, "moves", "(II)I"⟩
abbrev cX7_ranks : ByteArray := prog_1_method_9_code
def yX7_ranks : MethodName := ⟨RX7, "ranks", "(II)I"⟩
abbrev cX7_renews : ByteArray := prog_1_method_10_code
def yX7_renews : MethodName := ⟨RX7, "renews", "(I)I"⟩
abbrev cX7_allows : ByteArray := prog_1_method_11_code
def yX7_allows : MethodName := ⟨RX7, "allows", "(I)I"⟩
abbrev cX7_undo : ByteArray := prog_1_method_12_code
def yX7_undo : MethodName := ⟨RX7, "undo", "()I"⟩
abbrev cX7_device : ByteArray := prog_1_method_13_code
def yX7_device : MethodName := ⟨RX7, "device", "(II)I"⟩
abbrev cX7_link : ByteArray := prog_1_method_14_code
def yX7_link : MethodName := ⟨RX7, "link", "(II)I"⟩
abbrev cX7_zone : ByteArray := prog_1_method_15_code
def yX7_zone : MethodName := ⟨RX7, "zone", "(II)I"⟩
abbrev cX7_host : ByteArray := prog_1_method_16_code
def yX7_host : MethodName := ⟨RX7, "host", "(II)I"⟩
abbrev cX7_would : ByteArray := prog_1_method_17_code
def yX7_would : MethodName := ⟨RX7, "would", "(II)I"⟩
abbrev cX7_weakest : ByteArray := prog_1_method_18_code
def yX7_weakest : MethodName := ⟨RX7, "weakest", "(I)I"⟩
abbrev cX7_sees : ByteArray := prog_1_method_19_code
def yX7_sees : MethodName := ⟨RX7, "sees", "(III)I"⟩
abbrev cX7_forget : ByteArray := prog_1_method_20_code
def yX7_forget : MethodName := ⟨RX7, "forget", "()I"⟩
abbrev cX7_which : ByteArray := prog_1_method_21_code
def yX7_which : MethodName := ⟨RX7, "which", "(I)I"⟩
abbrev cX7_ask : ByteArray := prog_1_method_22_code
def yX7_ask : MethodName := ⟨RX7, "ask", "()I"⟩
abbrev cX7_keep : ByteArray := prog_1_method_23_code
def yX7_keep : MethodName := ⟨RX7, "keep", "(I)I"⟩
abbrev cX7_back : ByteArray := prog_1_method_24_code
def yX7_back : MethodName := ⟨RX7, "back", "(I)I"⟩
abbrev cX7_count : ByteArray := prog_1_method_25_code
def yX7_count : MethodName := ⟨RX7, "count", "(I)I"⟩
abbrev cX7_rememberView : ByteArray := prog_1_method_26_code
def yX7_rememberView : MethodName := ⟨RX7, "rememberView", "()J"⟩
abbrev cX7_viewBit : ByteArray := prog_1_method_27_code
def yX7_viewBit : MethodName := ⟨RX7, "viewBit", "(II)J"⟩
abbrev cX7_rowOf : ByteArray := prog_1_method_28_code
def yX7_rowOf : MethodName := ⟨RX7, "rowOf", "(JI)I"⟩
abbrev cX7_twosOf : ByteArray := prog_1_method_29_code
def yX7_twosOf : MethodName := ⟨RX7, "twosOf", "(J)I"⟩
abbrev cX7_has : ByteArray := prog_1_method_30_code
def yX7_has : MethodName := ⟨RX7, "has", "(II)Z"⟩
def RX8 : String := "NamedFabricModel"
def TX8 : u_T := fun k => match k with
  | 0 => ("NamedFabricModel", "now", "[I", true)
  | 1 => ("NamedFabricModel", "read", "[I", true)
  | 2 => ("NamedFabricModel", "past", "[I", true)
  | 3 => ("NamedFabricModel", "deeds", "I", false)
  | 4 => ("NamedFabricModel", "images", "[I", true)
  | 5 => ("NamedFabricModel", "isKept", "[Z", true)
  | 6 => ("NamedFabricModel", "text", "[I", true)
  | 7 => ("NamedFabricModel", "letters", "I", false)
  | 8 => ("NamedFabricModel", "at", "I", false)
  | 9 => ("NamedFabricModel", "token", "I", false)
  | 10 => ("NamedFabricModel", "tokenAt", "I", false)
  | 11 => ("NamedFabricModel", "value", "I", false)
  | 12 => ("NamedFabricModel", "facts", "[I", true)
  | 13 => ("NamedFabricModel", "seen", "I", false)
  | 14 => ("NamedFabricModel", "seenAhead", "[I", true)
  | 15 => ("NamedFabricModel", "weakLink", "I", false)
  | 16 => ("NamedFabricModel", "weakTwos", "I", false)
  | 17 => ("NamedFabricModel", "which", "[I", true)
  | 18 => ("NamedFabricModel", "views", "[I", true)
  | _ => ("NamedFabricModel", "whichMany", "I", false)
def tyX8 : Nat → FieldType := fun k => match k with
  | 0 => .array .int
  | 1 => .array .int
  | 2 => .array .int
  | 3 => .int
  | 4 => .array .int
  | 5 => .array .boolean
  | 6 => .array .int
  | 7 => .int
  | 8 => .int
  | 9 => .int
  | 10 => .int
  | 11 => .int
  | 12 => .array .int
  | 13 => .int
  | 14 => .array .int
  | 15 => .int
  | 16 => .int
  | 17 => .array .int
  | 18 => .array .int
  | _ => .int
abbrev wsX80 : List Cond := u_ws RX8 TX8 20
theorem nmX8 : ∀ a, a < 20 → ∀ b, b < 20 → a ≠ b → (TX8 a).2.1 ≠ (TX8 b).2.1 := by decide +kernel
theorem tyX8_ok : ∀ k, k < 20 → parseFieldDescriptor (TX8 k).2.2.1 = some (tyX8 k) := by decide +kernel
abbrev cX8_init : ByteArray := prog_10_method_1_code
def yX8_init : MethodName := ⟨RX8, "<init>", "()V"⟩
abbrev cX8_in : ByteArray := prog_10_method_2_code
def yX8_in : MethodName := ⟨RX8, "in", "(III)Z"⟩
abbrev cX8_has : ByteArray := prog_10_method_3_code
def yX8_has : MethodName := ⟨RX8, "has", "(II)Z"⟩
abbrev cX8_ones : ByteArray := prog_10_method_4_code
def yX8_ones : MethodName := ⟨RX8, "ones", "(I)I"⟩
abbrev cX8_bring : ByteArray := prog_10_method_5_code
def yX8_bring : MethodName := ⟨RX8, "bring", "([II[II)V"⟩
abbrev cX8_note : ByteArray := prog_10_method_6_code
def yX8_note : MethodName := ⟨RX8, "note", "()V"⟩
abbrev cX8_isFigure : ByteArray := prog_10_method_7_code
def yX8_isFigure : MethodName := ⟨RX8, "isFigure", "()Z"⟩
abbrev cX8_next : ByteArray := prog_10_method_8_code
def yX8_next : MethodName := ⟨RX8, "next", "()V"⟩
abbrev cX8_isNumber : ByteArray := prog_10_method_9_code
def yX8_isNumber : MethodName := ⟨RX8, "isNumber", "(II)Z"⟩
abbrev cX8_isNamed : ByteArray := prog_10_method_10_code
def yX8_isNamed : MethodName := ⟨RX8, "isNamed", "(I)Z"⟩
abbrev cX8_readSwitch : ByteArray := prog_10_method_11_code
def yX8_readSwitch : MethodName := ⟨RX8, "readSwitch", "()Z"⟩
abbrev cX8_readHost : ByteArray := prog_10_method_12_code
def yX8_readHost : MethodName := ⟨RX8, "readHost", "()Z"⟩
abbrev cX8_readText : ByteArray := prog_10_method_13_code
def yX8_readText : MethodName := ⟨RX8, "readText", "()I"⟩
abbrev cX8_type : ByteArray := prog_10_method_14_code
def yX8_type : MethodName := ⟨RX8, "type", "(I)I"⟩
abbrev cX8_clear : ByteArray := prog_10_method_15_code
def yX8_clear : MethodName := ⟨RX8, "clear", "()I"⟩
abbrev cX8_tells : ByteArray := prog_10_method_16_code
def yX8_tells : MethodName := ⟨RX8, "tells", "()I"⟩
abbrev cX8_isSwitch : ByteArray := prog_10_method_17_code
def yX8_isSwitch : MethodName := ⟨RX8, "isSwitch", "(I)Z"⟩
abbrev cX8_isHost : ByteArray := prog_10_method_18_code
def yX8_isHost : MethodName := ⟨RX8, "isHost", "(I)Z"⟩
abbrev cX8_areTwo : ByteArray := prog_10_method_19_code
def yX8_areTwo : MethodName := ⟨RX8, "areTwo", "(II)Z"⟩
abbrev cX8_of : ByteArray := prog_10_method_20_code
def yX8_of : MethodName := ⟨RX8, "of", "(II)I"⟩
abbrev cX8_besides : ByteArray := prog_10_method_21_code
def yX8_besides : MethodName := ⟨RX8, "besides", "(I)I"⟩
abbrev cX8_fabricOf : ByteArray := prog_10_method_22_code
def yX8_fabricOf : MethodName := ⟨RX8, "fabricOf", "(I)I"⟩
abbrev cX8_isLowest : ByteArray := prog_10_method_23_code
def yX8_isLowest : MethodName := ⟨RX8, "isLowest", "(I)Z"⟩
abbrev cX8_fabrics : ByteArray := prog_10_method_24_code
def yX8_fabrics : MethodName := ⟨RX8, "fabrics", "()I"⟩
abbrev cX8_principalOf : ByteArray := prog_10_method_25_code
def yX8_principalOf : MethodName := ⟨RX8, "principalOf", "(I)I"⟩
abbrev cX8_farOf : ByteArray := prog_10_method_26_code
def yX8_farOf : MethodName := ⟨RX8, "farOf", "(I)I"⟩
abbrev cX8_handOut : ByteArray := prog_10_method_27_code
def yX8_handOut : MethodName := ⟨RX8, "handOut", "(I)I"⟩
abbrev cX8_zoneOf : ByteArray := prog_10_method_28_code
def yX8_zoneOf : MethodName := ⟨RX8, "zoneOf", "(II)I"⟩
abbrev cX8_doZonesClash : ByteArray := prog_10_method_29_code
def yX8_doZonesClash : MethodName := ⟨RX8, "doZonesClash", "(II)Z"⟩
abbrev cX8_blocksOf : ByteArray := prog_10_method_30_code
def yX8_blocksOf : MethodName := ⟨RX8, "blocksOf", "(I)I"⟩
abbrev cX8_doBlocksClash : ByteArray := prog_10_method_31_code
def yX8_doBlocksClash : MethodName := ⟨RX8, "doBlocksClash", "(II)Z"⟩
abbrev cX8_isUp : ByteArray := prog_10_method_32_code
def yX8_isUp : MethodName := ⟨RX8, "isUp", "(II)Z"⟩
abbrev cX8_putLink : ByteArray := prog_10_method_33_code
def yX8_putLink : MethodName := ⟨RX8, "putLink", "(IIII)V"⟩
abbrev cX8_zonesOf : ByteArray := prog_10_method_34_code
def yX8_zonesOf : MethodName := ⟨RX8, "zonesOf", "(I)I"⟩
abbrev cX8_areInOne : ByteArray := prog_10_method_35_code
def yX8_areInOne : MethodName := ⟨RX8, "areInOne", "(III)Z"⟩
abbrev cX8_doesSee : ByteArray := prog_10_method_36_code
def yX8_doesSee : MethodName := ⟨RX8, "doesSee", "(II)Z"⟩
abbrev cX8_seesOf : ByteArray := prog_10_method_37_code
def yX8_seesOf : MethodName := ⟨RX8, "seesOf", "(I)I"⟩
abbrev cX8_twos : ByteArray := prog_10_method_38_code
def yX8_twos : MethodName := ⟨RX8, "twos", "()I"⟩
abbrev cX8_looks : ByteArray := prog_10_method_39_code
def yX8_looks : MethodName := ⟨RX8, "looks", "()V"⟩
abbrev cX8_tellNews : ByteArray := prog_10_method_40_code
def yX8_tellNews : MethodName := ⟨RX8, "tellNews", "()V"⟩
abbrev cX8_wouldBe : ByteArray := prog_10_method_41_code
def yX8_wouldBe : MethodName := ⟨RX8, "wouldBe", "(II)I"⟩
abbrev cX8_joins : ByteArray := prog_10_method_42_code
def yX8_joins : MethodName := ⟨RX8, "joins", "(II)I"⟩
abbrev cX8_zoned : ByteArray := prog_10_method_43_code
def yX8_zoned : MethodName := ⟨RX8, "zoned", "(III)V"⟩
abbrev cX8_cuts : ByteArray := prog_10_method_44_code
def yX8_cuts : MethodName := ⟨RX8, "cuts", "(II)I"⟩
abbrev cX8_zones : ByteArray := prog_10_method_45_code
def yX8_zones : MethodName := ⟨RX8, "zones", "(III)I"⟩
abbrev cX8_moves : ByteArray := prog_10_method_46_code
def yX8_moves : MethodName := ⟨RX8, "moves", "(II)I"⟩
abbrev cX8_ranks : ByteArray := prog_10_method_47_code
def yX8_ranks : MethodName := ⟨RX8, "ranks", "(II)I"⟩
abbrev cX8_renews : ByteArray := prog_10_method_48_code
def yX8_renews : MethodName := ⟨RX8, "renews", "(I)I"⟩
abbrev cX8_allows : ByteArray := prog_10_method_49_code
def yX8_allows : MethodName := ⟨RX8, "allows", "(I)I"⟩
abbrev cX8_undo : ByteArray := prog_10_method_50_code
def yX8_undo : MethodName := ⟨RX8, "undo", "()I"⟩
abbrev cX8_hostsAt : ByteArray := prog_10_method_51_code
def yX8_hostsAt : MethodName := ⟨RX8, "hostsAt", "(I)I"⟩
abbrev cX8_device : ByteArray := prog_10_method_52_code
def yX8_device : MethodName := ⟨RX8, "device", "(II)I"⟩
abbrev cX8_link : ByteArray := prog_10_method_53_code
def yX8_link : MethodName := ⟨RX8, "link", "(II)I"⟩
abbrev cX8_zone : ByteArray := prog_10_method_54_code
def yX8_zone : MethodName := ⟨RX8, "zone", "(II)I"⟩
abbrev cX8_host : ByteArray := prog_10_method_55_code
def yX8_host : MethodName := ⟨RX8, "host", "(II)I"⟩
abbrev cX8_would : ByteArray := prog_10_method_56_code
def yX8_would : MethodName := ⟨RX8, "would", "(II)I"⟩
abbrev cX8_findWeakest : ByteArray := prog_10_method_57_code
def yX8_findWeakest : MethodName := ⟨RX8, "findWeakest", "()V"⟩
abbrev cX8_weakest : ByteArray := prog_10_method_58_code
def yX8_weakest : MethodName := ⟨RX8, "weakest", "(I)I"⟩
abbrev cX8_sees : ByteArray := prog_10_method_59_code
def yX8_sees : MethodName := ⟨RX8, "sees", "(III)I"⟩
abbrev cX8_forget : ByteArray := prog_10_method_60_code
def yX8_forget : MethodName := ⟨RX8, "forget", "()I"⟩
abbrev cX8_isSo : ByteArray := prog_10_method_61_code
def yX8_isSo : MethodName := ⟨RX8, "isSo", "()Z"⟩
abbrev cX8_findWhich : ByteArray := prog_10_method_62_code
def yX8_findWhich : MethodName := ⟨RX8, "findWhich", "()V"⟩
abbrev cX8_which : ByteArray := prog_10_method_63_code
def yX8_which : MethodName := ⟨RX8, "which", "(I)I"⟩
abbrev cX8_ask : ByteArray := prog_10_method_64_code
def yX8_ask : MethodName := ⟨RX8, "ask", "()I"⟩
abbrev cX8_keep : ByteArray := prog_10_method_65_code
def yX8_keep : MethodName := ⟨RX8, "keep", "(I)I"⟩
abbrev cX8_back : ByteArray := prog_10_method_66_code
def yX8_back : MethodName := ⟨RX8, "back", "(I)I"⟩
abbrev cX8_sumOf : ByteArray := prog_10_method_67_code
def yX8_sumOf : MethodName := ⟨RX8, "sumOf", "(IIZ)I"⟩
abbrev cX8_count : ByteArray := prog_10_method_68_code
def yX8_count : MethodName := ⟨RX8, "count", "(I)I"⟩
def RJ6 : String := "java/lang/Integer"
def TJ6 : u_T := fun k => match k with
  | _ => ("", "", "", false)
def tyJ6 : Nat → FieldType := fun k => match k with
  | _ => .int
abbrev wsJ60 : List Cond := u_ws RJ6 TJ6 0
theorem nmJ6 : ∀ a, a < 0 → ∀ b, b < 0 → a ≠ b → (TJ6 a).2.1 ≠ (TJ6 b).2.1 := by decide +kernel
theorem tyJ6_ok : ∀ k, k < 0 → parseFieldDescriptor (TJ6 k).2.2.1 = some (tyJ6 k) := by decide +kernel
abbrev cJ6_bitCount_0f7a4 : ByteArray := prog_11_method_49_code
def yJ6_bitCount_0f7a4 : MethodName := ⟨RJ6, "bitCount", "(I)I"⟩
def RJ13 : String := "java/lang/Long"
def TJ13 : u_T := fun k => match k with
  | _ => ("", "", "", false)
def tyJ13 : Nat → FieldType := fun k => match k with
  | _ => .int
abbrev wsJ130 : List Cond := u_ws RJ13 TJ13 0
theorem nmJ13 : ∀ a, a < 0 → ∀ b, b < 0 → a ≠ b → (TJ13 a).2.1 ≠ (TJ13 b).2.1 := by decide +kernel
theorem tyJ13_ok : ∀ k, k < 0 → parseFieldDescriptor (TJ13 k).2.2.1 = some (tyJ13 k) := by decide +kernel
abbrev cJ13_bitCount_95d88 : ByteArray := prog_12_method_50_code
def yJ13_bitCount_95d88 : MethodName := ⟨RJ13, "bitCount", "(J)I"⟩
def RJ9 : String := "java/lang/Math"
def TJ9 : u_T := fun k => match k with
  | _ => ("", "", "", false)
def tyJ9 : Nat → FieldType := fun k => match k with
  | _ => .int
abbrev wsJ90 : List Cond := u_ws RJ9 TJ9 0
theorem nmJ9 : ∀ a, a < 0 → ∀ b, b < 0 → a ≠ b → (TJ9 a).2.1 ≠ (TJ9 b).2.1 := by decide +kernel
theorem tyJ9_ok : ∀ k, k < 0 → parseFieldDescriptor (TJ9 k).2.2.1 = some (tyJ9 k) := by decide +kernel
abbrev cJ9_max_7cf53 : ByteArray := prog_13_method_65_code
def yJ9_max_7cf53 : MethodName := ⟨RJ9, "max", "(II)I"⟩
def RL : String := "NamedFabricLaw"
abbrev cL_law : ByteArray := code
def yL_law : MethodName := ⟨RL, "law", "([I)Z"⟩
abbrev vwCl : List vw_C := [(RX0, TX0, 2), (RX1, TX1, 4), (RX2, TX2, 3), (RX3, TX3, 13), (RX4, TX4, 4), (RX5, TX5, 2), (RX6, TX6, 3), (RX7, TX7, 7), (RX8, TX8, 20)]
end
section
/-- the words of the tables that last -/
def GG : List Cond := lw_tbl.filter goodWord
theorem gg_ok : ∀ w ∈ GG, (w.onTables && w.keeps) = true ∨ ∃ ty, w = .arrayClass ty := fun w h => good_of_word (List.mem_filter.mp h).2
theorem gg_in {w : Cond} {i : Nat} (h : lw_tbl[i]? = some w) (hg : goodWord w = true) : w ∈ GG := List.mem_filter.mpr ⟨List.mem_of_getElem? h, hg⟩
theorem gg_all {ws : List Cond} (is : List Nat) (h : ws = is.filterMap (fun i => lw_tbl[i]?)) (hg : ws.all goodWord = true) : ∀ w ∈ ws, w ∈ GG := by
  intro w hw
  have h1 := List.all_eq_true.mp hg w hw
  rw [h] at hw
  obtain ⟨i, -, hi⟩ := List.mem_filterMap.mp hw
  exact gg_in hi h1
theorem gg_tbl : ∀ w ∈ GG, w ∈ lw_tbl := fun w h => (List.mem_filter.mp h).1
abbrev WS (y : MethodName) (cc : ByteArray) (n : Nat) (r : Option FieldType) : List Cond := Cond.code y cc n r :: GG
theorem ws_good {y y' : MethodName} {cc cc' : ByteArray} {n n' : Nat} {r r' : Option FieldType} (h : Cond.code y' cc' n' r' ∈ GG) : GoodIn (WS y cc n r) (WS y' cc' n' r') := by
  intro w hw
  rcases List.mem_cons.mp hw with rfl | hw
  · exact ⟨List.mem_cons_of_mem _ h, gg_ok _ h⟩
  · exact ⟨List.mem_cons_of_mem _ hw, gg_ok _ hw⟩
theorem ws_goodG {y' : MethodName} {cc' : ByteArray} {n' : Nat} {r' : Option FieldType} (h : Cond.code y' cc' n' r' ∈ GG) : GoodIn GG (WS y' cc' n' r') := by
  intro w hw
  rcases List.mem_cons.mp hw with rfl | hw
  · exact ⟨h, gg_ok _ h⟩
  · exact ⟨hw, gg_ok _ hw⟩
def nestL : List Cond := [Cond.methodLinkNest RX7 11 yX5_init "NamedFabric",
  Cond.methodLinkNest RX7 18 yX4_init "NamedFabric",
  Cond.methodLinkNest RX4 11 yX3_init "NamedFabric",
  Cond.methodLinkNest RX7 25 yX3_init "NamedFabric",
  Cond.methodLinkNest RX2 17 yX3_init "NamedFabric",
  Cond.methodLinkNest RX0 17 yX3_init "NamedFabric",
  Cond.methodLinkNest RX7 50 yX1_init "NamedFabric",
  Cond.methodLinkNest RX7 57 yX6_init "NamedFabric",
  Cond.methodLinkNest RX3 72 yX7_has "NamedFabric",
  Cond.methodLinkNest RX3 160 yX7_rowOf "NamedFabric",
  Cond.methodLinkNest RX6 45 yX7_twosOf "NamedFabric",
  Cond.methodLinkNest RX1 25 yX7_viewBit "NamedFabric",
  Cond.methodLinkNest RX6 53 yX7_viewBit "NamedFabric",
  Cond.methodLinkNest RX0 22 yX7_has "NamedFabric"]
theorem nest_all {ws : List Cond} (is : List Nat) (h : ws = is.filterMap (fun i => lw_tbl[i]?)) : ∀ w ∈ ws, w ∈ lw_tbl := by
  intro w hw
  rw [h] at hw
  obtain ⟨i, -, hi⟩ := List.mem_filterMap.mp hw
  exact List.mem_of_getElem? hi
theorem nestL_in : ∀ w ∈ nestL, w ∈ lw_tbl := nest_all [83, 97, 103, 161, 174, 192, 202, 221, 401, 517, 663, 685, 716, 741] (by decide +kernel)
theorem mSE_X5_isFigure : Cond.selects RX5 yX5_isFigure yX5_isFigure ∈ GG := gg_in (i := 0) (by decide +kernel) (by decide +kernel)
theorem mSE_X4_takes : Cond.selects RX4 yX4_takes yX4_takes ∈ GG := gg_in (i := 1) (by decide +kernel) (by decide +kernel)
theorem mSE_X4_takesItem : Cond.selects RX4 yX4_takesItem yX4_takesItem ∈ GG := gg_in (i := 2) (by decide +kernel) (by decide +kernel)
theorem mSE_X4_takesPriority : Cond.selects RX4 yX4_takesPriority yX4_takesPriority ∈ GG := gg_in (i := 3) (by decide +kernel) (by decide +kernel)
theorem mSE_X4_takesName : Cond.selects RX4 yX4_takesName yX4_takesName ∈ GG := gg_in (i := 4) (by decide +kernel) (by decide +kernel)
theorem mSE_X4_takesWant : Cond.selects RX4 yX4_takesWant yX4_takesWant ∈ GG := gg_in (i := 5) (by decide +kernel) (by decide +kernel)
theorem mSE_X4_takesPlace : Cond.selects RX4 yX4_takesPlace yX4_takesPlace ∈ GG := gg_in (i := 6) (by decide +kernel) (by decide +kernel)
theorem mSE_X7_rememberView : Cond.selects RX7 yX7_rememberView yX7_rememberView ∈ GG := gg_in (i := 7) (by decide +kernel) (by decide +kernel)
theorem mSE_X3_spread : Cond.selects RX3 yX3_spread yX3_spread ∈ GG := gg_in (i := 8) (by decide +kernel) (by decide +kernel)
theorem mSE_X3_viewWithin : Cond.selects RX3 yX3_viewWithin yX3_viewWithin ∈ GG := gg_in (i := 9) (by decide +kernel) (by decide +kernel)
theorem mSE_X3_zonesEmpty : Cond.selects RX3 yX3_zonesEmpty yX3_zonesEmpty ∈ GG := gg_in (i := 10) (by decide +kernel) (by decide +kernel)
theorem mSE_X3_sharingZone : Cond.selects RX3 yX3_sharingZone yX3_sharingZone ∈ GG := gg_in (i := 11) (by decide +kernel) (by decide +kernel)
theorem mSE_X3_blocksIn : Cond.selects RX3 yX3_blocksIn yX3_blocksIn ∈ GG := gg_in (i := 12) (by decide +kernel) (by decide +kernel)
theorem mSE_X3_zonesClash : Cond.selects RX3 yX3_zonesClash yX3_zonesClash ∈ GG := gg_in (i := 13) (by decide +kernel) (by decide +kernel)
theorem mSE_X3_setEnd : Cond.selects RX3 yX3_setEnd yX3_setEnd ∈ GG := gg_in (i := 14) (by decide +kernel) (by decide +kernel)
theorem mSE_X3_shareZones : Cond.selects RX3 yX3_shareZones yX3_shareZones ∈ GG := gg_in (i := 15) (by decide +kernel) (by decide +kernel)
theorem mSE_X3_goesAhead : Cond.selects RX3 yX3_goesAhead yX3_goesAhead ∈ GG := gg_in (i := 16) (by decide +kernel) (by decide +kernel)
theorem mSE_X3_lowestNameOf : Cond.selects RX3 yX3_lowestNameOf yX3_lowestNameOf ∈ GG := gg_in (i := 17) (by decide +kernel) (by decide +kernel)
theorem mSE_X3_blockFor : Cond.selects RX3 yX3_blockFor yX3_blockFor ∈ GG := gg_in (i := 18) (by decide +kernel) (by decide +kernel)
theorem mSE_X3_setBlock : Cond.selects RX3 yX3_setBlock yX3_setBlock ∈ GG := gg_in (i := 19) (by decide +kernel) (by decide +kernel)
theorem mSE_X6_mostAlike : Cond.selects RX6 yX6_mostAlike yX6_mostAlike ∈ GG := gg_in (i := 20) (by decide +kernel) (by decide +kernel)
theorem mSE_X8_readText : Cond.selects RX8 yX8_readText yX8_readText ∈ GG := gg_in (i := 21) (by decide +kernel) (by decide +kernel)
theorem mSE_X8_next : Cond.selects RX8 yX8_next yX8_next ∈ GG := gg_in (i := 22) (by decide +kernel) (by decide +kernel)
theorem mSE_X8_isFigure : Cond.selects RX8 yX8_isFigure yX8_isFigure ∈ GG := gg_in (i := 23) (by decide +kernel) (by decide +kernel)
theorem mSE_X8_readSwitch : Cond.selects RX8 yX8_readSwitch yX8_readSwitch ∈ GG := gg_in (i := 24) (by decide +kernel) (by decide +kernel)
theorem mSE_X8_isNumber : Cond.selects RX8 yX8_isNumber yX8_isNumber ∈ GG := gg_in (i := 25) (by decide +kernel) (by decide +kernel)
theorem mSE_X8_isNamed : Cond.selects RX8 yX8_isNamed yX8_isNamed ∈ GG := gg_in (i := 26) (by decide +kernel) (by decide +kernel)
theorem mSE_X8_readHost : Cond.selects RX8 yX8_readHost yX8_readHost ∈ GG := gg_in (i := 27) (by decide +kernel) (by decide +kernel)
theorem mSE_X8_note : Cond.selects RX8 yX8_note yX8_note ∈ GG := gg_in (i := 28) (by decide +kernel) (by decide +kernel)
theorem mSE_X8_areTwo : Cond.selects RX8 yX8_areTwo yX8_areTwo ∈ GG := gg_in (i := 29) (by decide +kernel) (by decide +kernel)
theorem mSE_X8_isSwitch : Cond.selects RX8 yX8_isSwitch yX8_isSwitch ∈ GG := gg_in (i := 30) (by decide +kernel) (by decide +kernel)
theorem mSE_X8_isUp : Cond.selects RX8 yX8_isUp yX8_isUp ∈ GG := gg_in (i := 31) (by decide +kernel) (by decide +kernel)
theorem mSE_X8_wouldBe : Cond.selects RX8 yX8_wouldBe yX8_wouldBe ∈ GG := gg_in (i := 32) (by decide +kernel) (by decide +kernel)
theorem mSE_X8_fabricOf : Cond.selects RX8 yX8_fabricOf yX8_fabricOf ∈ GG := gg_in (i := 33) (by decide +kernel) (by decide +kernel)
theorem mSE_X8_besides : Cond.selects RX8 yX8_besides yX8_besides ∈ GG := gg_in (i := 34) (by decide +kernel) (by decide +kernel)
theorem mSE_X8_doZonesClash : Cond.selects RX8 yX8_doZonesClash yX8_doZonesClash ∈ GG := gg_in (i := 35) (by decide +kernel) (by decide +kernel)
theorem mSE_X8_zoneOf : Cond.selects RX8 yX8_zoneOf yX8_zoneOf ∈ GG := gg_in (i := 36) (by decide +kernel) (by decide +kernel)
theorem mSE_X8_doBlocksClash : Cond.selects RX8 yX8_doBlocksClash yX8_doBlocksClash ∈ GG := gg_in (i := 37) (by decide +kernel) (by decide +kernel)
theorem mSE_X8_blocksOf : Cond.selects RX8 yX8_blocksOf yX8_blocksOf ∈ GG := gg_in (i := 38) (by decide +kernel) (by decide +kernel)
theorem mSE_X8_of : Cond.selects RX8 yX8_of yX8_of ∈ GG := gg_in (i := 39) (by decide +kernel) (by decide +kernel)
theorem mSE_X8_putLink : Cond.selects RX8 yX8_putLink yX8_putLink ∈ GG := gg_in (i := 40) (by decide +kernel) (by decide +kernel)
theorem mSE_X8_looks : Cond.selects RX8 yX8_looks yX8_looks ∈ GG := gg_in (i := 41) (by decide +kernel) (by decide +kernel)
theorem mSE_X8_seesOf : Cond.selects RX8 yX8_seesOf yX8_seesOf ∈ GG := gg_in (i := 42) (by decide +kernel) (by decide +kernel)
theorem mSE_X8_doesSee : Cond.selects RX8 yX8_doesSee yX8_doesSee ∈ GG := gg_in (i := 43) (by decide +kernel) (by decide +kernel)
theorem mSE_X8_areInOne : Cond.selects RX8 yX8_areInOne yX8_areInOne ∈ GG := gg_in (i := 44) (by decide +kernel) (by decide +kernel)
theorem mSE_X8_zonesOf : Cond.selects RX8 yX8_zonesOf yX8_zonesOf ∈ GG := gg_in (i := 45) (by decide +kernel) (by decide +kernel)
theorem mSE_X8_zoned : Cond.selects RX8 yX8_zoned yX8_zoned ∈ GG := gg_in (i := 46) (by decide +kernel) (by decide +kernel)
theorem mSE_X8_handOut : Cond.selects RX8 yX8_handOut yX8_handOut ∈ GG := gg_in (i := 47) (by decide +kernel) (by decide +kernel)
theorem mSE_X8_farOf : Cond.selects RX8 yX8_farOf yX8_farOf ∈ GG := gg_in (i := 48) (by decide +kernel) (by decide +kernel)
theorem mSE_X8_principalOf : Cond.selects RX8 yX8_principalOf yX8_principalOf ∈ GG := gg_in (i := 49) (by decide +kernel) (by decide +kernel)
theorem mSE_X8_tellNews : Cond.selects RX8 yX8_tellNews yX8_tellNews ∈ GG := gg_in (i := 50) (by decide +kernel) (by decide +kernel)
theorem mSE_X8_fabrics : Cond.selects RX8 yX8_fabrics yX8_fabrics ∈ GG := gg_in (i := 51) (by decide +kernel) (by decide +kernel)
theorem mSE_X8_isLowest : Cond.selects RX8 yX8_isLowest yX8_isLowest ∈ GG := gg_in (i := 52) (by decide +kernel) (by decide +kernel)
theorem mSE_X8_isHost : Cond.selects RX8 yX8_isHost yX8_isHost ∈ GG := gg_in (i := 53) (by decide +kernel) (by decide +kernel)
theorem mSE_X8_hostsAt : Cond.selects RX8 yX8_hostsAt yX8_hostsAt ∈ GG := gg_in (i := 54) (by decide +kernel) (by decide +kernel)
theorem mSE_X8_findWeakest : Cond.selects RX8 yX8_findWeakest yX8_findWeakest ∈ GG := gg_in (i := 55) (by decide +kernel) (by decide +kernel)
theorem mSE_X8_twos : Cond.selects RX8 yX8_twos yX8_twos ∈ GG := gg_in (i := 56) (by decide +kernel) (by decide +kernel)
theorem mSE_X8_findWhich : Cond.selects RX8 yX8_findWhich yX8_findWhich ∈ GG := gg_in (i := 57) (by decide +kernel) (by decide +kernel)
theorem mSE_X8_isSo : Cond.selects RX8 yX8_isSo yX8_isSo ∈ GG := gg_in (i := 58) (by decide +kernel) (by decide +kernel)
theorem mSE_X8_sumOf : Cond.selects RX8 yX8_sumOf yX8_sumOf ∈ GG := gg_in (i := 59) (by decide +kernel) (by decide +kernel)
theorem mIN_L : Cond.initialized RL ∈ GG := gg_in (i := 60) (by decide +kernel) (by decide +kernel)
theorem mIN_X7 : Cond.initialized RX7 ∈ GG := gg_in (i := 61) (by decide +kernel) (by decide +kernel)
theorem mIN_X5 : Cond.initialized RX5 ∈ GG := gg_in (i := 62) (by decide +kernel) (by decide +kernel)
theorem mIN_X4 : Cond.initialized RX4 ∈ GG := gg_in (i := 63) (by decide +kernel) (by decide +kernel)
theorem mIN_X3 : Cond.initialized RX3 ∈ GG := gg_in (i := 64) (by decide +kernel) (by decide +kernel)
theorem mIN_X2 : Cond.initialized RX2 ∈ GG := gg_in (i := 65) (by decide +kernel) (by decide +kernel)
theorem mIN_X0 : Cond.initialized RX0 ∈ GG := gg_in (i := 66) (by decide +kernel) (by decide +kernel)
theorem mIN_X1 : Cond.initialized RX1 ∈ GG := gg_in (i := 67) (by decide +kernel) (by decide +kernel)
theorem mIN_X6 : Cond.initialized RX6 ∈ GG := gg_in (i := 68) (by decide +kernel) (by decide +kernel)
theorem mIN_X8 : Cond.initialized RX8 ∈ GG := gg_in (i := 69) (by decide +kernel) (by decide +kernel)
theorem mIN_J13 : Cond.initialized RJ13 ∈ GG := gg_in (i := 70) (by decide +kernel) (by decide +kernel)
theorem mIN_J9 : Cond.initialized RJ9 ∈ GG := gg_in (i := 71) (by decide +kernel) (by decide +kernel)
theorem mIN_J6 : Cond.initialized RJ6 ∈ GG := gg_in (i := 72) (by decide +kernel) (by decide +kernel)
theorem mCL_L_7 : Cond.classLink RL 7 RX7 ∈ GG := gg_in (i := 73) (by decide +kernel) (by decide +kernel)
theorem mIS_X7 : Cond.instantiable RX7 7 ∈ GG := gg_in (i := 74) (by decide +kernel) (by decide +kernel)
theorem mML_L_9 : Cond.methodLink RL 9 yX7_init ∈ GG := gg_in (i := 75) (by decide +kernel) (by decide +kernel)
theorem mIM_X7_init : Cond.instanceMethod yX7_init ∈ GG := gg_in (i := 76) (by decide +kernel) (by decide +kernel)
theorem mCO_X7_init : Cond.code yX7_init cX7_init 1 none ∈ GG := gg_in (i := 77) (by decide +kernel) (by decide +kernel)
theorem mML_X7_3 : Cond.methodLink RX7 3 objectInit ∈ GG := gg_in (i := 78) (by decide +kernel) (by decide +kernel)
theorem mIM_obj : Cond.instanceMethod objectInit ∈ GG := gg_in (i := 79) (by decide +kernel) (by decide +kernel)
theorem mCO_obj : Cond.code objectInit ⟨#[0xb1]⟩ 1 none ∈ GG := gg_in (i := 80) (by decide +kernel) (by decide +kernel)
theorem mCL_X7_9 : Cond.classLink RX7 9 RX5 ∈ GG := gg_in (i := 81) (by decide +kernel) (by decide +kernel)
theorem mIS_X5 : Cond.instantiable RX5 2 ∈ GG := gg_in (i := 82) (by decide +kernel) (by decide +kernel)
theorem mIM_X5_init : Cond.instanceMethod yX5_init ∈ GG := gg_in (i := 84) (by decide +kernel) (by decide +kernel)
theorem mCO_X5_init : Cond.code yX5_init cX5_init 1 none ∈ GG := gg_in (i := 85) (by decide +kernel) (by decide +kernel)
theorem mML_X5_3 : Cond.methodLink RX5 3 objectInit ∈ GG := gg_in (i := 86) (by decide +kernel) (by decide +kernel)
theorem mFL_X5_9 : Cond.fieldLink RX5 9 "NamedFabric$Script" "letters" "[I" ∈ GG := gg_in (i := 87) (by decide +kernel) (by decide +kernel)
theorem mFL_X5_15 : Cond.fieldLink RX5 15 "NamedFabric$Script" "size" "I" ∈ GG := gg_in (i := 88) (by decide +kernel) (by decide +kernel)
theorem mAC_int : Cond.arrayClass .int ∈ GG := gg_in (i := 94) (by decide +kernel) (by decide +kernel)
theorem mCL_X7_16 : Cond.classLink RX7 16 RX4 ∈ GG := gg_in (i := 95) (by decide +kernel) (by decide +kernel)
theorem mIS_X4 : Cond.instantiable RX4 4 ∈ GG := gg_in (i := 96) (by decide +kernel) (by decide +kernel)
theorem mIM_X4_init : Cond.instanceMethod yX4_init ∈ GG := gg_in (i := 98) (by decide +kernel) (by decide +kernel)
theorem mCO_X4_init : Cond.code yX4_init cX4_init 1 none ∈ GG := gg_in (i := 99) (by decide +kernel) (by decide +kernel)
theorem mML_X4_3 : Cond.methodLink RX4 3 objectInit ∈ GG := gg_in (i := 100) (by decide +kernel) (by decide +kernel)
theorem mCL_X4_9 : Cond.classLink RX4 9 RX3 ∈ GG := gg_in (i := 101) (by decide +kernel) (by decide +kernel)
theorem mIS_X3 : Cond.instantiable RX3 13 ∈ GG := gg_in (i := 102) (by decide +kernel) (by decide +kernel)
theorem mIM_X3_init : Cond.instanceMethod yX3_init ∈ GG := gg_in (i := 104) (by decide +kernel) (by decide +kernel)
theorem mCO_X3_init : Cond.code yX3_init cX3_init 1 none ∈ GG := gg_in (i := 105) (by decide +kernel) (by decide +kernel)
theorem mML_X3_3 : Cond.methodLink RX3 3 objectInit ∈ GG := gg_in (i := 106) (by decide +kernel) (by decide +kernel)
theorem mFL_X3_42 : Cond.fieldLink RX3 42 "NamedFabric$Net" "switches" "I" ∈ GG := gg_in (i := 107) (by decide +kernel) (by decide +kernel)
theorem mFL_X3_46 : Cond.fieldLink RX3 46 "NamedFabric$Net" "hosts" "I" ∈ GG := gg_in (i := 108) (by decide +kernel) (by decide +kernel)
theorem mFL_X3_49 : Cond.fieldLink RX3 49 "NamedFabric$Net" "renewing" "Z" ∈ GG := gg_in (i := 109) (by decide +kernel) (by decide +kernel)
theorem mFL_X3_9 : Cond.fieldLink RX3 9 "NamedFabric$Net" "priorities" "[I" ∈ GG := gg_in (i := 110) (by decide +kernel) (by decide +kernel)
theorem mFL_X3_15 : Cond.fieldLink RX3 15 "NamedFabric$Net" "names" "[I" ∈ GG := gg_in (i := 111) (by decide +kernel) (by decide +kernel)
theorem mFL_X3_18 : Cond.fieldLink RX3 18 "NamedFabric$Net" "wants" "[I" ∈ GG := gg_in (i := 112) (by decide +kernel) (by decide +kernel)
theorem mFL_X3_21 : Cond.fieldLink RX3 21 "NamedFabric$Net" "blocks" "[I" ∈ GG := gg_in (i := 113) (by decide +kernel) (by decide +kernel)
theorem mFL_X3_24 : Cond.fieldLink RX3 24 "NamedFabric$Net" "upTo" "[I" ∈ GG := gg_in (i := 114) (by decide +kernel) (by decide +kernel)
theorem mFL_X3_27 : Cond.fieldLink RX3 27 "NamedFabric$Net" "clashedTo" "[I" ∈ GG := gg_in (i := 115) (by decide +kernel) (by decide +kernel)
theorem mFL_X3_30 : Cond.fieldLink RX3 30 "NamedFabric$Net" "zoneSets" "[I" ∈ GG := gg_in (i := 116) (by decide +kernel) (by decide +kernel)
theorem mFL_X3_33 : Cond.fieldLink RX3 33 "NamedFabric$Net" "places" "[I" ∈ GG := gg_in (i := 117) (by decide +kernel) (by decide +kernel)
theorem mFL_X3_36 : Cond.fieldLink RX3 36 "NamedFabric$Net" "notices" "[I" ∈ GG := gg_in (i := 118) (by decide +kernel) (by decide +kernel)
theorem mFL_X3_39 : Cond.fieldLink RX3 39 "NamedFabric$Net" "news" "[I" ∈ GG := gg_in (i := 119) (by decide +kernel) (by decide +kernel)
theorem mFL_X4_12 : Cond.fieldLink RX4 12 "NamedFabric$Reader" "told" "LNamedFabric$Net;" ∈ GG := gg_in (i := 147) (by decide +kernel) (by decide +kernel)
theorem mFL_X4_21 : Cond.fieldLink RX4 21 "NamedFabric$Reader" "awaited" "I" ∈ GG := gg_in (i := 148) (by decide +kernel) (by decide +kernel)
theorem mFL_X4_71 : Cond.fieldLink RX4 71 "NamedFabric$Reader" "priority" "I" ∈ GG := gg_in (i := 149) (by decide +kernel) (by decide +kernel)
theorem mFL_X4_74 : Cond.fieldLink RX4 74 "NamedFabric$Reader" "name" "I" ∈ GG := gg_in (i := 150) (by decide +kernel) (by decide +kernel)
theorem mCL_X7_23 : Cond.classLink RX7 23 RX3 ∈ GG := gg_in (i := 160) (by decide +kernel) (by decide +kernel)
theorem mML_X7_30 : Cond.methodLink RX7 30 yX3_addSwitch ∈ GG := gg_in (i := 162) (by decide +kernel) (by decide +kernel)
theorem mIM_X3_addSwitch : Cond.instanceMethod yX3_addSwitch ∈ GG := gg_in (i := 163) (by decide +kernel) (by decide +kernel)
theorem mSE_X3_addSwitch : Cond.selects RX3 yX3_addSwitch yX3_addSwitch ∈ GG := gg_in (i := 164) (by decide +kernel) (by decide +kernel)
theorem mCO_X3_addSwitch : Cond.code yX3_addSwitch cX3_addSwitch 5 none ∈ GG := gg_in (i := 165) (by decide +kernel) (by decide +kernel)
theorem mCL_X7_34 : Cond.classLink RX7 34 RX2 ∈ GG := gg_in (i := 166) (by decide +kernel) (by decide +kernel)
theorem mIS_X2 : Cond.instantiable RX2 3 ∈ GG := gg_in (i := 167) (by decide +kernel) (by decide +kernel)
theorem mML_X7_36 : Cond.methodLink RX7 36 yX2_init ∈ GG := gg_in (i := 168) (by decide +kernel) (by decide +kernel)
theorem mIM_X2_init : Cond.instanceMethod yX2_init ∈ GG := gg_in (i := 169) (by decide +kernel) (by decide +kernel)
theorem mCO_X2_init : Cond.code yX2_init cX2_init 2 none ∈ GG := gg_in (i := 170) (by decide +kernel) (by decide +kernel)
theorem mML_X2_3 : Cond.methodLink RX2 3 objectInit ∈ GG := gg_in (i := 171) (by decide +kernel) (by decide +kernel)
theorem mCL_X2_9 : Cond.classLink RX2 9 RX3 ∈ GG := gg_in (i := 172) (by decide +kernel) (by decide +kernel)
theorem mFL_X2_11 : Cond.fieldLink RX2 11 "NamedFabric$History" "nets" "[LNamedFabric$Net;" ∈ GG := gg_in (i := 175) (by decide +kernel) (by decide +kernel)
theorem mFL_X2_22 : Cond.fieldLink RX2 22 "NamedFabric$History" "oldest" "I" ∈ GG := gg_in (i := 176) (by decide +kernel) (by decide +kernel)
theorem mFL_X2_18 : Cond.fieldLink RX2 18 "NamedFabric$History" "size" "I" ∈ GG := gg_in (i := 177) (by decide +kernel) (by decide +kernel)
theorem mCL_X7_41 : Cond.classLink RX7 41 RX0 ∈ GG := gg_in (i := 185) (by decide +kernel) (by decide +kernel)
theorem mIS_X0 : Cond.instantiable RX0 2 ∈ GG := gg_in (i := 186) (by decide +kernel) (by decide +kernel)
theorem mML_X7_43 : Cond.methodLink RX7 43 yX0_init ∈ GG := gg_in (i := 187) (by decide +kernel) (by decide +kernel)
theorem mIM_X0_init : Cond.instanceMethod yX0_init ∈ GG := gg_in (i := 188) (by decide +kernel) (by decide +kernel)
theorem mCO_X0_init : Cond.code yX0_init cX0_init 2 none ∈ GG := gg_in (i := 189) (by decide +kernel) (by decide +kernel)
theorem mML_X0_3 : Cond.methodLink RX0 3 objectInit ∈ GG := gg_in (i := 190) (by decide +kernel) (by decide +kernel)
theorem mCL_X0_9 : Cond.classLink RX0 9 RX3 ∈ GG := gg_in (i := 191) (by decide +kernel) (by decide +kernel)
theorem mFL_X0_11 : Cond.fieldLink RX0 11 "NamedFabric$Album" "nets" "[LNamedFabric$Net;" ∈ GG := gg_in (i := 193) (by decide +kernel) (by decide +kernel)
theorem mFL_X0_18 : Cond.fieldLink RX0 18 "NamedFabric$Album" "kept" "I" ∈ GG := gg_in (i := 194) (by decide +kernel) (by decide +kernel)
theorem mCL_X7_48 : Cond.classLink RX7 48 RX1 ∈ GG := gg_in (i := 200) (by decide +kernel) (by decide +kernel)
theorem mIS_X1 : Cond.instantiable RX1 4 ∈ GG := gg_in (i := 201) (by decide +kernel) (by decide +kernel)
theorem mIM_X1_init : Cond.instanceMethod yX1_init ∈ GG := gg_in (i := 203) (by decide +kernel) (by decide +kernel)
theorem mCO_X1_init : Cond.code yX1_init cX1_init 1 none ∈ GG := gg_in (i := 204) (by decide +kernel) (by decide +kernel)
theorem mML_X1_3 : Cond.methodLink RX1 3 objectInit ∈ GG := gg_in (i := 205) (by decide +kernel) (by decide +kernel)
theorem mFL_X1_9 : Cond.fieldLink RX1 9 "NamedFabric$Clues" "size" "I" ∈ GG := gg_in (i := 206) (by decide +kernel) (by decide +kernel)
theorem mFL_X1_15 : Cond.fieldLink RX1 15 "NamedFabric$Clues" "mentioned" "I" ∈ GG := gg_in (i := 207) (by decide +kernel) (by decide +kernel)
theorem mFL_X1_18 : Cond.fieldLink RX1 18 "NamedFabric$Clues" "seen" "J" ∈ GG := gg_in (i := 208) (by decide +kernel) (by decide +kernel)
theorem mFL_X1_22 : Cond.fieldLink RX1 22 "NamedFabric$Clues" "unseen" "J" ∈ GG := gg_in (i := 209) (by decide +kernel) (by decide +kernel)
theorem mCL_X7_55 : Cond.classLink RX7 55 RX6 ∈ GG := gg_in (i := 219) (by decide +kernel) (by decide +kernel)
theorem mIS_X6 : Cond.instantiable RX6 3 ∈ GG := gg_in (i := 220) (by decide +kernel) (by decide +kernel)
theorem mIM_X6_init : Cond.instanceMethod yX6_init ∈ GG := gg_in (i := 222) (by decide +kernel) (by decide +kernel)
theorem mCO_X6_init : Cond.code yX6_init cX6_init 1 none ∈ GG := gg_in (i := 223) (by decide +kernel) (by decide +kernel)
theorem mML_X6_3 : Cond.methodLink RX6 3 objectInit ∈ GG := gg_in (i := 224) (by decide +kernel) (by decide +kernel)
theorem mFL_X6_9 : Cond.fieldLink RX6 9 "NamedFabric$Trials" "codes" "[I" ∈ GG := gg_in (i := 225) (by decide +kernel) (by decide +kernel)
theorem mFL_X6_15 : Cond.fieldLink RX6 15 "NamedFabric$Trials" "views" "[J" ∈ GG := gg_in (i := 226) (by decide +kernel) (by decide +kernel)
theorem mFL_X6_19 : Cond.fieldLink RX6 19 "NamedFabric$Trials" "size" "I" ∈ GG := gg_in (i := 227) (by decide +kernel) (by decide +kernel)
theorem mAC_long : Cond.arrayClass .long ∈ GG := gg_in (i := 235) (by decide +kernel) (by decide +kernel)
theorem mFL_X7_12 : Cond.fieldLink RX7 12 "NamedFabric" "script" "LNamedFabric$Script;" ∈ GG := gg_in (i := 236) (by decide +kernel) (by decide +kernel)
theorem mFL_X7_19 : Cond.fieldLink RX7 19 "NamedFabric" "reader" "LNamedFabric$Reader;" ∈ GG := gg_in (i := 237) (by decide +kernel) (by decide +kernel)
theorem mFL_X7_26 : Cond.fieldLink RX7 26 "NamedFabric" "now" "LNamedFabric$Net;" ∈ GG := gg_in (i := 238) (by decide +kernel) (by decide +kernel)
theorem mFL_X7_37 : Cond.fieldLink RX7 37 "NamedFabric" "history" "LNamedFabric$History;" ∈ GG := gg_in (i := 239) (by decide +kernel) (by decide +kernel)
theorem mFL_X7_44 : Cond.fieldLink RX7 44 "NamedFabric" "album" "LNamedFabric$Album;" ∈ GG := gg_in (i := 240) (by decide +kernel) (by decide +kernel)
theorem mFL_X7_51 : Cond.fieldLink RX7 51 "NamedFabric" "clues" "LNamedFabric$Clues;" ∈ GG := gg_in (i := 241) (by decide +kernel) (by decide +kernel)
theorem mFL_X7_58 : Cond.fieldLink RX7 58 "NamedFabric" "trials" "LNamedFabric$Trials;" ∈ GG := gg_in (i := 242) (by decide +kernel) (by decide +kernel)
theorem mML_L_13 : Cond.methodLink RL 13 yX7_type ∈ GG := gg_in (i := 258) (by decide +kernel) (by decide +kernel)
theorem mIM_X7_type : Cond.instanceMethod yX7_type ∈ GG := gg_in (i := 259) (by decide +kernel) (by decide +kernel)
theorem mSE_X7_type : Cond.selects RX7 yX7_type yX7_type ∈ GG := gg_in (i := 260) (by decide +kernel) (by decide +kernel)
theorem mCO_X7_type : Cond.code yX7_type cX7_type 2 (some .int) ∈ GG := gg_in (i := 261) (by decide +kernel) (by decide +kernel)
theorem mML_X7_62 : Cond.methodLink RX7 62 yX5_add ∈ GG := gg_in (i := 262) (by decide +kernel) (by decide +kernel)
theorem mIM_X5_add : Cond.instanceMethod yX5_add ∈ GG := gg_in (i := 263) (by decide +kernel) (by decide +kernel)
theorem mSE_X5_add : Cond.selects RX5 yX5_add yX5_add ∈ GG := gg_in (i := 264) (by decide +kernel) (by decide +kernel)
theorem mCO_X5_add : Cond.code yX5_add cX5_add 2 (some .boolean) ∈ GG := gg_in (i := 265) (by decide +kernel) (by decide +kernel)
theorem mML_X7_66 : Cond.methodLink RX7 66 yX5_size ∈ GG := gg_in (i := 266) (by decide +kernel) (by decide +kernel)
theorem mIM_X5_size : Cond.instanceMethod yX5_size ∈ GG := gg_in (i := 267) (by decide +kernel) (by decide +kernel)
theorem mSE_X5_size : Cond.selects RX5 yX5_size yX5_size ∈ GG := gg_in (i := 268) (by decide +kernel) (by decide +kernel)
theorem mCO_X5_size : Cond.code yX5_size cX5_size 1 (some .int) ∈ GG := gg_in (i := 269) (by decide +kernel) (by decide +kernel)
theorem mML_L_18 : Cond.methodLink RL 18 yX7_clear ∈ GG := gg_in (i := 270) (by decide +kernel) (by decide +kernel)
theorem mIM_X7_clear : Cond.instanceMethod yX7_clear ∈ GG := gg_in (i := 271) (by decide +kernel) (by decide +kernel)
theorem mSE_X7_clear : Cond.selects RX7 yX7_clear yX7_clear ∈ GG := gg_in (i := 272) (by decide +kernel) (by decide +kernel)
theorem mCO_X7_clear : Cond.code yX7_clear cX7_clear 2 (some .int) ∈ GG := gg_in (i := 273) (by decide +kernel) (by decide +kernel)
theorem mML_X7_70 : Cond.methodLink RX7 70 yX5_empty ∈ GG := gg_in (i := 274) (by decide +kernel) (by decide +kernel)
theorem mIM_X5_empty : Cond.instanceMethod yX5_empty ∈ GG := gg_in (i := 275) (by decide +kernel) (by decide +kernel)
theorem mSE_X5_empty : Cond.selects RX5 yX5_empty yX5_empty ∈ GG := gg_in (i := 276) (by decide +kernel) (by decide +kernel)
theorem mCO_X5_empty : Cond.code yX5_empty cX5_empty 1 none ∈ GG := gg_in (i := 277) (by decide +kernel) (by decide +kernel)
theorem mML_L_23 : Cond.methodLink RL 23 yX7_tells ∈ GG := gg_in (i := 278) (by decide +kernel) (by decide +kernel)
theorem mIM_X7_tells : Cond.instanceMethod yX7_tells ∈ GG := gg_in (i := 279) (by decide +kernel) (by decide +kernel)
theorem mSE_X7_tells : Cond.selects RX7 yX7_tells yX7_tells ∈ GG := gg_in (i := 280) (by decide +kernel) (by decide +kernel)
theorem mCO_X7_tells : Cond.code yX7_tells cX7_tells 2 (some .int) ∈ GG := gg_in (i := 281) (by decide +kernel) (by decide +kernel)
theorem mML_X7_73 : Cond.methodLink RX7 73 yX4_faultOf ∈ GG := gg_in (i := 282) (by decide +kernel) (by decide +kernel)
theorem mIM_X4_faultOf : Cond.instanceMethod yX4_faultOf ∈ GG := gg_in (i := 283) (by decide +kernel) (by decide +kernel)
theorem mSE_X4_faultOf : Cond.selects RX4 yX4_faultOf yX4_faultOf ∈ GG := gg_in (i := 284) (by decide +kernel) (by decide +kernel)
theorem mCO_X4_faultOf : Cond.code yX4_faultOf cX4_faultOf 5 (some .int) ∈ GG := gg_in (i := 285) (by decide +kernel) (by decide +kernel)
theorem mML_X4_18 : Cond.methodLink RX4 18 yX3_empty ∈ GG := gg_in (i := 286) (by decide +kernel) (by decide +kernel)
theorem mIM_X3_empty : Cond.instanceMethod yX3_empty ∈ GG := gg_in (i := 287) (by decide +kernel) (by decide +kernel)
theorem mSE_X3_empty : Cond.selects RX3 yX3_empty yX3_empty ∈ GG := gg_in (i := 288) (by decide +kernel) (by decide +kernel)
theorem mCO_X3_empty : Cond.code yX3_empty cX3_empty 1 none ∈ GG := gg_in (i := 289) (by decide +kernel) (by decide +kernel)
theorem mML_X4_25 : Cond.methodLink RX4 25 yX5_skipBlanks ∈ GG := gg_in (i := 290) (by decide +kernel) (by decide +kernel)
theorem mIM_X5_skipBlanks : Cond.instanceMethod yX5_skipBlanks ∈ GG := gg_in (i := 291) (by decide +kernel) (by decide +kernel)
theorem mSE_X5_skipBlanks : Cond.selects RX5 yX5_skipBlanks yX5_skipBlanks ∈ GG := gg_in (i := 292) (by decide +kernel) (by decide +kernel)
theorem mCO_X5_skipBlanks : Cond.code yX5_skipBlanks cX5_skipBlanks 3 (some .int) ∈ GG := gg_in (i := 293) (by decide +kernel) (by decide +kernel)
theorem mML_X5_19 : Cond.methodLink RX5 19 yX5_letterAt ∈ GG := gg_in (i := 294) (by decide +kernel) (by decide +kernel)
theorem mIM_X5_letterAt : Cond.instanceMethod yX5_letterAt ∈ GG := gg_in (i := 295) (by decide +kernel) (by decide +kernel)
theorem mSE_X5_letterAt : Cond.selects RX5 yX5_letterAt yX5_letterAt ∈ GG := gg_in (i := 296) (by decide +kernel) (by decide +kernel)
theorem mCO_X5_letterAt : Cond.code yX5_letterAt cX5_letterAt 2 (some .int) ∈ GG := gg_in (i := 297) (by decide +kernel) (by decide +kernel)
theorem mML_X4_31 : Cond.methodLink RX4 31 yX5_size ∈ GG := gg_in (i := 298) (by decide +kernel) (by decide +kernel)
theorem mML_X4_35 : Cond.methodLink RX4 35 yX5_tokenEnd ∈ GG := gg_in (i := 299) (by decide +kernel) (by decide +kernel)
theorem mIM_X5_tokenEnd : Cond.instanceMethod yX5_tokenEnd ∈ GG := gg_in (i := 300) (by decide +kernel) (by decide +kernel)
theorem mSE_X5_tokenEnd : Cond.selects RX5 yX5_tokenEnd yX5_tokenEnd ∈ GG := gg_in (i := 301) (by decide +kernel) (by decide +kernel)
theorem mCO_X5_tokenEnd : Cond.code yX5_tokenEnd cX5_tokenEnd 3 (some .int) ∈ GG := gg_in (i := 302) (by decide +kernel) (by decide +kernel)
theorem mML_X5_23 : Cond.methodLink RX5 23 yX5_isFigure ∈ GG := gg_in (i := 303) (by decide +kernel) (by decide +kernel)
theorem mIM_X5_isFigure : Cond.instanceMethod yX5_isFigure ∈ GG := gg_in (i := 305) (by decide +kernel) (by decide +kernel)
theorem mCO_X5_isFigure : Cond.code yX5_isFigure cX5_isFigure 2 (some .boolean) ∈ GG := gg_in (i := 306) (by decide +kernel) (by decide +kernel)
theorem mML_X4_38 : Cond.methodLink RX4 38 yX5_letterAt ∈ GG := gg_in (i := 307) (by decide +kernel) (by decide +kernel)
theorem mML_X4_41 : Cond.methodLink RX4 41 yX5_numberAt ∈ GG := gg_in (i := 308) (by decide +kernel) (by decide +kernel)
theorem mIM_X5_numberAt : Cond.instanceMethod yX5_numberAt ∈ GG := gg_in (i := 309) (by decide +kernel) (by decide +kernel)
theorem mSE_X5_numberAt : Cond.selects RX5 yX5_numberAt yX5_numberAt ∈ GG := gg_in (i := 310) (by decide +kernel) (by decide +kernel)
theorem mCO_X5_numberAt : Cond.code yX5_numberAt cX5_numberAt 4 (some .int) ∈ GG := gg_in (i := 311) (by decide +kernel) (by decide +kernel)
theorem mML_X4_45 : Cond.methodLink RX4 45 yX4_takes ∈ GG := gg_in (i := 312) (by decide +kernel) (by decide +kernel)
theorem mIM_X4_takes : Cond.instanceMethod yX4_takes ∈ GG := gg_in (i := 314) (by decide +kernel) (by decide +kernel)
theorem mCO_X4_takes : Cond.code yX4_takes cX4_takes 3 (some .boolean) ∈ GG := gg_in (i := 315) (by decide +kernel) (by decide +kernel)
theorem mML_X4_52 : Cond.methodLink RX4 52 yX4_takesItem ∈ GG := gg_in (i := 316) (by decide +kernel) (by decide +kernel)
theorem mIM_X4_takesItem : Cond.instanceMethod yX4_takesItem ∈ GG := gg_in (i := 318) (by decide +kernel) (by decide +kernel)
theorem mCO_X4_takesItem : Cond.code yX4_takesItem cX4_takesItem 2 (some .boolean) ∈ GG := gg_in (i := 319) (by decide +kernel) (by decide +kernel)
theorem mML_X4_68 : Cond.methodLink RX4 68 yX3_hostTotal ∈ GG := gg_in (i := 320) (by decide +kernel) (by decide +kernel)
theorem mIM_X3_hostTotal : Cond.instanceMethod yX3_hostTotal ∈ GG := gg_in (i := 321) (by decide +kernel) (by decide +kernel)
theorem mSE_X3_hostTotal : Cond.selects RX3 yX3_hostTotal yX3_hostTotal ∈ GG := gg_in (i := 322) (by decide +kernel) (by decide +kernel)
theorem mCO_X3_hostTotal : Cond.code yX3_hostTotal cX3_hostTotal 1 (some .int) ∈ GG := gg_in (i := 323) (by decide +kernel) (by decide +kernel)
theorem mML_X4_49 : Cond.methodLink RX4 49 yX3_switchTotal ∈ GG := gg_in (i := 324) (by decide +kernel) (by decide +kernel)
theorem mIM_X3_switchTotal : Cond.instanceMethod yX3_switchTotal ∈ GG := gg_in (i := 325) (by decide +kernel) (by decide +kernel)
theorem mSE_X3_switchTotal : Cond.selects RX3 yX3_switchTotal yX3_switchTotal ∈ GG := gg_in (i := 326) (by decide +kernel) (by decide +kernel)
theorem mCO_X3_switchTotal : Cond.code yX3_switchTotal cX3_switchTotal 1 (some .int) ∈ GG := gg_in (i := 327) (by decide +kernel) (by decide +kernel)
theorem mML_X4_56 : Cond.methodLink RX4 56 yX4_takesPriority ∈ GG := gg_in (i := 328) (by decide +kernel) (by decide +kernel)
theorem mIM_X4_takesPriority : Cond.instanceMethod yX4_takesPriority ∈ GG := gg_in (i := 330) (by decide +kernel) (by decide +kernel)
theorem mCO_X4_takesPriority : Cond.code yX4_takesPriority cX4_takesPriority 2 (some .boolean) ∈ GG := gg_in (i := 331) (by decide +kernel) (by decide +kernel)
theorem mML_X4_59 : Cond.methodLink RX4 59 yX4_takesName ∈ GG := gg_in (i := 332) (by decide +kernel) (by decide +kernel)
theorem mIM_X4_takesName : Cond.instanceMethod yX4_takesName ∈ GG := gg_in (i := 334) (by decide +kernel) (by decide +kernel)
theorem mCO_X4_takesName : Cond.code yX4_takesName cX4_takesName 2 (some .boolean) ∈ GG := gg_in (i := 335) (by decide +kernel) (by decide +kernel)
theorem mML_X4_77 : Cond.methodLink RX4 77 yX3_hasName ∈ GG := gg_in (i := 336) (by decide +kernel) (by decide +kernel)
theorem mIM_X3_hasName : Cond.instanceMethod yX3_hasName ∈ GG := gg_in (i := 337) (by decide +kernel) (by decide +kernel)
theorem mSE_X3_hasName : Cond.selects RX3 yX3_hasName yX3_hasName ∈ GG := gg_in (i := 338) (by decide +kernel) (by decide +kernel)
theorem mCO_X3_hasName : Cond.code yX3_hasName cX3_hasName 3 (some .boolean) ∈ GG := gg_in (i := 339) (by decide +kernel) (by decide +kernel)
theorem mML_X4_62 : Cond.methodLink RX4 62 yX4_takesWant ∈ GG := gg_in (i := 340) (by decide +kernel) (by decide +kernel)
theorem mIM_X4_takesWant : Cond.instanceMethod yX4_takesWant ∈ GG := gg_in (i := 342) (by decide +kernel) (by decide +kernel)
theorem mCO_X4_takesWant : Cond.code yX4_takesWant cX4_takesWant 2 (some .boolean) ∈ GG := gg_in (i := 343) (by decide +kernel) (by decide +kernel)
theorem mML_X4_80 : Cond.methodLink RX4 80 yX3_addSwitch ∈ GG := gg_in (i := 344) (by decide +kernel) (by decide +kernel)
theorem mML_X4_65 : Cond.methodLink RX4 65 yX4_takesPlace ∈ GG := gg_in (i := 345) (by decide +kernel) (by decide +kernel)
theorem mIM_X4_takesPlace : Cond.instanceMethod yX4_takesPlace ∈ GG := gg_in (i := 347) (by decide +kernel) (by decide +kernel)
theorem mCO_X4_takesPlace : Cond.code yX4_takesPlace cX4_takesPlace 3 (some .boolean) ∈ GG := gg_in (i := 348) (by decide +kernel) (by decide +kernel)
theorem mML_X4_84 : Cond.methodLink RX4 84 yX3_hasSwitch ∈ GG := gg_in (i := 349) (by decide +kernel) (by decide +kernel)
theorem mIM_X3_hasSwitch : Cond.instanceMethod yX3_hasSwitch ∈ GG := gg_in (i := 350) (by decide +kernel) (by decide +kernel)
theorem mSE_X3_hasSwitch : Cond.selects RX3 yX3_hasSwitch yX3_hasSwitch ∈ GG := gg_in (i := 351) (by decide +kernel) (by decide +kernel)
theorem mCO_X3_hasSwitch : Cond.code yX3_hasSwitch cX3_hasSwitch 2 (some .boolean) ∈ GG := gg_in (i := 352) (by decide +kernel) (by decide +kernel)
theorem mML_X4_87 : Cond.methodLink RX4 87 yX3_addHost ∈ GG := gg_in (i := 353) (by decide +kernel) (by decide +kernel)
theorem mIM_X3_addHost : Cond.instanceMethod yX3_addHost ∈ GG := gg_in (i := 354) (by decide +kernel) (by decide +kernel)
theorem mSE_X3_addHost : Cond.selects RX3 yX3_addHost yX3_addHost ∈ GG := gg_in (i := 355) (by decide +kernel) (by decide +kernel)
theorem mCO_X3_addHost : Cond.code yX3_addHost cX3_addHost 2 none ∈ GG := gg_in (i := 356) (by decide +kernel) (by decide +kernel)
theorem mML_X7_77 : Cond.methodLink RX7 77 yX2_remember ∈ GG := gg_in (i := 357) (by decide +kernel) (by decide +kernel)
theorem mIM_X2_remember : Cond.instanceMethod yX2_remember ∈ GG := gg_in (i := 358) (by decide +kernel) (by decide +kernel)
theorem mSE_X2_remember : Cond.selects RX2 yX2_remember yX2_remember ∈ GG := gg_in (i := 359) (by decide +kernel) (by decide +kernel)
theorem mCO_X2_remember : Cond.code yX2_remember cX2_remember 2 none ∈ GG := gg_in (i := 360) (by decide +kernel) (by decide +kernel)
theorem mML_X2_25 : Cond.methodLink RX2 25 yX3_copyFrom ∈ GG := gg_in (i := 361) (by decide +kernel) (by decide +kernel)
theorem mIM_X3_copyFrom : Cond.instanceMethod yX3_copyFrom ∈ GG := gg_in (i := 362) (by decide +kernel) (by decide +kernel)
theorem mSE_X3_copyFrom : Cond.selects RX3 yX3_copyFrom yX3_copyFrom ∈ GG := gg_in (i := 363) (by decide +kernel) (by decide +kernel)
theorem mCO_X3_copyFrom : Cond.code yX3_copyFrom cX3_copyFrom 2 none ∈ GG := gg_in (i := 364) (by decide +kernel) (by decide +kernel)
theorem mML_X3_53 : Cond.methodLink RX3 53 yX3_copyRow ∈ GG := gg_in (i := 365) (by decide +kernel) (by decide +kernel)
theorem mST_X3_copyRow : Cond.static yX3_copyRow ∈ GG := gg_in (i := 366) (by decide +kernel) (by decide +kernel)
theorem mCO_X3_copyRow : Cond.code yX3_copyRow cX3_copyRow 3 none ∈ GG := gg_in (i := 367) (by decide +kernel) (by decide +kernel)
theorem mML_X7_81 : Cond.methodLink RX7 81 yX4_told ∈ GG := gg_in (i := 368) (by decide +kernel) (by decide +kernel)
theorem mIM_X4_told : Cond.instanceMethod yX4_told ∈ GG := gg_in (i := 369) (by decide +kernel) (by decide +kernel)
theorem mSE_X4_told : Cond.selects RX4 yX4_told yX4_told ∈ GG := gg_in (i := 370) (by decide +kernel) (by decide +kernel)
theorem mCO_X4_told : Cond.code yX4_told cX4_told 1 (some (.object "NamedFabric$Net")) ∈ GG := gg_in (i := 371) (by decide +kernel) (by decide +kernel)
theorem mML_X7_85 : Cond.methodLink RX7 85 yX3_copyFrom ∈ GG := gg_in (i := 372) (by decide +kernel) (by decide +kernel)
theorem mML_X7_88 : Cond.methodLink RX7 88 yX1_empty ∈ GG := gg_in (i := 373) (by decide +kernel) (by decide +kernel)
theorem mIM_X1_empty : Cond.instanceMethod yX1_empty ∈ GG := gg_in (i := 374) (by decide +kernel) (by decide +kernel)
theorem mSE_X1_empty : Cond.selects RX1 yX1_empty yX1_empty ∈ GG := gg_in (i := 375) (by decide +kernel) (by decide +kernel)
theorem mCO_X1_empty : Cond.code yX1_empty cX1_empty 1 none ∈ GG := gg_in (i := 376) (by decide +kernel) (by decide +kernel)
theorem mML_X7_89 : Cond.methodLink RX7 89 yX0_empty ∈ GG := gg_in (i := 377) (by decide +kernel) (by decide +kernel)
theorem mIM_X0_empty : Cond.instanceMethod yX0_empty ∈ GG := gg_in (i := 378) (by decide +kernel) (by decide +kernel)
theorem mSE_X0_empty : Cond.selects RX0 yX0_empty yX0_empty ∈ GG := gg_in (i := 379) (by decide +kernel) (by decide +kernel)
theorem mCO_X0_empty : Cond.code yX0_empty cX0_empty 1 none ∈ GG := gg_in (i := 380) (by decide +kernel) (by decide +kernel)
theorem mML_X7_90 : Cond.methodLink RX7 90 yX3_switchTotal ∈ GG := gg_in (i := 381) (by decide +kernel) (by decide +kernel)
theorem mML_X7_93 : Cond.methodLink RX7 93 yX3_hostTotal ∈ GG := gg_in (i := 382) (by decide +kernel) (by decide +kernel)
theorem mML_L_27 : Cond.methodLink RL 27 yX7_joins ∈ GG := gg_in (i := 383) (by decide +kernel) (by decide +kernel)
theorem mIM_X7_joins : Cond.instanceMethod yX7_joins ∈ GG := gg_in (i := 384) (by decide +kernel) (by decide +kernel)
theorem mSE_X7_joins : Cond.selects RX7 yX7_joins yX7_joins ∈ GG := gg_in (i := 385) (by decide +kernel) (by decide +kernel)
theorem mCO_X7_joins : Cond.code yX7_joins cX7_joins 6 (some .int) ∈ GG := gg_in (i := 386) (by decide +kernel) (by decide +kernel)
theorem mML_X7_96 : Cond.methodLink RX7 96 yX3_hasTwo ∈ GG := gg_in (i := 387) (by decide +kernel) (by decide +kernel)
theorem mIM_X3_hasTwo : Cond.instanceMethod yX3_hasTwo ∈ GG := gg_in (i := 388) (by decide +kernel) (by decide +kernel)
theorem mSE_X3_hasTwo : Cond.selects RX3 yX3_hasTwo yX3_hasTwo ∈ GG := gg_in (i := 389) (by decide +kernel) (by decide +kernel)
theorem mCO_X3_hasTwo : Cond.code yX3_hasTwo cX3_hasTwo 3 (some .boolean) ∈ GG := gg_in (i := 390) (by decide +kernel) (by decide +kernel)
theorem mML_X3_57 : Cond.methodLink RX3 57 yX3_hasSwitch ∈ GG := gg_in (i := 391) (by decide +kernel) (by decide +kernel)
theorem mML_X7_100 : Cond.methodLink RX7 100 yX3_isUp ∈ GG := gg_in (i := 392) (by decide +kernel) (by decide +kernel)
theorem mIM_X3_isUp : Cond.instanceMethod yX3_isUp ∈ GG := gg_in (i := 393) (by decide +kernel) (by decide +kernel)
theorem mSE_X3_isUp : Cond.selects RX3 yX3_isUp yX3_isUp ∈ GG := gg_in (i := 394) (by decide +kernel) (by decide +kernel)
theorem mCO_X3_isUp : Cond.code yX3_isUp cX3_isUp 3 (some .boolean) ∈ GG := gg_in (i := 395) (by decide +kernel) (by decide +kernel)
theorem mML_X3_64 : Cond.methodLink RX3 64 yX3_linkState ∈ GG := gg_in (i := 396) (by decide +kernel) (by decide +kernel)
theorem mIM_X3_linkState : Cond.instanceMethod yX3_linkState ∈ GG := gg_in (i := 397) (by decide +kernel) (by decide +kernel)
theorem mSE_X3_linkState : Cond.selects RX3 yX3_linkState yX3_linkState ∈ GG := gg_in (i := 398) (by decide +kernel) (by decide +kernel)
theorem mCO_X3_linkState : Cond.code yX3_linkState cX3_linkState 3 (some .int) ∈ GG := gg_in (i := 399) (by decide +kernel) (by decide +kernel)
theorem mML_X3_68 : Cond.methodLink RX3 68 yX3_hasTwo ∈ GG := gg_in (i := 400) (by decide +kernel) (by decide +kernel)
theorem mST_X7_has : Cond.static yX7_has ∈ GG := gg_in (i := 402) (by decide +kernel) (by decide +kernel)
theorem mCO_X7_has : Cond.code yX7_has cX7_has 2 (some .boolean) ∈ GG := gg_in (i := 403) (by decide +kernel) (by decide +kernel)
theorem mML_X7_103 : Cond.methodLink RX7 103 yX7_rememberView ∈ GG := gg_in (i := 404) (by decide +kernel) (by decide +kernel)
theorem mIM_X7_rememberView : Cond.instanceMethod yX7_rememberView ∈ GG := gg_in (i := 406) (by decide +kernel) (by decide +kernel)
theorem mCO_X7_rememberView : Cond.code yX7_rememberView cX7_rememberView 1 (some .long) ∈ GG := gg_in (i := 407) (by decide +kernel) (by decide +kernel)
theorem mML_X7_189 : Cond.methodLink RX7 189 yX3_view ∈ GG := gg_in (i := 408) (by decide +kernel) (by decide +kernel)
theorem mIM_X3_view : Cond.instanceMethod yX3_view ∈ GG := gg_in (i := 409) (by decide +kernel) (by decide +kernel)
theorem mSE_X3_view : Cond.selects RX3 yX3_view yX3_view ∈ GG := gg_in (i := 410) (by decide +kernel) (by decide +kernel)
theorem mCO_X3_view : Cond.code yX3_view cX3_view 6 (some .long) ∈ GG := gg_in (i := 411) (by decide +kernel) (by decide +kernel)
theorem mML_X3_88 : Cond.methodLink RX3 88 yX3_fabricOf ∈ GG := gg_in (i := 412) (by decide +kernel) (by decide +kernel)
theorem mIM_X3_fabricOf : Cond.instanceMethod yX3_fabricOf ∈ GG := gg_in (i := 413) (by decide +kernel) (by decide +kernel)
theorem mSE_X3_fabricOf : Cond.selects RX3 yX3_fabricOf yX3_fabricOf ∈ GG := gg_in (i := 414) (by decide +kernel) (by decide +kernel)
theorem mCO_X3_fabricOf : Cond.code yX3_fabricOf cX3_fabricOf 4 (some .int) ∈ GG := gg_in (i := 415) (by decide +kernel) (by decide +kernel)
theorem mML_X3_85 : Cond.methodLink RX3 85 yX3_spread ∈ GG := gg_in (i := 416) (by decide +kernel) (by decide +kernel)
theorem mIM_X3_spread : Cond.instanceMethod yX3_spread ∈ GG := gg_in (i := 418) (by decide +kernel) (by decide +kernel)
theorem mCO_X3_spread : Cond.code yX3_spread cX3_spread 4 (some .int) ∈ GG := gg_in (i := 419) (by decide +kernel) (by decide +kernel)
theorem mML_X3_143 : Cond.methodLink RX3 143 yX3_hostsAt ∈ GG := gg_in (i := 420) (by decide +kernel) (by decide +kernel)
theorem mIM_X3_hostsAt : Cond.instanceMethod yX3_hostsAt ∈ GG := gg_in (i := 421) (by decide +kernel) (by decide +kernel)
theorem mSE_X3_hostsAt : Cond.selects RX3 yX3_hostsAt yX3_hostsAt ∈ GG := gg_in (i := 422) (by decide +kernel) (by decide +kernel)
theorem mCO_X3_hostsAt : Cond.code yX3_hostsAt cX3_hostsAt 4 (some .int) ∈ GG := gg_in (i := 423) (by decide +kernel) (by decide +kernel)
theorem mML_X3_146 : Cond.methodLink RX3 146 yX3_viewWithin ∈ GG := gg_in (i := 424) (by decide +kernel) (by decide +kernel)
theorem mIM_X3_viewWithin : Cond.instanceMethod yX3_viewWithin ∈ GG := gg_in (i := 426) (by decide +kernel) (by decide +kernel)
theorem mCO_X3_viewWithin : Cond.code yX3_viewWithin cX3_viewWithin 8 (some .long) ∈ GG := gg_in (i := 427) (by decide +kernel) (by decide +kernel)
theorem mML_X3_150 : Cond.methodLink RX3 150 yX3_zonesEmpty ∈ GG := gg_in (i := 428) (by decide +kernel) (by decide +kernel)
theorem mIM_X3_zonesEmpty : Cond.instanceMethod yX3_zonesEmpty ∈ GG := gg_in (i := 430) (by decide +kernel) (by decide +kernel)
theorem mCO_X3_zonesEmpty : Cond.code yX3_zonesEmpty cX3_zonesEmpty 4 (some .boolean) ∈ GG := gg_in (i := 431) (by decide +kernel) (by decide +kernel)
theorem mML_X3_119 : Cond.methodLink RX3 119 yX3_zoneSet ∈ GG := gg_in (i := 432) (by decide +kernel) (by decide +kernel)
theorem mIM_X3_zoneSet : Cond.instanceMethod yX3_zoneSet ∈ GG := gg_in (i := 433) (by decide +kernel) (by decide +kernel)
theorem mSE_X3_zoneSet : Cond.selects RX3 yX3_zoneSet yX3_zoneSet ∈ GG := gg_in (i := 434) (by decide +kernel) (by decide +kernel)
theorem mCO_X3_zoneSet : Cond.code yX3_zoneSet cX3_zoneSet 4 (some .int) ∈ GG := gg_in (i := 435) (by decide +kernel) (by decide +kernel)
theorem mML_X3_153 : Cond.methodLink RX3 153 yX3_sharingZone ∈ GG := gg_in (i := 436) (by decide +kernel) (by decide +kernel)
theorem mIM_X3_sharingZone : Cond.instanceMethod yX3_sharingZone ∈ GG := gg_in (i := 438) (by decide +kernel) (by decide +kernel)
theorem mCO_X3_sharingZone : Cond.code yX3_sharingZone cX3_sharingZone 5 (some .int) ∈ GG := gg_in (i := 439) (by decide +kernel) (by decide +kernel)
theorem mML_X7_107 : Cond.methodLink RX7 107 yX3_join ∈ GG := gg_in (i := 440) (by decide +kernel) (by decide +kernel)
theorem mIM_X3_join : Cond.instanceMethod yX3_join ∈ GG := gg_in (i := 441) (by decide +kernel) (by decide +kernel)
theorem mSE_X3_join : Cond.selects RX3 yX3_join yX3_join ∈ GG := gg_in (i := 442) (by decide +kernel) (by decide +kernel)
theorem mCO_X3_join : Cond.code yX3_join cX3_join 4 (some .boolean) ∈ GG := gg_in (i := 443) (by decide +kernel) (by decide +kernel)
theorem mML_X3_128 : Cond.methodLink RX3 128 yX3_outcomeOf ∈ GG := gg_in (i := 444) (by decide +kernel) (by decide +kernel)
theorem mIM_X3_outcomeOf : Cond.instanceMethod yX3_outcomeOf ∈ GG := gg_in (i := 445) (by decide +kernel) (by decide +kernel)
theorem mSE_X3_outcomeOf : Cond.selects RX3 yX3_outcomeOf yX3_outcomeOf ∈ GG := gg_in (i := 446) (by decide +kernel) (by decide +kernel)
theorem mCO_X3_outcomeOf : Cond.code yX3_outcomeOf cX3_outcomeOf 5 (some .int) ∈ GG := gg_in (i := 447) (by decide +kernel) (by decide +kernel)
theorem mML_X3_122 : Cond.methodLink RX3 122 yX3_blocksIn ∈ GG := gg_in (i := 448) (by decide +kernel) (by decide +kernel)
theorem mIM_X3_blocksIn : Cond.instanceMethod yX3_blocksIn ∈ GG := gg_in (i := 450) (by decide +kernel) (by decide +kernel)
theorem mCO_X3_blocksIn : Cond.code yX3_blocksIn cX3_blocksIn 4 (some .int) ∈ GG := gg_in (i := 451) (by decide +kernel) (by decide +kernel)
theorem mML_X3_125 : Cond.methodLink RX3 125 yX3_zonesClash ∈ GG := gg_in (i := 452) (by decide +kernel) (by decide +kernel)
theorem mIM_X3_zonesClash : Cond.instanceMethod yX3_zonesClash ∈ GG := gg_in (i := 454) (by decide +kernel) (by decide +kernel)
theorem mCO_X3_zonesClash : Cond.code yX3_zonesClash cX3_zonesClash 6 (some .boolean) ∈ GG := gg_in (i := 455) (by decide +kernel) (by decide +kernel)
theorem mML_X3_131 : Cond.methodLink RX3 131 yX3_setLink ∈ GG := gg_in (i := 456) (by decide +kernel) (by decide +kernel)
theorem mIM_X3_setLink : Cond.instanceMethod yX3_setLink ∈ GG := gg_in (i := 457) (by decide +kernel) (by decide +kernel)
theorem mSE_X3_setLink : Cond.selects RX3 yX3_setLink yX3_setLink ∈ GG := gg_in (i := 458) (by decide +kernel) (by decide +kernel)
theorem mCO_X3_setLink : Cond.code yX3_setLink cX3_setLink 4 none ∈ GG := gg_in (i := 459) (by decide +kernel) (by decide +kernel)
theorem mML_X3_75 : Cond.methodLink RX3 75 yX3_setEnd ∈ GG := gg_in (i := 460) (by decide +kernel) (by decide +kernel)
theorem mIM_X3_setEnd : Cond.instanceMethod yX3_setEnd ∈ GG := gg_in (i := 462) (by decide +kernel) (by decide +kernel)
theorem mCO_X3_setEnd : Cond.code yX3_setEnd cX3_setEnd 4 none ∈ GG := gg_in (i := 463) (by decide +kernel) (by decide +kernel)
theorem mML_X3_134 : Cond.methodLink RX3 134 yX3_shareZones ∈ GG := gg_in (i := 464) (by decide +kernel) (by decide +kernel)
theorem mIM_X3_shareZones : Cond.instanceMethod yX3_shareZones ∈ GG := gg_in (i := 466) (by decide +kernel) (by decide +kernel)
theorem mCO_X3_shareZones : Cond.code yX3_shareZones cX3_shareZones 5 none ∈ GG := gg_in (i := 467) (by decide +kernel) (by decide +kernel)
theorem mML_X3_140 : Cond.methodLink RX3 140 yX3_setZone ∈ GG := gg_in (i := 468) (by decide +kernel) (by decide +kernel)
theorem mIM_X3_setZone : Cond.instanceMethod yX3_setZone ∈ GG := gg_in (i := 469) (by decide +kernel) (by decide +kernel)
theorem mSE_X3_setZone : Cond.selects RX3 yX3_setZone yX3_setZone ∈ GG := gg_in (i := 470) (by decide +kernel) (by decide +kernel)
theorem mCO_X3_setZone : Cond.code yX3_setZone cX3_setZone 5 none ∈ GG := gg_in (i := 471) (by decide +kernel) (by decide +kernel)
theorem mML_X3_137 : Cond.methodLink RX3 137 yX3_handOut ∈ GG := gg_in (i := 472) (by decide +kernel) (by decide +kernel)
theorem mIM_X3_handOut : Cond.instanceMethod yX3_handOut ∈ GG := gg_in (i := 473) (by decide +kernel) (by decide +kernel)
theorem mSE_X3_handOut : Cond.selects RX3 yX3_handOut yX3_handOut ∈ GG := gg_in (i := 474) (by decide +kernel) (by decide +kernel)
theorem mCO_X3_handOut : Cond.code yX3_handOut cX3_handOut 9 (some .int) ∈ GG := gg_in (i := 475) (by decide +kernel) (by decide +kernel)
theorem mML_X3_100 : Cond.methodLink RX3 100 yX3_principalOf ∈ GG := gg_in (i := 476) (by decide +kernel) (by decide +kernel)
theorem mIM_X3_principalOf : Cond.instanceMethod yX3_principalOf ∈ GG := gg_in (i := 477) (by decide +kernel) (by decide +kernel)
theorem mSE_X3_principalOf : Cond.selects RX3 yX3_principalOf yX3_principalOf ∈ GG := gg_in (i := 478) (by decide +kernel) (by decide +kernel)
theorem mCO_X3_principalOf : Cond.code yX3_principalOf cX3_principalOf 4 (some .int) ∈ GG := gg_in (i := 479) (by decide +kernel) (by decide +kernel)
theorem mML_X3_91 : Cond.methodLink RX3 91 yX3_goesAhead ∈ GG := gg_in (i := 480) (by decide +kernel) (by decide +kernel)
theorem mIM_X3_goesAhead : Cond.instanceMethod yX3_goesAhead ∈ GG := gg_in (i := 482) (by decide +kernel) (by decide +kernel)
theorem mCO_X3_goesAhead : Cond.code yX3_goesAhead cX3_goesAhead 3 (some .boolean) ∈ GG := gg_in (i := 483) (by decide +kernel) (by decide +kernel)
theorem mML_X3_94 : Cond.methodLink RX3 94 yX3_priorityOf ∈ GG := gg_in (i := 484) (by decide +kernel) (by decide +kernel)
theorem mIM_X3_priorityOf : Cond.instanceMethod yX3_priorityOf ∈ GG := gg_in (i := 485) (by decide +kernel) (by decide +kernel)
theorem mSE_X3_priorityOf : Cond.selects RX3 yX3_priorityOf yX3_priorityOf ∈ GG := gg_in (i := 486) (by decide +kernel) (by decide +kernel)
theorem mCO_X3_priorityOf : Cond.code yX3_priorityOf cX3_priorityOf 2 (some .int) ∈ GG := gg_in (i := 487) (by decide +kernel) (by decide +kernel)
theorem mML_X3_97 : Cond.methodLink RX3 97 yX3_nameOf ∈ GG := gg_in (i := 488) (by decide +kernel) (by decide +kernel)
theorem mIM_X3_nameOf : Cond.instanceMethod yX3_nameOf ∈ GG := gg_in (i := 489) (by decide +kernel) (by decide +kernel)
theorem mSE_X3_nameOf : Cond.selects RX3 yX3_nameOf yX3_nameOf ∈ GG := gg_in (i := 490) (by decide +kernel) (by decide +kernel)
theorem mCO_X3_nameOf : Cond.code yX3_nameOf cX3_nameOf 2 (some .int) ∈ GG := gg_in (i := 491) (by decide +kernel) (by decide +kernel)
theorem mML_X3_103 : Cond.methodLink RX3 103 yX3_lowestNameOf ∈ GG := gg_in (i := 492) (by decide +kernel) (by decide +kernel)
theorem mIM_X3_lowestNameOf : Cond.instanceMethod yX3_lowestNameOf ∈ GG := gg_in (i := 494) (by decide +kernel) (by decide +kernel)
theorem mCO_X3_lowestNameOf : Cond.code yX3_lowestNameOf cX3_lowestNameOf 4 (some .int) ∈ GG := gg_in (i := 495) (by decide +kernel) (by decide +kernel)
theorem mML_X3_106 : Cond.methodLink RX3 106 yX3_blockFor ∈ GG := gg_in (i := 496) (by decide +kernel) (by decide +kernel)
theorem mIM_X3_blockFor : Cond.instanceMethod yX3_blockFor ∈ GG := gg_in (i := 498) (by decide +kernel) (by decide +kernel)
theorem mCO_X3_blockFor : Cond.code yX3_blockFor cX3_blockFor 5 (some .int) ∈ GG := gg_in (i := 499) (by decide +kernel) (by decide +kernel)
theorem mML_X3_116 : Cond.methodLink RX3 116 yX3_wantOf ∈ GG := gg_in (i := 500) (by decide +kernel) (by decide +kernel)
theorem mIM_X3_wantOf : Cond.instanceMethod yX3_wantOf ∈ GG := gg_in (i := 501) (by decide +kernel) (by decide +kernel)
theorem mSE_X3_wantOf : Cond.selects RX3 yX3_wantOf yX3_wantOf ∈ GG := gg_in (i := 502) (by decide +kernel) (by decide +kernel)
theorem mCO_X3_wantOf : Cond.code yX3_wantOf cX3_wantOf 2 (some .int) ∈ GG := gg_in (i := 503) (by decide +kernel) (by decide +kernel)
theorem mML_X3_109 : Cond.methodLink RX3 109 yX3_blockOf ∈ GG := gg_in (i := 504) (by decide +kernel) (by decide +kernel)
theorem mIM_X3_blockOf : Cond.instanceMethod yX3_blockOf ∈ GG := gg_in (i := 505) (by decide +kernel) (by decide +kernel)
theorem mSE_X3_blockOf : Cond.selects RX3 yX3_blockOf yX3_blockOf ∈ GG := gg_in (i := 506) (by decide +kernel) (by decide +kernel)
theorem mCO_X3_blockOf : Cond.code yX3_blockOf cX3_blockOf 2 (some .int) ∈ GG := gg_in (i := 507) (by decide +kernel) (by decide +kernel)
theorem mML_X3_112 : Cond.methodLink RX3 112 yX3_setBlock ∈ GG := gg_in (i := 508) (by decide +kernel) (by decide +kernel)
theorem mIM_X3_setBlock : Cond.instanceMethod yX3_setBlock ∈ GG := gg_in (i := 510) (by decide +kernel) (by decide +kernel)
theorem mCO_X3_setBlock : Cond.code yX3_setBlock cX3_setBlock 3 none ∈ GG := gg_in (i := 511) (by decide +kernel) (by decide +kernel)
theorem mML_X7_110 : Cond.methodLink RX7 110 yX3_noticeSince ∈ GG := gg_in (i := 512) (by decide +kernel) (by decide +kernel)
theorem mIM_X3_noticeSince : Cond.instanceMethod yX3_noticeSince ∈ GG := gg_in (i := 513) (by decide +kernel) (by decide +kernel)
theorem mSE_X3_noticeSince : Cond.selects RX3 yX3_noticeSince yX3_noticeSince ∈ GG := gg_in (i := 514) (by decide +kernel) (by decide +kernel)
theorem mCO_X3_noticeSince : Cond.code yX3_noticeSince cX3_noticeSince 7 none ∈ GG := gg_in (i := 515) (by decide +kernel) (by decide +kernel)
theorem mML_X3_156 : Cond.methodLink RX3 156 yX3_view ∈ GG := gg_in (i := 516) (by decide +kernel) (by decide +kernel)
theorem mST_X7_rowOf : Cond.static yX7_rowOf ∈ GG := gg_in (i := 518) (by decide +kernel) (by decide +kernel)
theorem mCO_X7_rowOf : Cond.code yX7_rowOf cX7_rowOf 3 (some .int) ∈ GG := gg_in (i := 519) (by decide +kernel) (by decide +kernel)
theorem mML_L_32 : Cond.methodLink RL 32 yX7_cuts ∈ GG := gg_in (i := 520) (by decide +kernel) (by decide +kernel)
theorem mIM_X7_cuts : Cond.instanceMethod yX7_cuts ∈ GG := gg_in (i := 521) (by decide +kernel) (by decide +kernel)
theorem mSE_X7_cuts : Cond.selects RX7 yX7_cuts yX7_cuts ∈ GG := gg_in (i := 522) (by decide +kernel) (by decide +kernel)
theorem mCO_X7_cuts : Cond.code yX7_cuts cX7_cuts 5 (some .int) ∈ GG := gg_in (i := 523) (by decide +kernel) (by decide +kernel)
theorem mML_X7_114 : Cond.methodLink RX7 114 yX3_linkState ∈ GG := gg_in (i := 524) (by decide +kernel) (by decide +kernel)
theorem mML_X7_118 : Cond.methodLink RX7 118 yX3_setLink ∈ GG := gg_in (i := 525) (by decide +kernel) (by decide +kernel)
theorem mML_X7_121 : Cond.methodLink RX7 121 yX3_fabricTotal ∈ GG := gg_in (i := 526) (by decide +kernel) (by decide +kernel)
theorem mIM_X3_fabricTotal : Cond.instanceMethod yX3_fabricTotal ∈ GG := gg_in (i := 527) (by decide +kernel) (by decide +kernel)
theorem mSE_X3_fabricTotal : Cond.selects RX3 yX3_fabricTotal yX3_fabricTotal ∈ GG := gg_in (i := 528) (by decide +kernel) (by decide +kernel)
theorem mCO_X3_fabricTotal : Cond.code yX3_fabricTotal cX3_fabricTotal 4 (some .int) ∈ GG := gg_in (i := 529) (by decide +kernel) (by decide +kernel)
theorem mML_L_36 : Cond.methodLink RL 36 yX7_zones ∈ GG := gg_in (i := 530) (by decide +kernel) (by decide +kernel)
theorem mIM_X7_zones : Cond.instanceMethod yX7_zones ∈ GG := gg_in (i := 531) (by decide +kernel) (by decide +kernel)
theorem mSE_X7_zones : Cond.selects RX7 yX7_zones yX7_zones ∈ GG := gg_in (i := 532) (by decide +kernel) (by decide +kernel)
theorem mCO_X7_zones : Cond.code yX7_zones cX7_zones 7 (some .int) ∈ GG := gg_in (i := 533) (by decide +kernel) (by decide +kernel)
theorem mML_X7_124 : Cond.methodLink RX7 124 yX3_hasSwitch ∈ GG := gg_in (i := 534) (by decide +kernel) (by decide +kernel)
theorem mML_X7_127 : Cond.methodLink RX7 127 yX3_everyHost ∈ GG := gg_in (i := 535) (by decide +kernel) (by decide +kernel)
theorem mIM_X3_everyHost : Cond.instanceMethod yX3_everyHost ∈ GG := gg_in (i := 536) (by decide +kernel) (by decide +kernel)
theorem mSE_X3_everyHost : Cond.selects RX3 yX3_everyHost yX3_everyHost ∈ GG := gg_in (i := 537) (by decide +kernel) (by decide +kernel)
theorem mCO_X3_everyHost : Cond.code yX3_everyHost cX3_everyHost 1 (some .int) ∈ GG := gg_in (i := 538) (by decide +kernel) (by decide +kernel)
theorem mML_X7_130 : Cond.methodLink RX7 130 yX3_zoneSet ∈ GG := gg_in (i := 539) (by decide +kernel) (by decide +kernel)
theorem mML_X7_133 : Cond.methodLink RX7 133 yX3_fabricOf ∈ GG := gg_in (i := 540) (by decide +kernel) (by decide +kernel)
theorem mML_X7_137 : Cond.methodLink RX7 137 yX3_setZone ∈ GG := gg_in (i := 541) (by decide +kernel) (by decide +kernel)
theorem mML_L_41 : Cond.methodLink RL 41 yX7_moves ∈ GG := gg_in (i := 542) (by decide +kernel) (by decide +kernel)
theorem mIM_X7_moves : Cond.instanceMethod yX7_moves ∈ GG := gg_in (i := 543) (by decide +kernel) (by decide +kernel)
theorem mSE_X7_moves : Cond.selects RX7 yX7_moves yX7_moves ∈ GG := gg_in (i := 544) (by decide +kernel) (by decide +kernel)
theorem mCO_X7_moves : Cond.code yX7_moves cX7_moves 6 (some .int) ∈ GG := gg_in (i := 545) (by decide +kernel) (by decide +kernel)
theorem mML_X7_140 : Cond.methodLink RX7 140 yX3_hasHost ∈ GG := gg_in (i := 546) (by decide +kernel) (by decide +kernel)
theorem mIM_X3_hasHost : Cond.instanceMethod yX3_hasHost ∈ GG := gg_in (i := 547) (by decide +kernel) (by decide +kernel)
theorem mSE_X3_hasHost : Cond.selects RX3 yX3_hasHost yX3_hasHost ∈ GG := gg_in (i := 548) (by decide +kernel) (by decide +kernel)
theorem mCO_X3_hasHost : Cond.code yX3_hasHost cX3_hasHost 2 (some .boolean) ∈ GG := gg_in (i := 549) (by decide +kernel) (by decide +kernel)
theorem mML_X7_143 : Cond.methodLink RX7 143 yX3_placeOf ∈ GG := gg_in (i := 550) (by decide +kernel) (by decide +kernel)
theorem mIM_X3_placeOf : Cond.instanceMethod yX3_placeOf ∈ GG := gg_in (i := 551) (by decide +kernel) (by decide +kernel)
theorem mSE_X3_placeOf : Cond.selects RX3 yX3_placeOf yX3_placeOf ∈ GG := gg_in (i := 552) (by decide +kernel) (by decide +kernel)
theorem mCO_X3_placeOf : Cond.code yX3_placeOf cX3_placeOf 2 (some .int) ∈ GG := gg_in (i := 553) (by decide +kernel) (by decide +kernel)
theorem mML_X3_61 : Cond.methodLink RX3 61 yX3_hasHost ∈ GG := gg_in (i := 554) (by decide +kernel) (by decide +kernel)
theorem mML_X7_146 : Cond.methodLink RX7 146 yX3_setPlace ∈ GG := gg_in (i := 555) (by decide +kernel) (by decide +kernel)
theorem mIM_X3_setPlace : Cond.instanceMethod yX3_setPlace ∈ GG := gg_in (i := 556) (by decide +kernel) (by decide +kernel)
theorem mSE_X3_setPlace : Cond.selects RX3 yX3_setPlace yX3_setPlace ∈ GG := gg_in (i := 557) (by decide +kernel) (by decide +kernel)
theorem mCO_X3_setPlace : Cond.code yX3_setPlace cX3_setPlace 3 none ∈ GG := gg_in (i := 558) (by decide +kernel) (by decide +kernel)
theorem mML_L_45 : Cond.methodLink RL 45 yX7_ranks ∈ GG := gg_in (i := 559) (by decide +kernel) (by decide +kernel)
theorem mIM_X7_ranks : Cond.instanceMethod yX7_ranks ∈ GG := gg_in (i := 560) (by decide +kernel) (by decide +kernel)
theorem mSE_X7_ranks : Cond.selects RX7 yX7_ranks yX7_ranks ∈ GG := gg_in (i := 561) (by decide +kernel) (by decide +kernel)
theorem mCO_X7_ranks : Cond.code yX7_ranks cX7_ranks 4 (some .int) ∈ GG := gg_in (i := 562) (by decide +kernel) (by decide +kernel)
theorem mML_X7_150 : Cond.methodLink RX7 150 yX3_priorityOf ∈ GG := gg_in (i := 563) (by decide +kernel) (by decide +kernel)
theorem mML_X7_153 : Cond.methodLink RX7 153 yX3_setPriority ∈ GG := gg_in (i := 564) (by decide +kernel) (by decide +kernel)
theorem mIM_X3_setPriority : Cond.instanceMethod yX3_setPriority ∈ GG := gg_in (i := 565) (by decide +kernel) (by decide +kernel)
theorem mSE_X3_setPriority : Cond.selects RX3 yX3_setPriority yX3_setPriority ∈ GG := gg_in (i := 566) (by decide +kernel) (by decide +kernel)
theorem mCO_X3_setPriority : Cond.code yX3_setPriority cX3_setPriority 3 none ∈ GG := gg_in (i := 567) (by decide +kernel) (by decide +kernel)
theorem mML_L_49 : Cond.methodLink RL 49 yX7_renews ∈ GG := gg_in (i := 568) (by decide +kernel) (by decide +kernel)
theorem mIM_X7_renews : Cond.instanceMethod yX7_renews ∈ GG := gg_in (i := 569) (by decide +kernel) (by decide +kernel)
theorem mSE_X7_renews : Cond.selects RX7 yX7_renews yX7_renews ∈ GG := gg_in (i := 570) (by decide +kernel) (by decide +kernel)
theorem mCO_X7_renews : Cond.code yX7_renews cX7_renews 2 (some .int) ∈ GG := gg_in (i := 571) (by decide +kernel) (by decide +kernel)
theorem mML_X7_156 : Cond.methodLink RX7 156 yX3_handOut ∈ GG := gg_in (i := 572) (by decide +kernel) (by decide +kernel)
theorem mML_L_53 : Cond.methodLink RL 53 yX7_allows ∈ GG := gg_in (i := 573) (by decide +kernel) (by decide +kernel)
theorem mIM_X7_allows : Cond.instanceMethod yX7_allows ∈ GG := gg_in (i := 574) (by decide +kernel) (by decide +kernel)
theorem mSE_X7_allows : Cond.selects RX7 yX7_allows yX7_allows ∈ GG := gg_in (i := 575) (by decide +kernel) (by decide +kernel)
theorem mCO_X7_allows : Cond.code yX7_allows cX7_allows 2 (some .int) ∈ GG := gg_in (i := 576) (by decide +kernel) (by decide +kernel)
theorem mML_X7_159 : Cond.methodLink RX7 159 yX3_isRenewing ∈ GG := gg_in (i := 577) (by decide +kernel) (by decide +kernel)
theorem mIM_X3_isRenewing : Cond.instanceMethod yX3_isRenewing ∈ GG := gg_in (i := 578) (by decide +kernel) (by decide +kernel)
theorem mSE_X3_isRenewing : Cond.selects RX3 yX3_isRenewing yX3_isRenewing ∈ GG := gg_in (i := 579) (by decide +kernel) (by decide +kernel)
theorem mCO_X3_isRenewing : Cond.code yX3_isRenewing cX3_isRenewing 1 (some .boolean) ∈ GG := gg_in (i := 580) (by decide +kernel) (by decide +kernel)
theorem mML_X7_163 : Cond.methodLink RX7 163 yX3_setRenewing ∈ GG := gg_in (i := 581) (by decide +kernel) (by decide +kernel)
theorem mIM_X3_setRenewing : Cond.instanceMethod yX3_setRenewing ∈ GG := gg_in (i := 582) (by decide +kernel) (by decide +kernel)
theorem mSE_X3_setRenewing : Cond.selects RX3 yX3_setRenewing yX3_setRenewing ∈ GG := gg_in (i := 583) (by decide +kernel) (by decide +kernel)
theorem mCO_X3_setRenewing : Cond.code yX3_setRenewing cX3_setRenewing 2 none ∈ GG := gg_in (i := 584) (by decide +kernel) (by decide +kernel)
theorem mML_L_57 : Cond.methodLink RL 57 yX7_undo ∈ GG := gg_in (i := 585) (by decide +kernel) (by decide +kernel)
theorem mIM_X7_undo : Cond.instanceMethod yX7_undo ∈ GG := gg_in (i := 586) (by decide +kernel) (by decide +kernel)
theorem mSE_X7_undo : Cond.selects RX7 yX7_undo yX7_undo ∈ GG := gg_in (i := 587) (by decide +kernel) (by decide +kernel)
theorem mCO_X7_undo : Cond.code yX7_undo cX7_undo 1 (some .int) ∈ GG := gg_in (i := 588) (by decide +kernel) (by decide +kernel)
theorem mML_X7_167 : Cond.methodLink RX7 167 yX2_size ∈ GG := gg_in (i := 589) (by decide +kernel) (by decide +kernel)
theorem mIM_X2_size : Cond.instanceMethod yX2_size ∈ GG := gg_in (i := 590) (by decide +kernel) (by decide +kernel)
theorem mSE_X2_size : Cond.selects RX2 yX2_size yX2_size ∈ GG := gg_in (i := 591) (by decide +kernel) (by decide +kernel)
theorem mCO_X2_size : Cond.code yX2_size cX2_size 1 (some .int) ∈ GG := gg_in (i := 592) (by decide +kernel) (by decide +kernel)
theorem mML_X7_168 : Cond.methodLink RX7 168 yX2_restoreTo ∈ GG := gg_in (i := 593) (by decide +kernel) (by decide +kernel)
theorem mIM_X2_restoreTo : Cond.instanceMethod yX2_restoreTo ∈ GG := gg_in (i := 594) (by decide +kernel) (by decide +kernel)
theorem mSE_X2_restoreTo : Cond.selects RX2 yX2_restoreTo yX2_restoreTo ∈ GG := gg_in (i := 595) (by decide +kernel) (by decide +kernel)
theorem mCO_X2_restoreTo : Cond.code yX2_restoreTo cX2_restoreTo 2 none ∈ GG := gg_in (i := 596) (by decide +kernel) (by decide +kernel)
theorem mML_L_61 : Cond.methodLink RL 61 yX7_device ∈ GG := gg_in (i := 597) (by decide +kernel) (by decide +kernel)
theorem mIM_X7_device : Cond.instanceMethod yX7_device ∈ GG := gg_in (i := 598) (by decide +kernel) (by decide +kernel)
theorem mSE_X7_device : Cond.selects RX7 yX7_device yX7_device ∈ GG := gg_in (i := 599) (by decide +kernel) (by decide +kernel)
theorem mCO_X7_device : Cond.code yX7_device cX7_device 3 (some .int) ∈ GG := gg_in (i := 600) (by decide +kernel) (by decide +kernel)
theorem mML_X7_171 : Cond.methodLink RX7 171 yX3_nameOf ∈ GG := gg_in (i := 601) (by decide +kernel) (by decide +kernel)
theorem mML_X7_174 : Cond.methodLink RX7 174 yX3_wantOf ∈ GG := gg_in (i := 602) (by decide +kernel) (by decide +kernel)
theorem mML_X7_177 : Cond.methodLink RX7 177 yX3_blockOf ∈ GG := gg_in (i := 603) (by decide +kernel) (by decide +kernel)
theorem mML_X7_180 : Cond.methodLink RX7 180 yX3_principalOf ∈ GG := gg_in (i := 604) (by decide +kernel) (by decide +kernel)
theorem mML_X7_183 : Cond.methodLink RX7 183 yX3_farOf ∈ GG := gg_in (i := 605) (by decide +kernel) (by decide +kernel)
theorem mIM_X3_farOf : Cond.instanceMethod yX3_farOf ∈ GG := gg_in (i := 606) (by decide +kernel) (by decide +kernel)
theorem mSE_X3_farOf : Cond.selects RX3 yX3_farOf yX3_farOf ∈ GG := gg_in (i := 607) (by decide +kernel) (by decide +kernel)
theorem mCO_X3_farOf : Cond.code yX3_farOf cX3_farOf 4 (some .int) ∈ GG := gg_in (i := 608) (by decide +kernel) (by decide +kernel)
theorem mML_X7_186 : Cond.methodLink RX7 186 yX3_hostsAt ∈ GG := gg_in (i := 609) (by decide +kernel) (by decide +kernel)
theorem mML_L_65 : Cond.methodLink RL 65 yX7_link ∈ GG := gg_in (i := 610) (by decide +kernel) (by decide +kernel)
theorem mIM_X7_link : Cond.instanceMethod yX7_link ∈ GG := gg_in (i := 611) (by decide +kernel) (by decide +kernel)
theorem mSE_X7_link : Cond.selects RX7 yX7_link yX7_link ∈ GG := gg_in (i := 612) (by decide +kernel) (by decide +kernel)
theorem mCO_X7_link : Cond.code yX7_link cX7_link 3 (some .int) ∈ GG := gg_in (i := 613) (by decide +kernel) (by decide +kernel)
theorem mML_L_69 : Cond.methodLink RL 69 yX7_zone ∈ GG := gg_in (i := 614) (by decide +kernel) (by decide +kernel)
theorem mIM_X7_zone : Cond.instanceMethod yX7_zone ∈ GG := gg_in (i := 615) (by decide +kernel) (by decide +kernel)
theorem mSE_X7_zone : Cond.selects RX7 yX7_zone yX7_zone ∈ GG := gg_in (i := 616) (by decide +kernel) (by decide +kernel)
theorem mCO_X7_zone : Cond.code yX7_zone cX7_zone 3 (some .int) ∈ GG := gg_in (i := 617) (by decide +kernel) (by decide +kernel)
theorem mML_L_73 : Cond.methodLink RL 73 yX7_host ∈ GG := gg_in (i := 618) (by decide +kernel) (by decide +kernel)
theorem mIM_X7_host : Cond.instanceMethod yX7_host ∈ GG := gg_in (i := 619) (by decide +kernel) (by decide +kernel)
theorem mSE_X7_host : Cond.selects RX7 yX7_host yX7_host ∈ GG := gg_in (i := 620) (by decide +kernel) (by decide +kernel)
theorem mCO_X7_host : Cond.code yX7_host cX7_host 3 (some .int) ∈ GG := gg_in (i := 621) (by decide +kernel) (by decide +kernel)
theorem mML_X7_192 : Cond.methodLink RX7 192 yX7_rowOf ∈ GG := gg_in (i := 622) (by decide +kernel) (by decide +kernel)
theorem mML_X7_196 : Cond.methodLink RX7 196 yX3_noticesOf ∈ GG := gg_in (i := 623) (by decide +kernel) (by decide +kernel)
theorem mIM_X3_noticesOf : Cond.instanceMethod yX3_noticesOf ∈ GG := gg_in (i := 624) (by decide +kernel) (by decide +kernel)
theorem mSE_X3_noticesOf : Cond.selects RX3 yX3_noticesOf yX3_noticesOf ∈ GG := gg_in (i := 625) (by decide +kernel) (by decide +kernel)
theorem mCO_X3_noticesOf : Cond.code yX3_noticesOf cX3_noticesOf 2 (some .int) ∈ GG := gg_in (i := 626) (by decide +kernel) (by decide +kernel)
theorem mML_X7_199 : Cond.methodLink RX7 199 yX3_newsOf ∈ GG := gg_in (i := 627) (by decide +kernel) (by decide +kernel)
theorem mIM_X3_newsOf : Cond.instanceMethod yX3_newsOf ∈ GG := gg_in (i := 628) (by decide +kernel) (by decide +kernel)
theorem mSE_X3_newsOf : Cond.selects RX3 yX3_newsOf yX3_newsOf ∈ GG := gg_in (i := 629) (by decide +kernel) (by decide +kernel)
theorem mCO_X3_newsOf : Cond.code yX3_newsOf cX3_newsOf 2 (some .int) ∈ GG := gg_in (i := 630) (by decide +kernel) (by decide +kernel)
theorem mML_L_77 : Cond.methodLink RL 77 yX7_would ∈ GG := gg_in (i := 631) (by decide +kernel) (by decide +kernel)
theorem mIM_X7_would : Cond.instanceMethod yX7_would ∈ GG := gg_in (i := 632) (by decide +kernel) (by decide +kernel)
theorem mSE_X7_would : Cond.selects RX7 yX7_would yX7_would ∈ GG := gg_in (i := 633) (by decide +kernel) (by decide +kernel)
theorem mCO_X7_would : Cond.code yX7_would cX7_would 3 (some .int) ∈ GG := gg_in (i := 634) (by decide +kernel) (by decide +kernel)
theorem mML_X7_202 : Cond.methodLink RX7 202 yX3_outcomeOf ∈ GG := gg_in (i := 635) (by decide +kernel) (by decide +kernel)
theorem mML_L_81 : Cond.methodLink RL 81 yX7_weakest ∈ GG := gg_in (i := 636) (by decide +kernel) (by decide +kernel)
theorem mIM_X7_weakest : Cond.instanceMethod yX7_weakest ∈ GG := gg_in (i := 637) (by decide +kernel) (by decide +kernel)
theorem mSE_X7_weakest : Cond.selects RX7 yX7_weakest yX7_weakest ∈ GG := gg_in (i := 638) (by decide +kernel) (by decide +kernel)
theorem mCO_X7_weakest : Cond.code yX7_weakest cX7_weakest 5 (some .int) ∈ GG := gg_in (i := 639) (by decide +kernel) (by decide +kernel)
theorem mML_X7_205 : Cond.methodLink RX7 205 yX6_cutEach ∈ GG := gg_in (i := 640) (by decide +kernel) (by decide +kernel)
theorem mIM_X6_cutEach : Cond.instanceMethod yX6_cutEach ∈ GG := gg_in (i := 641) (by decide +kernel) (by decide +kernel)
theorem mSE_X6_cutEach : Cond.selects RX6 yX6_cutEach yX6_cutEach ∈ GG := gg_in (i := 642) (by decide +kernel) (by decide +kernel)
theorem mCO_X6_cutEach : Cond.code yX6_cutEach cX6_cutEach 4 none ∈ GG := gg_in (i := 643) (by decide +kernel) (by decide +kernel)
theorem mML_X6_23 : Cond.methodLink RX6 23 yX3_switchTotal ∈ GG := gg_in (i := 644) (by decide +kernel) (by decide +kernel)
theorem mML_X6_29 : Cond.methodLink RX6 29 yX3_isUp ∈ GG := gg_in (i := 645) (by decide +kernel) (by decide +kernel)
theorem mML_X6_33 : Cond.methodLink RX6 33 yX3_viewWithout ∈ GG := gg_in (i := 646) (by decide +kernel) (by decide +kernel)
theorem mIM_X3_viewWithout : Cond.instanceMethod yX3_viewWithout ∈ GG := gg_in (i := 647) (by decide +kernel) (by decide +kernel)
theorem mSE_X3_viewWithout : Cond.selects RX3 yX3_viewWithout yX3_viewWithout ∈ GG := gg_in (i := 648) (by decide +kernel) (by decide +kernel)
theorem mCO_X3_viewWithout : Cond.code yX3_viewWithout cX3_viewWithout 5 (some .long) ∈ GG := gg_in (i := 649) (by decide +kernel) (by decide +kernel)
theorem mML_X7_208 : Cond.methodLink RX7 208 yX6_size ∈ GG := gg_in (i := 650) (by decide +kernel) (by decide +kernel)
theorem mIM_X6_size : Cond.instanceMethod yX6_size ∈ GG := gg_in (i := 651) (by decide +kernel) (by decide +kernel)
theorem mSE_X6_size : Cond.selects RX6 yX6_size yX6_size ∈ GG := gg_in (i := 652) (by decide +kernel) (by decide +kernel)
theorem mCO_X6_size : Cond.code yX6_size cX6_size 1 (some .int) ∈ GG := gg_in (i := 653) (by decide +kernel) (by decide +kernel)
theorem mML_X7_209 : Cond.methodLink RX7 209 yX6_dearest ∈ GG := gg_in (i := 654) (by decide +kernel) (by decide +kernel)
theorem mIM_X6_dearest : Cond.instanceMethod yX6_dearest ∈ GG := gg_in (i := 655) (by decide +kernel) (by decide +kernel)
theorem mSE_X6_dearest : Cond.selects RX6 yX6_dearest yX6_dearest ∈ GG := gg_in (i := 656) (by decide +kernel) (by decide +kernel)
theorem mCO_X6_dearest : Cond.code yX6_dearest cX6_dearest 5 (some .int) ∈ GG := gg_in (i := 657) (by decide +kernel) (by decide +kernel)
theorem mML_X6_49 : Cond.methodLink RX6 49 yX6_lostAt ∈ GG := gg_in (i := 658) (by decide +kernel) (by decide +kernel)
theorem mIM_X6_lostAt : Cond.instanceMethod yX6_lostAt ∈ GG := gg_in (i := 659) (by decide +kernel) (by decide +kernel)
theorem mSE_X6_lostAt : Cond.selects RX6 yX6_lostAt yX6_lostAt ∈ GG := gg_in (i := 660) (by decide +kernel) (by decide +kernel)
theorem mCO_X6_lostAt : Cond.code yX6_lostAt cX6_lostAt 4 (some .int) ∈ GG := gg_in (i := 661) (by decide +kernel) (by decide +kernel)
theorem mKL_X6_43 : Cond.constantLong RX6 43 (-1) ∈ GG := gg_in (i := 662) (by decide +kernel) (by decide +kernel)
theorem mST_X7_twosOf : Cond.static yX7_twosOf ∈ GG := gg_in (i := 664) (by decide +kernel) (by decide +kernel)
theorem mCO_X7_twosOf : Cond.code yX7_twosOf cX7_twosOf 2 (some .int) ∈ GG := gg_in (i := 665) (by decide +kernel) (by decide +kernel)
theorem mML_X7_250 : Cond.methodLink RX7 250 yJ13_bitCount_95d88 ∈ GG := gg_in (i := 666) (by decide +kernel) (by decide +kernel)
theorem mST_J13_bitCount_95d88 : Cond.static yJ13_bitCount_95d88 ∈ GG := gg_in (i := 667) (by decide +kernel) (by decide +kernel)
theorem mCO_J13_bitCount_95d88 : Cond.code yJ13_bitCount_95d88 cJ13_bitCount_95d88 2 (some .int) ∈ GG := gg_in (i := 668) (by decide +kernel) (by decide +kernel)
theorem mKL_J13_314 : Cond.constantLong RJ13 314 (6148914691236517205) ∈ GG := gg_in (i := 669) (by decide +kernel) (by decide +kernel)
theorem mKL_J13_316 : Cond.constantLong RJ13 316 (3689348814741910323) ∈ GG := gg_in (i := 670) (by decide +kernel) (by decide +kernel)
theorem mKL_J13_318 : Cond.constantLong RJ13 318 (1085102592571150095) ∈ GG := gg_in (i := 671) (by decide +kernel) (by decide +kernel)
theorem mML_X7_213 : Cond.methodLink RX7 213 yX6_codeAt ∈ GG := gg_in (i := 672) (by decide +kernel) (by decide +kernel)
theorem mIM_X6_codeAt : Cond.instanceMethod yX6_codeAt ∈ GG := gg_in (i := 673) (by decide +kernel) (by decide +kernel)
theorem mSE_X6_codeAt : Cond.selects RX6 yX6_codeAt yX6_codeAt ∈ GG := gg_in (i := 674) (by decide +kernel) (by decide +kernel)
theorem mCO_X6_codeAt : Cond.code yX6_codeAt cX6_codeAt 2 (some .int) ∈ GG := gg_in (i := 675) (by decide +kernel) (by decide +kernel)
theorem mML_X7_216 : Cond.methodLink RX7 216 yX6_lostAt ∈ GG := gg_in (i := 676) (by decide +kernel) (by decide +kernel)
theorem mML_L_85 : Cond.methodLink RL 85 yX7_sees ∈ GG := gg_in (i := 677) (by decide +kernel) (by decide +kernel)
theorem mIM_X7_sees : Cond.instanceMethod yX7_sees ∈ GG := gg_in (i := 678) (by decide +kernel) (by decide +kernel)
theorem mSE_X7_sees : Cond.selects RX7 yX7_sees yX7_sees ∈ GG := gg_in (i := 679) (by decide +kernel) (by decide +kernel)
theorem mCO_X7_sees : Cond.code yX7_sees cX7_sees 4 (some .int) ∈ GG := gg_in (i := 680) (by decide +kernel) (by decide +kernel)
theorem mML_X7_220 : Cond.methodLink RX7 220 yX1_add ∈ GG := gg_in (i := 681) (by decide +kernel) (by decide +kernel)
theorem mIM_X1_add : Cond.instanceMethod yX1_add ∈ GG := gg_in (i := 682) (by decide +kernel) (by decide +kernel)
theorem mSE_X1_add : Cond.selects RX1 yX1_add yX1_add ∈ GG := gg_in (i := 683) (by decide +kernel) (by decide +kernel)
theorem mCO_X1_add : Cond.code yX1_add cX1_add 4 (some .boolean) ∈ GG := gg_in (i := 684) (by decide +kernel) (by decide +kernel)
theorem mST_X7_viewBit : Cond.static yX7_viewBit ∈ GG := gg_in (i := 686) (by decide +kernel) (by decide +kernel)
theorem mCO_X7_viewBit : Cond.code yX7_viewBit cX7_viewBit 2 (some .long) ∈ GG := gg_in (i := 687) (by decide +kernel) (by decide +kernel)
theorem mML_X7_223 : Cond.methodLink RX7 223 yX1_size ∈ GG := gg_in (i := 688) (by decide +kernel) (by decide +kernel)
theorem mIM_X1_size : Cond.instanceMethod yX1_size ∈ GG := gg_in (i := 689) (by decide +kernel) (by decide +kernel)
theorem mSE_X1_size : Cond.selects RX1 yX1_size yX1_size ∈ GG := gg_in (i := 690) (by decide +kernel) (by decide +kernel)
theorem mCO_X1_size : Cond.code yX1_size cX1_size 1 (some .int) ∈ GG := gg_in (i := 691) (by decide +kernel) (by decide +kernel)
theorem mML_L_89 : Cond.methodLink RL 89 yX7_forget ∈ GG := gg_in (i := 692) (by decide +kernel) (by decide +kernel)
theorem mIM_X7_forget : Cond.instanceMethod yX7_forget ∈ GG := gg_in (i := 693) (by decide +kernel) (by decide +kernel)
theorem mSE_X7_forget : Cond.selects RX7 yX7_forget yX7_forget ∈ GG := gg_in (i := 694) (by decide +kernel) (by decide +kernel)
theorem mCO_X7_forget : Cond.code yX7_forget cX7_forget 2 (some .int) ∈ GG := gg_in (i := 695) (by decide +kernel) (by decide +kernel)
theorem mML_L_93 : Cond.methodLink RL 93 yX7_which ∈ GG := gg_in (i := 696) (by decide +kernel) (by decide +kernel)
theorem mIM_X7_which : Cond.instanceMethod yX7_which ∈ GG := gg_in (i := 697) (by decide +kernel) (by decide +kernel)
theorem mSE_X7_which : Cond.selects RX7 yX7_which yX7_which ∈ GG := gg_in (i := 698) (by decide +kernel) (by decide +kernel)
theorem mCO_X7_which : Cond.code yX7_which cX7_which 2 (some .int) ∈ GG := gg_in (i := 699) (by decide +kernel) (by decide +kernel)
theorem mML_X7_224 : Cond.methodLink RX7 224 yX6_dropUnfit ∈ GG := gg_in (i := 700) (by decide +kernel) (by decide +kernel)
theorem mIM_X6_dropUnfit : Cond.instanceMethod yX6_dropUnfit ∈ GG := gg_in (i := 701) (by decide +kernel) (by decide +kernel)
theorem mSE_X6_dropUnfit : Cond.selects RX6 yX6_dropUnfit yX6_dropUnfit ∈ GG := gg_in (i := 702) (by decide +kernel) (by decide +kernel)
theorem mCO_X6_dropUnfit : Cond.code yX6_dropUnfit cX6_dropUnfit 5 none ∈ GG := gg_in (i := 703) (by decide +kernel) (by decide +kernel)
theorem mML_X6_37 : Cond.methodLink RX6 37 yX1_fit ∈ GG := gg_in (i := 704) (by decide +kernel) (by decide +kernel)
theorem mIM_X1_fit : Cond.instanceMethod yX1_fit ∈ GG := gg_in (i := 705) (by decide +kernel) (by decide +kernel)
theorem mSE_X1_fit : Cond.selects RX1 yX1_fit yX1_fit ∈ GG := gg_in (i := 706) (by decide +kernel) (by decide +kernel)
theorem mCO_X1_fit : Cond.code yX1_fit cX1_fit 4 (some .boolean) ∈ GG := gg_in (i := 707) (by decide +kernel) (by decide +kernel)
theorem mML_L_97 : Cond.methodLink RL 97 yX7_ask ∈ GG := gg_in (i := 708) (by decide +kernel) (by decide +kernel)
theorem mIM_X7_ask : Cond.instanceMethod yX7_ask ∈ GG := gg_in (i := 709) (by decide +kernel) (by decide +kernel)
theorem mSE_X7_ask : Cond.selects RX7 yX7_ask yX7_ask ∈ GG := gg_in (i := 710) (by decide +kernel) (by decide +kernel)
theorem mCO_X7_ask : Cond.code yX7_ask cX7_ask 1 (some .int) ∈ GG := gg_in (i := 711) (by decide +kernel) (by decide +kernel)
theorem mML_X7_228 : Cond.methodLink RX7 228 yX6_bestQuestion ∈ GG := gg_in (i := 712) (by decide +kernel) (by decide +kernel)
theorem mIM_X6_bestQuestion : Cond.instanceMethod yX6_bestQuestion ∈ GG := gg_in (i := 713) (by decide +kernel) (by decide +kernel)
theorem mSE_X6_bestQuestion : Cond.selects RX6 yX6_bestQuestion yX6_bestQuestion ∈ GG := gg_in (i := 714) (by decide +kernel) (by decide +kernel)
theorem mCO_X6_bestQuestion : Cond.code yX6_bestQuestion cX6_bestQuestion 7 (some .int) ∈ GG := gg_in (i := 715) (by decide +kernel) (by decide +kernel)
theorem mML_X6_56 : Cond.methodLink RX6 56 yX6_mostAlike ∈ GG := gg_in (i := 717) (by decide +kernel) (by decide +kernel)
theorem mIM_X6_mostAlike : Cond.instanceMethod yX6_mostAlike ∈ GG := gg_in (i := 719) (by decide +kernel) (by decide +kernel)
theorem mCO_X6_mostAlike : Cond.code yX6_mostAlike cX6_mostAlike 5 (some .int) ∈ GG := gg_in (i := 720) (by decide +kernel) (by decide +kernel)
theorem mML_X6_59 : Cond.methodLink RX6 59 yJ9_max_7cf53 ∈ GG := gg_in (i := 721) (by decide +kernel) (by decide +kernel)
theorem mST_J9_max_7cf53 : Cond.static yJ9_max_7cf53 ∈ GG := gg_in (i := 722) (by decide +kernel) (by decide +kernel)
theorem mCO_J9_max_7cf53 : Cond.code yJ9_max_7cf53 cJ9_max_7cf53 2 (some .int) ∈ GG := gg_in (i := 723) (by decide +kernel) (by decide +kernel)
theorem mML_L_101 : Cond.methodLink RL 101 yX7_keep ∈ GG := gg_in (i := 724) (by decide +kernel) (by decide +kernel)
theorem mIM_X7_keep : Cond.instanceMethod yX7_keep ∈ GG := gg_in (i := 725) (by decide +kernel) (by decide +kernel)
theorem mSE_X7_keep : Cond.selects RX7 yX7_keep yX7_keep ∈ GG := gg_in (i := 726) (by decide +kernel) (by decide +kernel)
theorem mCO_X7_keep : Cond.code yX7_keep cX7_keep 2 (some .int) ∈ GG := gg_in (i := 727) (by decide +kernel) (by decide +kernel)
theorem mML_X7_231 : Cond.methodLink RX7 231 yX0_store ∈ GG := gg_in (i := 728) (by decide +kernel) (by decide +kernel)
theorem mIM_X0_store : Cond.instanceMethod yX0_store ∈ GG := gg_in (i := 729) (by decide +kernel) (by decide +kernel)
theorem mSE_X0_store : Cond.selects RX0 yX0_store yX0_store ∈ GG := gg_in (i := 730) (by decide +kernel) (by decide +kernel)
theorem mCO_X0_store : Cond.code yX0_store cX0_store 3 none ∈ GG := gg_in (i := 731) (by decide +kernel) (by decide +kernel)
theorem mML_X0_26 : Cond.methodLink RX0 26 yX3_copyFrom ∈ GG := gg_in (i := 732) (by decide +kernel) (by decide +kernel)
theorem mML_L_105 : Cond.methodLink RL 105 yX7_back ∈ GG := gg_in (i := 733) (by decide +kernel) (by decide +kernel)
theorem mIM_X7_back : Cond.instanceMethod yX7_back ∈ GG := gg_in (i := 734) (by decide +kernel) (by decide +kernel)
theorem mSE_X7_back : Cond.selects RX7 yX7_back yX7_back ∈ GG := gg_in (i := 735) (by decide +kernel) (by decide +kernel)
theorem mCO_X7_back : Cond.code yX7_back cX7_back 2 (some .int) ∈ GG := gg_in (i := 736) (by decide +kernel) (by decide +kernel)
theorem mML_X7_235 : Cond.methodLink RX7 235 yX0_holds ∈ GG := gg_in (i := 737) (by decide +kernel) (by decide +kernel)
theorem mIM_X0_holds : Cond.instanceMethod yX0_holds ∈ GG := gg_in (i := 738) (by decide +kernel) (by decide +kernel)
theorem mSE_X0_holds : Cond.selects RX0 yX0_holds yX0_holds ∈ GG := gg_in (i := 739) (by decide +kernel) (by decide +kernel)
theorem mCO_X0_holds : Cond.code yX0_holds cX0_holds 2 (some .boolean) ∈ GG := gg_in (i := 740) (by decide +kernel) (by decide +kernel)
theorem mML_X7_238 : Cond.methodLink RX7 238 yX0_restoreTo ∈ GG := gg_in (i := 742) (by decide +kernel) (by decide +kernel)
theorem mIM_X0_restoreTo : Cond.instanceMethod yX0_restoreTo ∈ GG := gg_in (i := 743) (by decide +kernel) (by decide +kernel)
theorem mSE_X0_restoreTo : Cond.selects RX0 yX0_restoreTo yX0_restoreTo ∈ GG := gg_in (i := 744) (by decide +kernel) (by decide +kernel)
theorem mCO_X0_restoreTo : Cond.code yX0_restoreTo cX0_restoreTo 3 none ∈ GG := gg_in (i := 745) (by decide +kernel) (by decide +kernel)
theorem mML_X0_30 : Cond.methodLink RX0 30 yX0_holds ∈ GG := gg_in (i := 746) (by decide +kernel) (by decide +kernel)
theorem mML_X7_240 : Cond.methodLink RX7 240 yX2_empty ∈ GG := gg_in (i := 747) (by decide +kernel) (by decide +kernel)
theorem mIM_X2_empty : Cond.instanceMethod yX2_empty ∈ GG := gg_in (i := 748) (by decide +kernel) (by decide +kernel)
theorem mSE_X2_empty : Cond.selects RX2 yX2_empty yX2_empty ∈ GG := gg_in (i := 749) (by decide +kernel) (by decide +kernel)
theorem mCO_X2_empty : Cond.code yX2_empty cX2_empty 1 none ∈ GG := gg_in (i := 750) (by decide +kernel) (by decide +kernel)
theorem mML_L_109 : Cond.methodLink RL 109 yX7_count ∈ GG := gg_in (i := 751) (by decide +kernel) (by decide +kernel)
theorem mIM_X7_count : Cond.instanceMethod yX7_count ∈ GG := gg_in (i := 752) (by decide +kernel) (by decide +kernel)
theorem mSE_X7_count : Cond.selects RX7 yX7_count yX7_count ∈ GG := gg_in (i := 753) (by decide +kernel) (by decide +kernel)
theorem mCO_X7_count : Cond.code yX7_count cX7_count 2 (some .int) ∈ GG := gg_in (i := 754) (by decide +kernel) (by decide +kernel)
theorem mML_X7_241 : Cond.methodLink RX7 241 yX3_linkTotal ∈ GG := gg_in (i := 755) (by decide +kernel) (by decide +kernel)
theorem mIM_X3_linkTotal : Cond.instanceMethod yX3_linkTotal ∈ GG := gg_in (i := 756) (by decide +kernel) (by decide +kernel)
theorem mSE_X3_linkTotal : Cond.selects RX3 yX3_linkTotal yX3_linkTotal ∈ GG := gg_in (i := 757) (by decide +kernel) (by decide +kernel)
theorem mCO_X3_linkTotal : Cond.code yX3_linkTotal cX3_linkTotal 4 (some .int) ∈ GG := gg_in (i := 758) (by decide +kernel) (by decide +kernel)
theorem mML_X3_79 : Cond.methodLink RX3 79 yJ6_bitCount_0f7a4 ∈ GG := gg_in (i := 759) (by decide +kernel) (by decide +kernel)
theorem mST_J6_bitCount_0f7a4 : Cond.static yJ6_bitCount_0f7a4 ∈ GG := gg_in (i := 760) (by decide +kernel) (by decide +kernel)
theorem mCO_J6_bitCount_0f7a4 : Cond.code yJ6_bitCount_0f7a4 cJ6_bitCount_0f7a4 1 (some .int) ∈ GG := gg_in (i := 761) (by decide +kernel) (by decide +kernel)
theorem mKI_J6_265 : Cond.constant RJ6 265 (1431655765) ∈ GG := gg_in (i := 762) (by decide +kernel) (by decide +kernel)
theorem mKI_J6_266 : Cond.constant RJ6 266 (858993459) ∈ GG := gg_in (i := 763) (by decide +kernel) (by decide +kernel)
theorem mKI_J6_267 : Cond.constant RJ6 267 (252645135) ∈ GG := gg_in (i := 764) (by decide +kernel) (by decide +kernel)
theorem mML_X7_244 : Cond.methodLink RX7 244 yX3_noticeTotal ∈ GG := gg_in (i := 765) (by decide +kernel) (by decide +kernel)
theorem mIM_X3_noticeTotal : Cond.instanceMethod yX3_noticeTotal ∈ GG := gg_in (i := 766) (by decide +kernel) (by decide +kernel)
theorem mSE_X3_noticeTotal : Cond.selects RX3 yX3_noticeTotal yX3_noticeTotal ∈ GG := gg_in (i := 767) (by decide +kernel) (by decide +kernel)
theorem mCO_X3_noticeTotal : Cond.code yX3_noticeTotal cX3_noticeTotal 3 (some .int) ∈ GG := gg_in (i := 768) (by decide +kernel) (by decide +kernel)
theorem mML_X7_247 : Cond.methodLink RX7 247 yX7_twosOf ∈ GG := gg_in (i := 769) (by decide +kernel) (by decide +kernel)
theorem mCL_L_10 : Cond.classLink RL 10 RX8 ∈ GG := gg_in (i := 770) (by decide +kernel) (by decide +kernel)
theorem mIS_X8 : Cond.instantiable RX8 20 ∈ GG := gg_in (i := 771) (by decide +kernel) (by decide +kernel)
theorem mML_L_12 : Cond.methodLink RL 12 yX8_init ∈ GG := gg_in (i := 772) (by decide +kernel) (by decide +kernel)
theorem mIM_X8_init : Cond.instanceMethod yX8_init ∈ GG := gg_in (i := 773) (by decide +kernel) (by decide +kernel)
theorem mCO_X8_init : Cond.code yX8_init cX8_init 2 none ∈ GG := gg_in (i := 774) (by decide +kernel) (by decide +kernel)
theorem mML_X8_1 : Cond.methodLink RX8 1 objectInit ∈ GG := gg_in (i := 775) (by decide +kernel) (by decide +kernel)
theorem mFL_X8_7 : Cond.fieldLink RX8 7 "NamedFabricModel" "now" "[I" ∈ GG := gg_in (i := 776) (by decide +kernel) (by decide +kernel)
theorem mFL_X8_13 : Cond.fieldLink RX8 13 "NamedFabricModel" "read" "[I" ∈ GG := gg_in (i := 777) (by decide +kernel) (by decide +kernel)
theorem mFL_X8_16 : Cond.fieldLink RX8 16 "NamedFabricModel" "past" "[I" ∈ GG := gg_in (i := 778) (by decide +kernel) (by decide +kernel)
theorem mFL_X8_41 : Cond.fieldLink RX8 41 "NamedFabricModel" "deeds" "I" ∈ GG := gg_in (i := 779) (by decide +kernel) (by decide +kernel)
theorem mFL_X8_19 : Cond.fieldLink RX8 19 "NamedFabricModel" "images" "[I" ∈ GG := gg_in (i := 780) (by decide +kernel) (by decide +kernel)
theorem mFL_X8_22 : Cond.fieldLink RX8 22 "NamedFabricModel" "isKept" "[Z" ∈ GG := gg_in (i := 781) (by decide +kernel) (by decide +kernel)
theorem mFL_X8_26 : Cond.fieldLink RX8 26 "NamedFabricModel" "text" "[I" ∈ GG := gg_in (i := 782) (by decide +kernel) (by decide +kernel)
theorem mFL_X8_52 : Cond.fieldLink RX8 52 "NamedFabricModel" "letters" "I" ∈ GG := gg_in (i := 783) (by decide +kernel) (by decide +kernel)
theorem mFL_X8_49 : Cond.fieldLink RX8 49 "NamedFabricModel" "at" "I" ∈ GG := gg_in (i := 784) (by decide +kernel) (by decide +kernel)
theorem mFL_X8_62 : Cond.fieldLink RX8 62 "NamedFabricModel" "token" "I" ∈ GG := gg_in (i := 785) (by decide +kernel) (by decide +kernel)
theorem mFL_X8_59 : Cond.fieldLink RX8 59 "NamedFabricModel" "tokenAt" "I" ∈ GG := gg_in (i := 786) (by decide +kernel) (by decide +kernel)
theorem mFL_X8_69 : Cond.fieldLink RX8 69 "NamedFabricModel" "value" "I" ∈ GG := gg_in (i := 787) (by decide +kernel) (by decide +kernel)
theorem mFL_X8_29 : Cond.fieldLink RX8 29 "NamedFabricModel" "facts" "[I" ∈ GG := gg_in (i := 788) (by decide +kernel) (by decide +kernel)
theorem mFL_X8_96 : Cond.fieldLink RX8 96 "NamedFabricModel" "seen" "I" ∈ GG := gg_in (i := 789) (by decide +kernel) (by decide +kernel)
theorem mFL_X8_32 : Cond.fieldLink RX8 32 "NamedFabricModel" "seenAhead" "[I" ∈ GG := gg_in (i := 790) (by decide +kernel) (by decide +kernel)
theorem mFL_X8_187 : Cond.fieldLink RX8 187 "NamedFabricModel" "weakLink" "I" ∈ GG := gg_in (i := 791) (by decide +kernel) (by decide +kernel)
theorem mFL_X8_190 : Cond.fieldLink RX8 190 "NamedFabricModel" "weakTwos" "I" ∈ GG := gg_in (i := 792) (by decide +kernel) (by decide +kernel)
theorem mFL_X8_35 : Cond.fieldLink RX8 35 "NamedFabricModel" "which" "[I" ∈ GG := gg_in (i := 793) (by decide +kernel) (by decide +kernel)
theorem mFL_X8_38 : Cond.fieldLink RX8 38 "NamedFabricModel" "views" "[I" ∈ GG := gg_in (i := 794) (by decide +kernel) (by decide +kernel)
theorem mFL_X8_199 : Cond.fieldLink RX8 199 "NamedFabricModel" "whichMany" "I" ∈ GG := gg_in (i := 795) (by decide +kernel) (by decide +kernel)
theorem mAC_boolean : Cond.arrayClass .boolean ∈ GG := gg_in (i := 837) (by decide +kernel) (by decide +kernel)
theorem mML_L_17 : Cond.methodLink RL 17 yX8_type ∈ GG := gg_in (i := 838) (by decide +kernel) (by decide +kernel)
theorem mIM_X8_type : Cond.instanceMethod yX8_type ∈ GG := gg_in (i := 839) (by decide +kernel) (by decide +kernel)
theorem mSE_X8_type : Cond.selects RX8 yX8_type yX8_type ∈ GG := gg_in (i := 840) (by decide +kernel) (by decide +kernel)
theorem mCO_X8_type : Cond.code yX8_type cX8_type 2 (some .int) ∈ GG := gg_in (i := 841) (by decide +kernel) (by decide +kernel)
theorem mML_X8_55 : Cond.methodLink RX8 55 yX8_in ∈ GG := gg_in (i := 842) (by decide +kernel) (by decide +kernel)
theorem mST_X8_in : Cond.static yX8_in ∈ GG := gg_in (i := 843) (by decide +kernel) (by decide +kernel)
theorem mCO_X8_in : Cond.code yX8_in cX8_in 3 (some .boolean) ∈ GG := gg_in (i := 844) (by decide +kernel) (by decide +kernel)
theorem mML_L_22 : Cond.methodLink RL 22 yX8_clear ∈ GG := gg_in (i := 845) (by decide +kernel) (by decide +kernel)
theorem mIM_X8_clear : Cond.instanceMethod yX8_clear ∈ GG := gg_in (i := 846) (by decide +kernel) (by decide +kernel)
theorem mSE_X8_clear : Cond.selects RX8 yX8_clear yX8_clear ∈ GG := gg_in (i := 847) (by decide +kernel) (by decide +kernel)
theorem mCO_X8_clear : Cond.code yX8_clear cX8_clear 2 (some .int) ∈ GG := gg_in (i := 848) (by decide +kernel) (by decide +kernel)
theorem mML_L_26 : Cond.methodLink RL 26 yX8_tells ∈ GG := gg_in (i := 849) (by decide +kernel) (by decide +kernel)
theorem mIM_X8_tells : Cond.instanceMethod yX8_tells ∈ GG := gg_in (i := 850) (by decide +kernel) (by decide +kernel)
theorem mSE_X8_tells : Cond.selects RX8 yX8_tells yX8_tells ∈ GG := gg_in (i := 851) (by decide +kernel) (by decide +kernel)
theorem mCO_X8_tells : Cond.code yX8_tells cX8_tells 2 (some .int) ∈ GG := gg_in (i := 852) (by decide +kernel) (by decide +kernel)
theorem mML_X8_89 : Cond.methodLink RX8 89 yX8_readText ∈ GG := gg_in (i := 853) (by decide +kernel) (by decide +kernel)
theorem mIM_X8_readText : Cond.instanceMethod yX8_readText ∈ GG := gg_in (i := 855) (by decide +kernel) (by decide +kernel)
theorem mCO_X8_readText : Cond.code yX8_readText cX8_readText 2 (some .int) ∈ GG := gg_in (i := 856) (by decide +kernel) (by decide +kernel)
theorem mML_X8_72 : Cond.methodLink RX8 72 yX8_next ∈ GG := gg_in (i := 857) (by decide +kernel) (by decide +kernel)
theorem mIM_X8_next : Cond.instanceMethod yX8_next ∈ GG := gg_in (i := 859) (by decide +kernel) (by decide +kernel)
theorem mCO_X8_next : Cond.code yX8_next cX8_next 2 none ∈ GG := gg_in (i := 860) (by decide +kernel) (by decide +kernel)
theorem mML_X8_65 : Cond.methodLink RX8 65 yX8_isFigure ∈ GG := gg_in (i := 861) (by decide +kernel) (by decide +kernel)
theorem mIM_X8_isFigure : Cond.instanceMethod yX8_isFigure ∈ GG := gg_in (i := 863) (by decide +kernel) (by decide +kernel)
theorem mCO_X8_isFigure : Cond.code yX8_isFigure cX8_isFigure 1 (some .boolean) ∈ GG := gg_in (i := 864) (by decide +kernel) (by decide +kernel)
theorem mML_X8_83 : Cond.methodLink RX8 83 yX8_readSwitch ∈ GG := gg_in (i := 865) (by decide +kernel) (by decide +kernel)
theorem mIM_X8_readSwitch : Cond.instanceMethod yX8_readSwitch ∈ GG := gg_in (i := 867) (by decide +kernel) (by decide +kernel)
theorem mCO_X8_readSwitch : Cond.code yX8_readSwitch cX8_readSwitch 2 (some .boolean) ∈ GG := gg_in (i := 868) (by decide +kernel) (by decide +kernel)
theorem mML_X8_75 : Cond.methodLink RX8 75 yX8_isNumber ∈ GG := gg_in (i := 869) (by decide +kernel) (by decide +kernel)
theorem mIM_X8_isNumber : Cond.instanceMethod yX8_isNumber ∈ GG := gg_in (i := 871) (by decide +kernel) (by decide +kernel)
theorem mCO_X8_isNumber : Cond.code yX8_isNumber cX8_isNumber 3 (some .boolean) ∈ GG := gg_in (i := 872) (by decide +kernel) (by decide +kernel)
theorem mML_X8_79 : Cond.methodLink RX8 79 yX8_isNamed ∈ GG := gg_in (i := 873) (by decide +kernel) (by decide +kernel)
theorem mIM_X8_isNamed : Cond.instanceMethod yX8_isNamed ∈ GG := gg_in (i := 875) (by decide +kernel) (by decide +kernel)
theorem mCO_X8_isNamed : Cond.code yX8_isNamed cX8_isNamed 4 (some .boolean) ∈ GG := gg_in (i := 876) (by decide +kernel) (by decide +kernel)
theorem mML_X8_86 : Cond.methodLink RX8 86 yX8_readHost ∈ GG := gg_in (i := 877) (by decide +kernel) (by decide +kernel)
theorem mIM_X8_readHost : Cond.instanceMethod yX8_readHost ∈ GG := gg_in (i := 879) (by decide +kernel) (by decide +kernel)
theorem mCO_X8_readHost : Cond.code yX8_readHost cX8_readHost 1 (some .boolean) ∈ GG := gg_in (i := 880) (by decide +kernel) (by decide +kernel)
theorem mML_X8_93 : Cond.methodLink RX8 93 yX8_note ∈ GG := gg_in (i := 881) (by decide +kernel) (by decide +kernel)
theorem mIM_X8_note : Cond.instanceMethod yX8_note ∈ GG := gg_in (i := 883) (by decide +kernel) (by decide +kernel)
theorem mCO_X8_note : Cond.code yX8_note cX8_note 2 none ∈ GG := gg_in (i := 884) (by decide +kernel) (by decide +kernel)
theorem mML_X8_45 : Cond.methodLink RX8 45 yX8_bring ∈ GG := gg_in (i := 885) (by decide +kernel) (by decide +kernel)
theorem mST_X8_bring : Cond.static yX8_bring ∈ GG := gg_in (i := 886) (by decide +kernel) (by decide +kernel)
theorem mCO_X8_bring : Cond.code yX8_bring cX8_bring 5 none ∈ GG := gg_in (i := 887) (by decide +kernel) (by decide +kernel)
theorem mML_L_31 : Cond.methodLink RL 31 yX8_joins ∈ GG := gg_in (i := 888) (by decide +kernel) (by decide +kernel)
theorem mIM_X8_joins : Cond.instanceMethod yX8_joins ∈ GG := gg_in (i := 889) (by decide +kernel) (by decide +kernel)
theorem mSE_X8_joins : Cond.selects RX8 yX8_joins yX8_joins ∈ GG := gg_in (i := 890) (by decide +kernel) (by decide +kernel)
theorem mCO_X8_joins : Cond.code yX8_joins cX8_joins 6 (some .int) ∈ GG := gg_in (i := 891) (by decide +kernel) (by decide +kernel)
theorem mML_X8_152 : Cond.methodLink RX8 152 yX8_areTwo ∈ GG := gg_in (i := 892) (by decide +kernel) (by decide +kernel)
theorem mIM_X8_areTwo : Cond.instanceMethod yX8_areTwo ∈ GG := gg_in (i := 894) (by decide +kernel) (by decide +kernel)
theorem mCO_X8_areTwo : Cond.code yX8_areTwo cX8_areTwo 3 (some .boolean) ∈ GG := gg_in (i := 895) (by decide +kernel) (by decide +kernel)
theorem mML_X8_99 : Cond.methodLink RX8 99 yX8_isSwitch ∈ GG := gg_in (i := 896) (by decide +kernel) (by decide +kernel)
theorem mIM_X8_isSwitch : Cond.instanceMethod yX8_isSwitch ∈ GG := gg_in (i := 898) (by decide +kernel) (by decide +kernel)
theorem mCO_X8_isSwitch : Cond.code yX8_isSwitch cX8_isSwitch 2 (some .boolean) ∈ GG := gg_in (i := 899) (by decide +kernel) (by decide +kernel)
theorem mML_X8_155 : Cond.methodLink RX8 155 yX8_isUp ∈ GG := gg_in (i := 900) (by decide +kernel) (by decide +kernel)
theorem mIM_X8_isUp : Cond.instanceMethod yX8_isUp ∈ GG := gg_in (i := 902) (by decide +kernel) (by decide +kernel)
theorem mCO_X8_isUp : Cond.code yX8_isUp cX8_isUp 3 (some .boolean) ∈ GG := gg_in (i := 903) (by decide +kernel) (by decide +kernel)
theorem mML_X8_102 : Cond.methodLink RX8 102 yX8_has ∈ GG := gg_in (i := 904) (by decide +kernel) (by decide +kernel)
theorem mST_X8_has : Cond.static yX8_has ∈ GG := gg_in (i := 905) (by decide +kernel) (by decide +kernel)
theorem mCO_X8_has : Cond.code yX8_has cX8_has 2 (some .boolean) ∈ GG := gg_in (i := 906) (by decide +kernel) (by decide +kernel)
theorem mML_X8_158 : Cond.methodLink RX8 158 yX8_wouldBe ∈ GG := gg_in (i := 907) (by decide +kernel) (by decide +kernel)
theorem mIM_X8_wouldBe : Cond.instanceMethod yX8_wouldBe ∈ GG := gg_in (i := 909) (by decide +kernel) (by decide +kernel)
theorem mCO_X8_wouldBe : Cond.code yX8_wouldBe cX8_wouldBe 5 (some .int) ∈ GG := gg_in (i := 910) (by decide +kernel) (by decide +kernel)
theorem mML_X8_109 : Cond.methodLink RX8 109 yX8_fabricOf ∈ GG := gg_in (i := 911) (by decide +kernel) (by decide +kernel)
theorem mIM_X8_fabricOf : Cond.instanceMethod yX8_fabricOf ∈ GG := gg_in (i := 913) (by decide +kernel) (by decide +kernel)
theorem mCO_X8_fabricOf : Cond.code yX8_fabricOf cX8_fabricOf 4 (some .int) ∈ GG := gg_in (i := 914) (by decide +kernel) (by decide +kernel)
theorem mML_X8_105 : Cond.methodLink RX8 105 yX8_besides ∈ GG := gg_in (i := 915) (by decide +kernel) (by decide +kernel)
theorem mIM_X8_besides : Cond.instanceMethod yX8_besides ∈ GG := gg_in (i := 917) (by decide +kernel) (by decide +kernel)
theorem mCO_X8_besides : Cond.code yX8_besides cX8_besides 4 (some .int) ∈ GG := gg_in (i := 918) (by decide +kernel) (by decide +kernel)
theorem mML_X8_146 : Cond.methodLink RX8 146 yX8_doZonesClash ∈ GG := gg_in (i := 919) (by decide +kernel) (by decide +kernel)
theorem mIM_X8_doZonesClash : Cond.instanceMethod yX8_doZonesClash ∈ GG := gg_in (i := 921) (by decide +kernel) (by decide +kernel)
theorem mCO_X8_doZonesClash : Cond.code yX8_doZonesClash cX8_doZonesClash 5 (some .boolean) ∈ GG := gg_in (i := 922) (by decide +kernel) (by decide +kernel)
theorem mML_X8_125 : Cond.methodLink RX8 125 yX8_zoneOf ∈ GG := gg_in (i := 923) (by decide +kernel) (by decide +kernel)
theorem mIM_X8_zoneOf : Cond.instanceMethod yX8_zoneOf ∈ GG := gg_in (i := 925) (by decide +kernel) (by decide +kernel)
theorem mCO_X8_zoneOf : Cond.code yX8_zoneOf cX8_zoneOf 3 (some .int) ∈ GG := gg_in (i := 926) (by decide +kernel) (by decide +kernel)
theorem mML_X8_149 : Cond.methodLink RX8 149 yX8_doBlocksClash ∈ GG := gg_in (i := 927) (by decide +kernel) (by decide +kernel)
theorem mIM_X8_doBlocksClash : Cond.instanceMethod yX8_doBlocksClash ∈ GG := gg_in (i := 929) (by decide +kernel) (by decide +kernel)
theorem mCO_X8_doBlocksClash : Cond.code yX8_doBlocksClash cX8_doBlocksClash 3 (some .boolean) ∈ GG := gg_in (i := 930) (by decide +kernel) (by decide +kernel)
theorem mML_X8_128 : Cond.methodLink RX8 128 yX8_blocksOf ∈ GG := gg_in (i := 931) (by decide +kernel) (by decide +kernel)
theorem mIM_X8_blocksOf : Cond.instanceMethod yX8_blocksOf ∈ GG := gg_in (i := 933) (by decide +kernel) (by decide +kernel)
theorem mCO_X8_blocksOf : Cond.code yX8_blocksOf cX8_blocksOf 4 (some .int) ∈ GG := gg_in (i := 934) (by decide +kernel) (by decide +kernel)
theorem mML_X8_115 : Cond.methodLink RX8 115 yX8_of ∈ GG := gg_in (i := 935) (by decide +kernel) (by decide +kernel)
theorem mIM_X8_of : Cond.instanceMethod yX8_of ∈ GG := gg_in (i := 937) (by decide +kernel) (by decide +kernel)
theorem mCO_X8_of : Cond.code yX8_of cX8_of 3 (some .int) ∈ GG := gg_in (i := 938) (by decide +kernel) (by decide +kernel)
theorem mML_X8_161 : Cond.methodLink RX8 161 yX8_putLink ∈ GG := gg_in (i := 939) (by decide +kernel) (by decide +kernel)
theorem mIM_X8_putLink : Cond.instanceMethod yX8_putLink ∈ GG := gg_in (i := 941) (by decide +kernel) (by decide +kernel)
theorem mCO_X8_putLink : Cond.code yX8_putLink cX8_putLink 5 none ∈ GG := gg_in (i := 942) (by decide +kernel) (by decide +kernel)
theorem mML_X8_165 : Cond.methodLink RX8 165 yX8_looks ∈ GG := gg_in (i := 943) (by decide +kernel) (by decide +kernel)
theorem mIM_X8_looks : Cond.instanceMethod yX8_looks ∈ GG := gg_in (i := 945) (by decide +kernel) (by decide +kernel)
theorem mCO_X8_looks : Cond.code yX8_looks cX8_looks 2 none ∈ GG := gg_in (i := 946) (by decide +kernel) (by decide +kernel)
theorem mML_X8_140 : Cond.methodLink RX8 140 yX8_seesOf ∈ GG := gg_in (i := 947) (by decide +kernel) (by decide +kernel)
theorem mIM_X8_seesOf : Cond.instanceMethod yX8_seesOf ∈ GG := gg_in (i := 949) (by decide +kernel) (by decide +kernel)
theorem mCO_X8_seesOf : Cond.code yX8_seesOf cX8_seesOf 4 (some .int) ∈ GG := gg_in (i := 950) (by decide +kernel) (by decide +kernel)
theorem mML_X8_137 : Cond.methodLink RX8 137 yX8_doesSee ∈ GG := gg_in (i := 951) (by decide +kernel) (by decide +kernel)
theorem mIM_X8_doesSee : Cond.instanceMethod yX8_doesSee ∈ GG := gg_in (i := 953) (by decide +kernel) (by decide +kernel)
theorem mCO_X8_doesSee : Cond.code yX8_doesSee cX8_doesSee 5 (some .boolean) ∈ GG := gg_in (i := 954) (by decide +kernel) (by decide +kernel)
theorem mML_X8_134 : Cond.methodLink RX8 134 yX8_areInOne ∈ GG := gg_in (i := 955) (by decide +kernel) (by decide +kernel)
theorem mIM_X8_areInOne : Cond.instanceMethod yX8_areInOne ∈ GG := gg_in (i := 957) (by decide +kernel) (by decide +kernel)
theorem mCO_X8_areInOne : Cond.code yX8_areInOne cX8_areInOne 6 (some .boolean) ∈ GG := gg_in (i := 958) (by decide +kernel) (by decide +kernel)
theorem mML_X8_131 : Cond.methodLink RX8 131 yX8_zonesOf ∈ GG := gg_in (i := 959) (by decide +kernel) (by decide +kernel)
theorem mIM_X8_zonesOf : Cond.instanceMethod yX8_zonesOf ∈ GG := gg_in (i := 961) (by decide +kernel) (by decide +kernel)
theorem mCO_X8_zonesOf : Cond.code yX8_zonesOf cX8_zonesOf 4 (some .int) ∈ GG := gg_in (i := 962) (by decide +kernel) (by decide +kernel)
theorem mML_X8_168 : Cond.methodLink RX8 168 yX8_zoned ∈ GG := gg_in (i := 963) (by decide +kernel) (by decide +kernel)
theorem mIM_X8_zoned : Cond.instanceMethod yX8_zoned ∈ GG := gg_in (i := 965) (by decide +kernel) (by decide +kernel)
theorem mCO_X8_zoned : Cond.code yX8_zoned cX8_zoned 5 none ∈ GG := gg_in (i := 966) (by decide +kernel) (by decide +kernel)
theorem mML_X8_172 : Cond.methodLink RX8 172 yX8_handOut ∈ GG := gg_in (i := 967) (by decide +kernel) (by decide +kernel)
theorem mIM_X8_handOut : Cond.instanceMethod yX8_handOut ∈ GG := gg_in (i := 969) (by decide +kernel) (by decide +kernel)
theorem mCO_X8_handOut : Cond.code yX8_handOut cX8_handOut 8 (some .int) ∈ GG := gg_in (i := 970) (by decide +kernel) (by decide +kernel)
theorem mML_X8_122 : Cond.methodLink RX8 122 yX8_farOf ∈ GG := gg_in (i := 971) (by decide +kernel) (by decide +kernel)
theorem mIM_X8_farOf : Cond.instanceMethod yX8_farOf ∈ GG := gg_in (i := 973) (by decide +kernel) (by decide +kernel)
theorem mCO_X8_farOf : Cond.code yX8_farOf cX8_farOf 4 (some .int) ∈ GG := gg_in (i := 974) (by decide +kernel) (by decide +kernel)
theorem mML_X8_119 : Cond.methodLink RX8 119 yX8_principalOf ∈ GG := gg_in (i := 975) (by decide +kernel) (by decide +kernel)
theorem mIM_X8_principalOf : Cond.instanceMethod yX8_principalOf ∈ GG := gg_in (i := 977) (by decide +kernel) (by decide +kernel)
theorem mCO_X8_principalOf : Cond.code yX8_principalOf cX8_principalOf 5 (some .int) ∈ GG := gg_in (i := 978) (by decide +kernel) (by decide +kernel)
theorem mML_X8_175 : Cond.methodLink RX8 175 yX8_tellNews ∈ GG := gg_in (i := 979) (by decide +kernel) (by decide +kernel)
theorem mIM_X8_tellNews : Cond.instanceMethod yX8_tellNews ∈ GG := gg_in (i := 981) (by decide +kernel) (by decide +kernel)
theorem mCO_X8_tellNews : Cond.code yX8_tellNews cX8_tellNews 3 none ∈ GG := gg_in (i := 982) (by decide +kernel) (by decide +kernel)
theorem mML_L_35 : Cond.methodLink RL 35 yX8_cuts ∈ GG := gg_in (i := 983) (by decide +kernel) (by decide +kernel)
theorem mIM_X8_cuts : Cond.instanceMethod yX8_cuts ∈ GG := gg_in (i := 984) (by decide +kernel) (by decide +kernel)
theorem mSE_X8_cuts : Cond.selects RX8 yX8_cuts yX8_cuts ∈ GG := gg_in (i := 985) (by decide +kernel) (by decide +kernel)
theorem mCO_X8_cuts : Cond.code yX8_cuts cX8_cuts 3 (some .int) ∈ GG := gg_in (i := 986) (by decide +kernel) (by decide +kernel)
theorem mML_X8_178 : Cond.methodLink RX8 178 yX8_fabrics ∈ GG := gg_in (i := 987) (by decide +kernel) (by decide +kernel)
theorem mIM_X8_fabrics : Cond.instanceMethod yX8_fabrics ∈ GG := gg_in (i := 989) (by decide +kernel) (by decide +kernel)
theorem mCO_X8_fabrics : Cond.code yX8_fabrics cX8_fabrics 3 (some .int) ∈ GG := gg_in (i := 990) (by decide +kernel) (by decide +kernel)
theorem mML_X8_112 : Cond.methodLink RX8 112 yX8_isLowest ∈ GG := gg_in (i := 991) (by decide +kernel) (by decide +kernel)
theorem mIM_X8_isLowest : Cond.instanceMethod yX8_isLowest ∈ GG := gg_in (i := 993) (by decide +kernel) (by decide +kernel)
theorem mCO_X8_isLowest : Cond.code yX8_isLowest cX8_isLowest 2 (some .boolean) ∈ GG := gg_in (i := 994) (by decide +kernel) (by decide +kernel)
theorem mML_L_40 : Cond.methodLink RL 40 yX8_zones ∈ GG := gg_in (i := 995) (by decide +kernel) (by decide +kernel)
theorem mIM_X8_zones : Cond.instanceMethod yX8_zones ∈ GG := gg_in (i := 996) (by decide +kernel) (by decide +kernel)
theorem mSE_X8_zones : Cond.selects RX8 yX8_zones yX8_zones ∈ GG := gg_in (i := 997) (by decide +kernel) (by decide +kernel)
theorem mCO_X8_zones : Cond.code yX8_zones cX8_zones 5 (some .int) ∈ GG := gg_in (i := 998) (by decide +kernel) (by decide +kernel)
theorem mML_L_44 : Cond.methodLink RL 44 yX8_moves ∈ GG := gg_in (i := 999) (by decide +kernel) (by decide +kernel)
theorem mIM_X8_moves : Cond.instanceMethod yX8_moves ∈ GG := gg_in (i := 1000) (by decide +kernel) (by decide +kernel)
theorem mSE_X8_moves : Cond.selects RX8 yX8_moves yX8_moves ∈ GG := gg_in (i := 1001) (by decide +kernel) (by decide +kernel)
theorem mCO_X8_moves : Cond.code yX8_moves cX8_moves 4 (some .int) ∈ GG := gg_in (i := 1002) (by decide +kernel) (by decide +kernel)
theorem mML_X8_181 : Cond.methodLink RX8 181 yX8_isHost ∈ GG := gg_in (i := 1003) (by decide +kernel) (by decide +kernel)
theorem mIM_X8_isHost : Cond.instanceMethod yX8_isHost ∈ GG := gg_in (i := 1005) (by decide +kernel) (by decide +kernel)
theorem mCO_X8_isHost : Cond.code yX8_isHost cX8_isHost 2 (some .boolean) ∈ GG := gg_in (i := 1006) (by decide +kernel) (by decide +kernel)
theorem mML_L_48 : Cond.methodLink RL 48 yX8_ranks ∈ GG := gg_in (i := 1007) (by decide +kernel) (by decide +kernel)
theorem mIM_X8_ranks : Cond.instanceMethod yX8_ranks ∈ GG := gg_in (i := 1008) (by decide +kernel) (by decide +kernel)
theorem mSE_X8_ranks : Cond.selects RX8 yX8_ranks yX8_ranks ∈ GG := gg_in (i := 1009) (by decide +kernel) (by decide +kernel)
theorem mCO_X8_ranks : Cond.code yX8_ranks cX8_ranks 4 (some .int) ∈ GG := gg_in (i := 1010) (by decide +kernel) (by decide +kernel)
theorem mML_L_52 : Cond.methodLink RL 52 yX8_renews ∈ GG := gg_in (i := 1011) (by decide +kernel) (by decide +kernel)
theorem mIM_X8_renews : Cond.instanceMethod yX8_renews ∈ GG := gg_in (i := 1012) (by decide +kernel) (by decide +kernel)
theorem mSE_X8_renews : Cond.selects RX8 yX8_renews yX8_renews ∈ GG := gg_in (i := 1013) (by decide +kernel) (by decide +kernel)
theorem mCO_X8_renews : Cond.code yX8_renews cX8_renews 2 (some .int) ∈ GG := gg_in (i := 1014) (by decide +kernel) (by decide +kernel)
theorem mML_L_56 : Cond.methodLink RL 56 yX8_allows ∈ GG := gg_in (i := 1015) (by decide +kernel) (by decide +kernel)
theorem mIM_X8_allows : Cond.instanceMethod yX8_allows ∈ GG := gg_in (i := 1016) (by decide +kernel) (by decide +kernel)
theorem mSE_X8_allows : Cond.selects RX8 yX8_allows yX8_allows ∈ GG := gg_in (i := 1017) (by decide +kernel) (by decide +kernel)
theorem mCO_X8_allows : Cond.code yX8_allows cX8_allows 2 (some .int) ∈ GG := gg_in (i := 1018) (by decide +kernel) (by decide +kernel)
theorem mML_L_60 : Cond.methodLink RL 60 yX8_undo ∈ GG := gg_in (i := 1019) (by decide +kernel) (by decide +kernel)
theorem mIM_X8_undo : Cond.instanceMethod yX8_undo ∈ GG := gg_in (i := 1020) (by decide +kernel) (by decide +kernel)
theorem mSE_X8_undo : Cond.selects RX8 yX8_undo yX8_undo ∈ GG := gg_in (i := 1021) (by decide +kernel) (by decide +kernel)
theorem mCO_X8_undo : Cond.code yX8_undo cX8_undo 1 (some .int) ∈ GG := gg_in (i := 1022) (by decide +kernel) (by decide +kernel)
theorem mML_L_64 : Cond.methodLink RL 64 yX8_device ∈ GG := gg_in (i := 1023) (by decide +kernel) (by decide +kernel)
theorem mIM_X8_device : Cond.instanceMethod yX8_device ∈ GG := gg_in (i := 1024) (by decide +kernel) (by decide +kernel)
theorem mSE_X8_device : Cond.selects RX8 yX8_device yX8_device ∈ GG := gg_in (i := 1025) (by decide +kernel) (by decide +kernel)
theorem mCO_X8_device : Cond.code yX8_device cX8_device 3 (some .int) ∈ GG := gg_in (i := 1026) (by decide +kernel) (by decide +kernel)
theorem mML_X8_184 : Cond.methodLink RX8 184 yX8_hostsAt ∈ GG := gg_in (i := 1027) (by decide +kernel) (by decide +kernel)
theorem mIM_X8_hostsAt : Cond.instanceMethod yX8_hostsAt ∈ GG := gg_in (i := 1029) (by decide +kernel) (by decide +kernel)
theorem mCO_X8_hostsAt : Cond.code yX8_hostsAt cX8_hostsAt 4 (some .int) ∈ GG := gg_in (i := 1030) (by decide +kernel) (by decide +kernel)
theorem mML_L_68 : Cond.methodLink RL 68 yX8_link ∈ GG := gg_in (i := 1031) (by decide +kernel) (by decide +kernel)
theorem mIM_X8_link : Cond.instanceMethod yX8_link ∈ GG := gg_in (i := 1032) (by decide +kernel) (by decide +kernel)
theorem mSE_X8_link : Cond.selects RX8 yX8_link yX8_link ∈ GG := gg_in (i := 1033) (by decide +kernel) (by decide +kernel)
theorem mCO_X8_link : Cond.code yX8_link cX8_link 3 (some .int) ∈ GG := gg_in (i := 1034) (by decide +kernel) (by decide +kernel)
theorem mML_L_72 : Cond.methodLink RL 72 yX8_zone ∈ GG := gg_in (i := 1035) (by decide +kernel) (by decide +kernel)
theorem mIM_X8_zone : Cond.instanceMethod yX8_zone ∈ GG := gg_in (i := 1036) (by decide +kernel) (by decide +kernel)
theorem mSE_X8_zone : Cond.selects RX8 yX8_zone yX8_zone ∈ GG := gg_in (i := 1037) (by decide +kernel) (by decide +kernel)
theorem mCO_X8_zone : Cond.code yX8_zone cX8_zone 3 (some .int) ∈ GG := gg_in (i := 1038) (by decide +kernel) (by decide +kernel)
theorem mML_L_76 : Cond.methodLink RL 76 yX8_host ∈ GG := gg_in (i := 1039) (by decide +kernel) (by decide +kernel)
theorem mIM_X8_host : Cond.instanceMethod yX8_host ∈ GG := gg_in (i := 1040) (by decide +kernel) (by decide +kernel)
theorem mSE_X8_host : Cond.selects RX8 yX8_host yX8_host ∈ GG := gg_in (i := 1041) (by decide +kernel) (by decide +kernel)
theorem mCO_X8_host : Cond.code yX8_host cX8_host 3 (some .int) ∈ GG := gg_in (i := 1042) (by decide +kernel) (by decide +kernel)
theorem mML_L_80 : Cond.methodLink RL 80 yX8_would ∈ GG := gg_in (i := 1043) (by decide +kernel) (by decide +kernel)
theorem mIM_X8_would : Cond.instanceMethod yX8_would ∈ GG := gg_in (i := 1044) (by decide +kernel) (by decide +kernel)
theorem mSE_X8_would : Cond.selects RX8 yX8_would yX8_would ∈ GG := gg_in (i := 1045) (by decide +kernel) (by decide +kernel)
theorem mCO_X8_would : Cond.code yX8_would cX8_would 3 (some .int) ∈ GG := gg_in (i := 1046) (by decide +kernel) (by decide +kernel)
theorem mML_L_84 : Cond.methodLink RL 84 yX8_weakest ∈ GG := gg_in (i := 1047) (by decide +kernel) (by decide +kernel)
theorem mIM_X8_weakest : Cond.instanceMethod yX8_weakest ∈ GG := gg_in (i := 1048) (by decide +kernel) (by decide +kernel)
theorem mSE_X8_weakest : Cond.selects RX8 yX8_weakest yX8_weakest ∈ GG := gg_in (i := 1049) (by decide +kernel) (by decide +kernel)
theorem mCO_X8_weakest : Cond.code yX8_weakest cX8_weakest 2 (some .int) ∈ GG := gg_in (i := 1050) (by decide +kernel) (by decide +kernel)
theorem mML_X8_196 : Cond.methodLink RX8 196 yX8_findWeakest ∈ GG := gg_in (i := 1051) (by decide +kernel) (by decide +kernel)
theorem mIM_X8_findWeakest : Cond.instanceMethod yX8_findWeakest ∈ GG := gg_in (i := 1053) (by decide +kernel) (by decide +kernel)
theorem mCO_X8_findWeakest : Cond.code yX8_findWeakest cX8_findWeakest 5 none ∈ GG := gg_in (i := 1054) (by decide +kernel) (by decide +kernel)
theorem mML_X8_193 : Cond.methodLink RX8 193 yX8_twos ∈ GG := gg_in (i := 1055) (by decide +kernel) (by decide +kernel)
theorem mIM_X8_twos : Cond.instanceMethod yX8_twos ∈ GG := gg_in (i := 1057) (by decide +kernel) (by decide +kernel)
theorem mCO_X8_twos : Cond.code yX8_twos cX8_twos 3 (some .int) ∈ GG := gg_in (i := 1058) (by decide +kernel) (by decide +kernel)
theorem mML_X8_143 : Cond.methodLink RX8 143 yX8_ones ∈ GG := gg_in (i := 1059) (by decide +kernel) (by decide +kernel)
theorem mST_X8_ones : Cond.static yX8_ones ∈ GG := gg_in (i := 1060) (by decide +kernel) (by decide +kernel)
theorem mCO_X8_ones : Cond.code yX8_ones cX8_ones 3 (some .int) ∈ GG := gg_in (i := 1061) (by decide +kernel) (by decide +kernel)
theorem mML_L_88 : Cond.methodLink RL 88 yX8_sees ∈ GG := gg_in (i := 1062) (by decide +kernel) (by decide +kernel)
theorem mIM_X8_sees : Cond.instanceMethod yX8_sees ∈ GG := gg_in (i := 1063) (by decide +kernel) (by decide +kernel)
theorem mSE_X8_sees : Cond.selects RX8 yX8_sees yX8_sees ∈ GG := gg_in (i := 1064) (by decide +kernel) (by decide +kernel)
theorem mCO_X8_sees : Cond.code yX8_sees cX8_sees 4 (some .int) ∈ GG := gg_in (i := 1065) (by decide +kernel) (by decide +kernel)
theorem mML_L_92 : Cond.methodLink RL 92 yX8_forget ∈ GG := gg_in (i := 1066) (by decide +kernel) (by decide +kernel)
theorem mIM_X8_forget : Cond.instanceMethod yX8_forget ∈ GG := gg_in (i := 1067) (by decide +kernel) (by decide +kernel)
theorem mSE_X8_forget : Cond.selects RX8 yX8_forget yX8_forget ∈ GG := gg_in (i := 1068) (by decide +kernel) (by decide +kernel)
theorem mCO_X8_forget : Cond.code yX8_forget cX8_forget 2 (some .int) ∈ GG := gg_in (i := 1069) (by decide +kernel) (by decide +kernel)
theorem mML_L_96 : Cond.methodLink RL 96 yX8_which ∈ GG := gg_in (i := 1070) (by decide +kernel) (by decide +kernel)
theorem mIM_X8_which : Cond.instanceMethod yX8_which ∈ GG := gg_in (i := 1071) (by decide +kernel) (by decide +kernel)
theorem mSE_X8_which : Cond.selects RX8 yX8_which yX8_which ∈ GG := gg_in (i := 1072) (by decide +kernel) (by decide +kernel)
theorem mCO_X8_which : Cond.code yX8_which cX8_which 2 (some .int) ∈ GG := gg_in (i := 1073) (by decide +kernel) (by decide +kernel)
theorem mML_X8_205 : Cond.methodLink RX8 205 yX8_findWhich ∈ GG := gg_in (i := 1074) (by decide +kernel) (by decide +kernel)
theorem mIM_X8_findWhich : Cond.instanceMethod yX8_findWhich ∈ GG := gg_in (i := 1076) (by decide +kernel) (by decide +kernel)
theorem mCO_X8_findWhich : Cond.code yX8_findWhich cX8_findWhich 4 none ∈ GG := gg_in (i := 1077) (by decide +kernel) (by decide +kernel)
theorem mML_X8_202 : Cond.methodLink RX8 202 yX8_isSo ∈ GG := gg_in (i := 1078) (by decide +kernel) (by decide +kernel)
theorem mIM_X8_isSo : Cond.instanceMethod yX8_isSo ∈ GG := gg_in (i := 1080) (by decide +kernel) (by decide +kernel)
theorem mCO_X8_isSo : Cond.code yX8_isSo cX8_isSo 5 (some .boolean) ∈ GG := gg_in (i := 1081) (by decide +kernel) (by decide +kernel)
theorem mML_L_100 : Cond.methodLink RL 100 yX8_ask ∈ GG := gg_in (i := 1082) (by decide +kernel) (by decide +kernel)
theorem mIM_X8_ask : Cond.instanceMethod yX8_ask ∈ GG := gg_in (i := 1083) (by decide +kernel) (by decide +kernel)
theorem mSE_X8_ask : Cond.selects RX8 yX8_ask yX8_ask ∈ GG := gg_in (i := 1084) (by decide +kernel) (by decide +kernel)
theorem mCO_X8_ask : Cond.code yX8_ask cX8_ask 7 (some .int) ∈ GG := gg_in (i := 1085) (by decide +kernel) (by decide +kernel)
theorem mML_L_104 : Cond.methodLink RL 104 yX8_keep ∈ GG := gg_in (i := 1086) (by decide +kernel) (by decide +kernel)
theorem mIM_X8_keep : Cond.instanceMethod yX8_keep ∈ GG := gg_in (i := 1087) (by decide +kernel) (by decide +kernel)
theorem mSE_X8_keep : Cond.selects RX8 yX8_keep yX8_keep ∈ GG := gg_in (i := 1088) (by decide +kernel) (by decide +kernel)
theorem mCO_X8_keep : Cond.code yX8_keep cX8_keep 2 (some .int) ∈ GG := gg_in (i := 1089) (by decide +kernel) (by decide +kernel)
theorem mML_L_108 : Cond.methodLink RL 108 yX8_back ∈ GG := gg_in (i := 1090) (by decide +kernel) (by decide +kernel)
theorem mIM_X8_back : Cond.instanceMethod yX8_back ∈ GG := gg_in (i := 1091) (by decide +kernel) (by decide +kernel)
theorem mSE_X8_back : Cond.selects RX8 yX8_back yX8_back ∈ GG := gg_in (i := 1092) (by decide +kernel) (by decide +kernel)
theorem mCO_X8_back : Cond.code yX8_back cX8_back 2 (some .int) ∈ GG := gg_in (i := 1093) (by decide +kernel) (by decide +kernel)
theorem mML_L_112 : Cond.methodLink RL 112 yX8_count ∈ GG := gg_in (i := 1094) (by decide +kernel) (by decide +kernel)
theorem mIM_X8_count : Cond.instanceMethod yX8_count ∈ GG := gg_in (i := 1095) (by decide +kernel) (by decide +kernel)
theorem mSE_X8_count : Cond.selects RX8 yX8_count yX8_count ∈ GG := gg_in (i := 1096) (by decide +kernel) (by decide +kernel)
theorem mCO_X8_count : Cond.code yX8_count cX8_count 2 (some .int) ∈ GG := gg_in (i := 1097) (by decide +kernel) (by decide +kernel)
theorem mML_X8_208 : Cond.methodLink RX8 208 yX8_sumOf ∈ GG := gg_in (i := 1098) (by decide +kernel) (by decide +kernel)
theorem mIM_X8_sumOf : Cond.instanceMethod yX8_sumOf ∈ GG := gg_in (i := 1100) (by decide +kernel) (by decide +kernel)
theorem mCO_X8_sumOf : Cond.code yX8_sumOf cX8_sumOf 6 (some .int) ∈ GG := gg_in (i := 1101) (by decide +kernel) (by decide +kernel)
theorem mLY_X0 : ∀ w ∈ u_ws RX0 TX0 2, w ∈ GG := gg_all [195, 197] (by decide +kernel) (by decide +kernel)
theorem mLY_X1 : ∀ w ∈ u_ws RX1 TX1 4, w ∈ GG := gg_all [210, 212, 214, 216] (by decide +kernel) (by decide +kernel)
theorem mLY_X2 : ∀ w ∈ u_ws RX2 TX2 3, w ∈ GG := gg_all [178, 180, 182] (by decide +kernel) (by decide +kernel)
theorem mLY_X3 : ∀ w ∈ u_ws RX3 TX3 13, w ∈ GG := gg_all [120, 122, 124, 126, 128, 130, 132, 134, 136, 138, 140, 142, 144] (by decide +kernel) (by decide +kernel)
theorem mLY_X4 : ∀ w ∈ u_ws RX4 TX4 4, w ∈ GG := gg_all [151, 153, 155, 157] (by decide +kernel) (by decide +kernel)
theorem mLY_X5 : ∀ w ∈ u_ws RX5 TX5 2, w ∈ GG := gg_all [89, 91] (by decide +kernel) (by decide +kernel)
theorem mLY_X6 : ∀ w ∈ u_ws RX6 TX6 3, w ∈ GG := gg_all [228, 230, 232] (by decide +kernel) (by decide +kernel)
theorem mLY_X7 : ∀ w ∈ u_ws RX7 TX7 7, w ∈ GG := gg_all [243, 245, 247, 249, 251, 253, 255] (by decide +kernel) (by decide +kernel)
theorem mLY_X8 : ∀ w ∈ u_ws RX8 TX8 20, w ∈ GG := gg_all [796, 798, 800, 802, 804, 806, 808, 810, 812, 814, 816, 818, 820, 822, 824, 826, 828, 830, 832, 834] (by decide +kernel) (by decide +kernel)
end
section
theorem dX0_init_0 : decode cX0_init 0 = .ok (.aload_n 0, 1) := by decide +kernel
theorem dX0_init_1 : decode cX0_init 1 = .ok (.invokespecial 3, 3) := by decide +kernel
theorem dX0_init_4 : decode cX0_init 4 = .ok (.aload_n 0, 1) := by decide +kernel
theorem dX0_init_5 : decode cX0_init 5 = .ok (.iconst 2, 1) := by decide +kernel
theorem dX0_init_6 : decode cX0_init 6 = .ok (.anewarray 9, 3) := by decide +kernel
theorem dX0_init_9 : decode cX0_init 9 = .ok (.putfield 11, 3) := by decide +kernel
theorem dX0_init_12 : decode cX0_init 12 = .ok (.iconst 0, 1) := by decide +kernel
theorem dX0_init_13 : decode cX0_init 13 = .ok (.istore_n 1, 1) := by decide +kernel
theorem dX0_init_14 : decode cX0_init 14 = .ok (.iload_n 1, 1) := by decide +kernel
theorem dX0_init_15 : decode cX0_init 15 = .ok (.iconst 2, 1) := by decide +kernel
theorem dX0_init_16 : decode cX0_init 16 = .ok (.if_icmp .ge 22, 3) := by decide +kernel
theorem dX0_init_19 : decode cX0_init 19 = .ok (.aload_n 0, 1) := by decide +kernel
theorem dX0_init_20 : decode cX0_init 20 = .ok (.getfield 11, 3) := by decide +kernel
theorem dX0_init_23 : decode cX0_init 23 = .ok (.iload_n 1, 1) := by decide +kernel
theorem dX0_init_24 : decode cX0_init 24 = .ok (.new 9, 3) := by decide +kernel
theorem dX0_init_27 : decode cX0_init 27 = .ok (.dup, 1) := by decide +kernel
theorem dX0_init_28 : decode cX0_init 28 = .ok (.invokespecial 17, 3) := by decide +kernel
theorem dX0_init_31 : decode cX0_init 31 = .ok (.aastore, 1) := by decide +kernel
theorem dX0_init_32 : decode cX0_init 32 = .ok (.iinc 1 1, 3) := by decide +kernel
theorem dX0_init_35 : decode cX0_init 35 = .ok (.goto (-21), 3) := by decide +kernel
theorem dX0_init_38 : decode cX0_init 38 = .ok (.return_, 1) := by decide +kernel
theorem dX0_empty_0 : decode cX0_empty 0 = .ok (.aload_n 0, 1) := by decide +kernel
theorem dX0_empty_1 : decode cX0_empty 1 = .ok (.iconst 0, 1) := by decide +kernel
theorem dX0_empty_2 : decode cX0_empty 2 = .ok (.putfield 18, 3) := by decide +kernel
theorem dX0_empty_5 : decode cX0_empty 5 = .ok (.return_, 1) := by decide +kernel
theorem dX0_holds_0 : decode cX0_holds 0 = .ok (.iload_n 1, 1) := by decide +kernel
theorem dX0_holds_1 : decode cX0_holds 1 = .ok (.ifCond .lt 23, 3) := by decide +kernel
theorem dX0_holds_4 : decode cX0_holds 4 = .ok (.iload_n 1, 1) := by decide +kernel
theorem dX0_holds_5 : decode cX0_holds 5 = .ok (.iconst 2, 1) := by decide +kernel
theorem dX0_holds_6 : decode cX0_holds 6 = .ok (.if_icmp .ge 18, 3) := by decide +kernel
theorem dX0_holds_9 : decode cX0_holds 9 = .ok (.aload_n 0, 1) := by decide +kernel
theorem dX0_holds_10 : decode cX0_holds 10 = .ok (.getfield 18, 3) := by decide +kernel
theorem dX0_holds_13 : decode cX0_holds 13 = .ok (.iload_n 1, 1) := by decide +kernel
theorem dX0_holds_14 : decode cX0_holds 14 = .ok (.invokestatic 22, 3) := by decide +kernel
theorem dX0_holds_17 : decode cX0_holds 17 = .ok (.ifCond .eq 7, 3) := by decide +kernel
theorem dX0_holds_20 : decode cX0_holds 20 = .ok (.iconst 1, 1) := by decide +kernel
theorem dX0_holds_21 : decode cX0_holds 21 = .ok (.goto 4, 3) := by decide +kernel
theorem dX0_holds_24 : decode cX0_holds 24 = .ok (.iconst 0, 1) := by decide +kernel
theorem dX0_holds_25 : decode cX0_holds 25 = .ok (.ireturn, 1) := by decide +kernel
theorem dX0_store_0 : decode cX0_store 0 = .ok (.iload_n 1, 1) := by decide +kernel
theorem dX0_store_1 : decode cX0_store 1 = .ok (.ifCond .lt 30, 3) := by decide +kernel
theorem dX0_store_4 : decode cX0_store 4 = .ok (.iload_n 1, 1) := by decide +kernel
theorem dX0_store_5 : decode cX0_store 5 = .ok (.iconst 2, 1) := by decide +kernel
theorem dX0_store_6 : decode cX0_store 6 = .ok (.if_icmp .ge 25, 3) := by decide +kernel
theorem dX0_store_9 : decode cX0_store 9 = .ok (.aload_n 0, 1) := by decide +kernel
theorem dX0_store_10 : decode cX0_store 10 = .ok (.getfield 11, 3) := by decide +kernel
theorem dX0_store_13 : decode cX0_store 13 = .ok (.iload_n 1, 1) := by decide +kernel
theorem dX0_store_14 : decode cX0_store 14 = .ok (.aaload, 1) := by decide +kernel
theorem dX0_store_15 : decode cX0_store 15 = .ok (.aload_n 2, 1) := by decide +kernel
theorem dX0_store_16 : decode cX0_store 16 = .ok (.invokevirtual 26, 3) := by decide +kernel
theorem dX0_store_19 : decode cX0_store 19 = .ok (.aload_n 0, 1) := by decide +kernel
theorem dX0_store_20 : decode cX0_store 20 = .ok (.dup, 1) := by decide +kernel
theorem dX0_store_21 : decode cX0_store 21 = .ok (.getfield 18, 3) := by decide +kernel
theorem dX0_store_24 : decode cX0_store 24 = .ok (.iconst 1, 1) := by decide +kernel
theorem dX0_store_25 : decode cX0_store 25 = .ok (.iload_n 1, 1) := by decide +kernel
theorem dX0_store_26 : decode cX0_store 26 = .ok (.ishl, 1) := by decide +kernel
theorem dX0_store_27 : decode cX0_store 27 = .ok (.ior, 1) := by decide +kernel
theorem dX0_store_28 : decode cX0_store 28 = .ok (.putfield 18, 3) := by decide +kernel
theorem dX0_store_31 : decode cX0_store 31 = .ok (.return_, 1) := by decide +kernel
theorem dX0_restoreTo_0 : decode cX0_restoreTo 0 = .ok (.aload_n 0, 1) := by decide +kernel
theorem dX0_restoreTo_1 : decode cX0_restoreTo 1 = .ok (.iload_n 1, 1) := by decide +kernel
theorem dX0_restoreTo_2 : decode cX0_restoreTo 2 = .ok (.invokevirtual 30, 3) := by decide +kernel
theorem dX0_restoreTo_5 : decode cX0_restoreTo 5 = .ok (.ifCond .eq 13, 3) := by decide +kernel
theorem dX0_restoreTo_8 : decode cX0_restoreTo 8 = .ok (.aload_n 2, 1) := by decide +kernel
theorem dX0_restoreTo_9 : decode cX0_restoreTo 9 = .ok (.aload_n 0, 1) := by decide +kernel
theorem dX0_restoreTo_10 : decode cX0_restoreTo 10 = .ok (.getfield 11, 3) := by decide +kernel
theorem dX0_restoreTo_13 : decode cX0_restoreTo 13 = .ok (.iload_n 1, 1) := by decide +kernel
theorem dX0_restoreTo_14 : decode cX0_restoreTo 14 = .ok (.aaload, 1) := by decide +kernel
theorem dX0_restoreTo_15 : decode cX0_restoreTo 15 = .ok (.invokevirtual 26, 3) := by decide +kernel
theorem dX0_restoreTo_18 : decode cX0_restoreTo 18 = .ok (.return_, 1) := by decide +kernel
theorem dX1_init_0 : decode cX1_init 0 = .ok (.aload_n 0, 1) := by decide +kernel
theorem dX1_init_1 : decode cX1_init 1 = .ok (.invokespecial 3, 3) := by decide +kernel
theorem dX1_init_4 : decode cX1_init 4 = .ok (.return_, 1) := by decide +kernel
theorem dX1_size_0 : decode cX1_size 0 = .ok (.aload_n 0, 1) := by decide +kernel
theorem dX1_size_1 : decode cX1_size 1 = .ok (.getfield 9, 3) := by decide +kernel
theorem dX1_size_4 : decode cX1_size 4 = .ok (.ireturn, 1) := by decide +kernel
theorem dX1_empty_0 : decode cX1_empty 0 = .ok (.aload_n 0, 1) := by decide +kernel
theorem dX1_empty_1 : decode cX1_empty 1 = .ok (.iconst 0, 1) := by decide +kernel
theorem dX1_empty_2 : decode cX1_empty 2 = .ok (.putfield 9, 3) := by decide +kernel
theorem dX1_empty_5 : decode cX1_empty 5 = .ok (.aload_n 0, 1) := by decide +kernel
theorem dX1_empty_6 : decode cX1_empty 6 = .ok (.iconst 0, 1) := by decide +kernel
theorem dX1_empty_7 : decode cX1_empty 7 = .ok (.putfield 15, 3) := by decide +kernel
theorem dX1_empty_10 : decode cX1_empty 10 = .ok (.aload_n 0, 1) := by decide +kernel
theorem dX1_empty_11 : decode cX1_empty 11 = .ok (.lconst 0, 1) := by decide +kernel
theorem dX1_empty_12 : decode cX1_empty 12 = .ok (.putfield 18, 3) := by decide +kernel
theorem dX1_empty_15 : decode cX1_empty 15 = .ok (.aload_n 0, 1) := by decide +kernel
theorem dX1_empty_16 : decode cX1_empty 16 = .ok (.lconst 0, 1) := by decide +kernel
theorem dX1_empty_17 : decode cX1_empty 17 = .ok (.putfield 22, 3) := by decide +kernel
theorem dX1_empty_20 : decode cX1_empty 20 = .ok (.return_, 1) := by decide +kernel
theorem dX1_add_0 : decode cX1_add 0 = .ok (.aload_n 0, 1) := by decide +kernel
theorem dX1_add_1 : decode cX1_add 1 = .ok (.getfield 9, 3) := by decide +kernel
theorem dX1_add_4 : decode cX1_add 4 = .ok (.bipush 6, 2) := by decide +kernel
theorem dX1_add_6 : decode cX1_add 6 = .ok (.if_icmp .lt 5, 3) := by decide +kernel
theorem dX1_add_9 : decode cX1_add 9 = .ok (.iconst 0, 1) := by decide +kernel
theorem dX1_add_10 : decode cX1_add 10 = .ok (.ireturn, 1) := by decide +kernel
theorem dX1_add_11 : decode cX1_add 11 = .ok (.iload_n 3, 1) := by decide +kernel
theorem dX1_add_12 : decode cX1_add 12 = .ok (.ifCond .eq 20, 3) := by decide +kernel
theorem dX1_add_15 : decode cX1_add 15 = .ok (.aload_n 0, 1) := by decide +kernel
theorem dX1_add_16 : decode cX1_add 16 = .ok (.dup, 1) := by decide +kernel
theorem dX1_add_17 : decode cX1_add 17 = .ok (.getfield 18, 3) := by decide +kernel
theorem dX1_add_20 : decode cX1_add 20 = .ok (.iload_n 1, 1) := by decide +kernel
theorem dX1_add_21 : decode cX1_add 21 = .ok (.iload_n 2, 1) := by decide +kernel
theorem dX1_add_22 : decode cX1_add 22 = .ok (.invokestatic 25, 3) := by decide +kernel
theorem dX1_add_25 : decode cX1_add 25 = .ok (.lor, 1) := by decide +kernel
theorem dX1_add_26 : decode cX1_add 26 = .ok (.putfield 18, 3) := by decide +kernel
theorem dX1_add_29 : decode cX1_add 29 = .ok (.goto 17, 3) := by decide +kernel
theorem dX1_add_32 : decode cX1_add 32 = .ok (.aload_n 0, 1) := by decide +kernel
theorem dX1_add_33 : decode cX1_add 33 = .ok (.dup, 1) := by decide +kernel
theorem dX1_add_34 : decode cX1_add 34 = .ok (.getfield 22, 3) := by decide +kernel
theorem dX1_add_37 : decode cX1_add 37 = .ok (.iload_n 1, 1) := by decide +kernel
theorem dX1_add_38 : decode cX1_add 38 = .ok (.iload_n 2, 1) := by decide +kernel
theorem dX1_add_39 : decode cX1_add 39 = .ok (.invokestatic 25, 3) := by decide +kernel
theorem dX1_add_42 : decode cX1_add 42 = .ok (.lor, 1) := by decide +kernel
theorem dX1_add_43 : decode cX1_add 43 = .ok (.putfield 22, 3) := by decide +kernel
theorem dX1_add_46 : decode cX1_add 46 = .ok (.aload_n 0, 1) := by decide +kernel
theorem dX1_add_47 : decode cX1_add 47 = .ok (.dup, 1) := by decide +kernel
theorem dX1_add_48 : decode cX1_add 48 = .ok (.getfield 15, 3) := by decide +kernel
theorem dX1_add_51 : decode cX1_add 51 = .ok (.iconst 1, 1) := by decide +kernel
theorem dX1_add_52 : decode cX1_add 52 = .ok (.iload_n 1, 1) := by decide +kernel
theorem dX1_add_53 : decode cX1_add 53 = .ok (.ishl, 1) := by decide +kernel
theorem dX1_add_54 : decode cX1_add 54 = .ok (.iconst 1, 1) := by decide +kernel
theorem dX1_add_55 : decode cX1_add 55 = .ok (.iload_n 2, 1) := by decide +kernel
theorem dX1_add_56 : decode cX1_add 56 = .ok (.ishl, 1) := by decide +kernel
theorem dX1_add_57 : decode cX1_add 57 = .ok (.ior, 1) := by decide +kernel
theorem dX1_add_58 : decode cX1_add 58 = .ok (.ior, 1) := by decide +kernel
theorem dX1_add_59 : decode cX1_add 59 = .ok (.putfield 15, 3) := by decide +kernel
theorem dX1_add_62 : decode cX1_add 62 = .ok (.aload_n 0, 1) := by decide +kernel
theorem dX1_add_63 : decode cX1_add 63 = .ok (.dup, 1) := by decide +kernel
theorem dX1_add_64 : decode cX1_add 64 = .ok (.getfield 9, 3) := by decide +kernel
theorem dX1_add_67 : decode cX1_add 67 = .ok (.iconst 1, 1) := by decide +kernel
theorem dX1_add_68 : decode cX1_add 68 = .ok (.iadd, 1) := by decide +kernel
theorem dX1_add_69 : decode cX1_add 69 = .ok (.putfield 9, 3) := by decide +kernel
theorem dX1_add_72 : decode cX1_add 72 = .ok (.iconst 1, 1) := by decide +kernel
theorem dX1_add_73 : decode cX1_add 73 = .ok (.ireturn, 1) := by decide +kernel
theorem dX1_fit_0 : decode cX1_fit 0 = .ok (.aload_n 0, 1) := by decide +kernel
theorem dX1_fit_1 : decode cX1_fit 1 = .ok (.getfield 15, 3) := by decide +kernel
theorem dX1_fit_4 : decode cX1_fit 4 = .ok (.iload_n 3, 1) := by decide +kernel
theorem dX1_fit_5 : decode cX1_fit 5 = .ok (.iconst (-1), 1) := by decide +kernel
theorem dX1_fit_6 : decode cX1_fit 6 = .ok (.ixor, 1) := by decide +kernel
theorem dX1_fit_7 : decode cX1_fit 7 = .ok (.iand, 1) := by decide +kernel
theorem dX1_fit_8 : decode cX1_fit 8 = .ok (.ifCond .ne 32, 3) := by decide +kernel
theorem dX1_fit_11 : decode cX1_fit 11 = .ok (.lload_n 1, 1) := by decide +kernel
theorem dX1_fit_12 : decode cX1_fit 12 = .ok (.aload_n 0, 1) := by decide +kernel
theorem dX1_fit_13 : decode cX1_fit 13 = .ok (.getfield 18, 3) := by decide +kernel
theorem dX1_fit_16 : decode cX1_fit 16 = .ok (.land, 1) := by decide +kernel
theorem dX1_fit_17 : decode cX1_fit 17 = .ok (.aload_n 0, 1) := by decide +kernel
theorem dX1_fit_18 : decode cX1_fit 18 = .ok (.getfield 18, 3) := by decide +kernel
theorem dX1_fit_21 : decode cX1_fit 21 = .ok (.lcmp, 1) := by decide +kernel
theorem dX1_fit_22 : decode cX1_fit 22 = .ok (.ifCond .ne 18, 3) := by decide +kernel
theorem dX1_fit_25 : decode cX1_fit 25 = .ok (.lload_n 1, 1) := by decide +kernel
theorem dX1_fit_26 : decode cX1_fit 26 = .ok (.aload_n 0, 1) := by decide +kernel
theorem dX1_fit_27 : decode cX1_fit 27 = .ok (.getfield 22, 3) := by decide +kernel
theorem dX1_fit_30 : decode cX1_fit 30 = .ok (.land, 1) := by decide +kernel
theorem dX1_fit_31 : decode cX1_fit 31 = .ok (.lconst 0, 1) := by decide +kernel
theorem dX1_fit_32 : decode cX1_fit 32 = .ok (.lcmp, 1) := by decide +kernel
theorem dX1_fit_33 : decode cX1_fit 33 = .ok (.ifCond .ne 7, 3) := by decide +kernel
theorem dX1_fit_36 : decode cX1_fit 36 = .ok (.iconst 1, 1) := by decide +kernel
theorem dX1_fit_37 : decode cX1_fit 37 = .ok (.goto 4, 3) := by decide +kernel
theorem dX1_fit_40 : decode cX1_fit 40 = .ok (.iconst 0, 1) := by decide +kernel
theorem dX1_fit_41 : decode cX1_fit 41 = .ok (.ireturn, 1) := by decide +kernel
theorem dX2_init_0 : decode cX2_init 0 = .ok (.aload_n 0, 1) := by decide +kernel
theorem dX2_init_1 : decode cX2_init 1 = .ok (.invokespecial 3, 3) := by decide +kernel
theorem dX2_init_4 : decode cX2_init 4 = .ok (.aload_n 0, 1) := by decide +kernel
theorem dX2_init_5 : decode cX2_init 5 = .ok (.iconst 5, 1) := by decide +kernel
theorem dX2_init_6 : decode cX2_init 6 = .ok (.anewarray 9, 3) := by decide +kernel
theorem dX2_init_9 : decode cX2_init 9 = .ok (.putfield 11, 3) := by decide +kernel
theorem dX2_init_12 : decode cX2_init 12 = .ok (.iconst 0, 1) := by decide +kernel
theorem dX2_init_13 : decode cX2_init 13 = .ok (.istore_n 1, 1) := by decide +kernel
theorem dX2_init_14 : decode cX2_init 14 = .ok (.iload_n 1, 1) := by decide +kernel
theorem dX2_init_15 : decode cX2_init 15 = .ok (.iconst 5, 1) := by decide +kernel
theorem dX2_init_16 : decode cX2_init 16 = .ok (.if_icmp .ge 22, 3) := by decide +kernel
theorem dX2_init_19 : decode cX2_init 19 = .ok (.aload_n 0, 1) := by decide +kernel
theorem dX2_init_20 : decode cX2_init 20 = .ok (.getfield 11, 3) := by decide +kernel
theorem dX2_init_23 : decode cX2_init 23 = .ok (.iload_n 1, 1) := by decide +kernel
theorem dX2_init_24 : decode cX2_init 24 = .ok (.new 9, 3) := by decide +kernel
theorem dX2_init_27 : decode cX2_init 27 = .ok (.dup, 1) := by decide +kernel
theorem dX2_init_28 : decode cX2_init 28 = .ok (.invokespecial 17, 3) := by decide +kernel
theorem dX2_init_31 : decode cX2_init 31 = .ok (.aastore, 1) := by decide +kernel
theorem dX2_init_32 : decode cX2_init 32 = .ok (.iinc 1 1, 3) := by decide +kernel
theorem dX2_init_35 : decode cX2_init 35 = .ok (.goto (-21), 3) := by decide +kernel
theorem dX2_init_38 : decode cX2_init 38 = .ok (.return_, 1) := by decide +kernel
theorem dX2_size_0 : decode cX2_size 0 = .ok (.aload_n 0, 1) := by decide +kernel
theorem dX2_size_1 : decode cX2_size 1 = .ok (.getfield 18, 3) := by decide +kernel
theorem dX2_size_4 : decode cX2_size 4 = .ok (.ireturn, 1) := by decide +kernel
theorem dX2_empty_0 : decode cX2_empty 0 = .ok (.aload_n 0, 1) := by decide +kernel
theorem dX2_empty_1 : decode cX2_empty 1 = .ok (.iconst 0, 1) := by decide +kernel
theorem dX2_empty_2 : decode cX2_empty 2 = .ok (.putfield 18, 3) := by decide +kernel
theorem dX2_empty_5 : decode cX2_empty 5 = .ok (.return_, 1) := by decide +kernel
theorem dX2_remember_0 : decode cX2_remember 0 = .ok (.aload_n 0, 1) := by decide +kernel
theorem dX2_remember_1 : decode cX2_remember 1 = .ok (.getfield 18, 3) := by decide +kernel
theorem dX2_remember_4 : decode cX2_remember 4 = .ok (.iconst 5, 1) := by decide +kernel
theorem dX2_remember_5 : decode cX2_remember 5 = .ok (.if_icmp .ne 25, 3) := by decide +kernel
theorem dX2_remember_8 : decode cX2_remember 8 = .ok (.aload_n 0, 1) := by decide +kernel
theorem dX2_remember_9 : decode cX2_remember 9 = .ok (.aload_n 0, 1) := by decide +kernel
theorem dX2_remember_10 : decode cX2_remember 10 = .ok (.getfield 22, 3) := by decide +kernel
theorem dX2_remember_13 : decode cX2_remember 13 = .ok (.iconst 1, 1) := by decide +kernel
theorem dX2_remember_14 : decode cX2_remember 14 = .ok (.iadd, 1) := by decide +kernel
theorem dX2_remember_15 : decode cX2_remember 15 = .ok (.iconst 5, 1) := by decide +kernel
theorem dX2_remember_16 : decode cX2_remember 16 = .ok (.irem, 1) := by decide +kernel
theorem dX2_remember_17 : decode cX2_remember 17 = .ok (.putfield 22, 3) := by decide +kernel
theorem dX2_remember_20 : decode cX2_remember 20 = .ok (.aload_n 0, 1) := by decide +kernel
theorem dX2_remember_21 : decode cX2_remember 21 = .ok (.dup, 1) := by decide +kernel
theorem dX2_remember_22 : decode cX2_remember 22 = .ok (.getfield 18, 3) := by decide +kernel
theorem dX2_remember_25 : decode cX2_remember 25 = .ok (.iconst 1, 1) := by decide +kernel
theorem dX2_remember_26 : decode cX2_remember 26 = .ok (.isub, 1) := by decide +kernel
theorem dX2_remember_27 : decode cX2_remember 27 = .ok (.putfield 18, 3) := by decide +kernel
theorem dX2_remember_30 : decode cX2_remember 30 = .ok (.aload_n 0, 1) := by decide +kernel
theorem dX2_remember_31 : decode cX2_remember 31 = .ok (.getfield 11, 3) := by decide +kernel
theorem dX2_remember_34 : decode cX2_remember 34 = .ok (.aload_n 0, 1) := by decide +kernel
theorem dX2_remember_35 : decode cX2_remember 35 = .ok (.getfield 22, 3) := by decide +kernel
theorem dX2_remember_38 : decode cX2_remember 38 = .ok (.aload_n 0, 1) := by decide +kernel
theorem dX2_remember_39 : decode cX2_remember 39 = .ok (.getfield 18, 3) := by decide +kernel
theorem dX2_remember_42 : decode cX2_remember 42 = .ok (.iadd, 1) := by decide +kernel
theorem dX2_remember_43 : decode cX2_remember 43 = .ok (.iconst 5, 1) := by decide +kernel
theorem dX2_remember_44 : decode cX2_remember 44 = .ok (.irem, 1) := by decide +kernel
theorem dX2_remember_45 : decode cX2_remember 45 = .ok (.aaload, 1) := by decide +kernel
theorem dX2_remember_46 : decode cX2_remember 46 = .ok (.aload_n 1, 1) := by decide +kernel
theorem dX2_remember_47 : decode cX2_remember 47 = .ok (.invokevirtual 25, 3) := by decide +kernel
theorem dX2_remember_50 : decode cX2_remember 50 = .ok (.aload_n 0, 1) := by decide +kernel
theorem dX2_remember_51 : decode cX2_remember 51 = .ok (.dup, 1) := by decide +kernel
theorem dX2_remember_52 : decode cX2_remember 52 = .ok (.getfield 18, 3) := by decide +kernel
theorem dX2_remember_55 : decode cX2_remember 55 = .ok (.iconst 1, 1) := by decide +kernel
theorem dX2_remember_56 : decode cX2_remember 56 = .ok (.iadd, 1) := by decide +kernel
theorem dX2_remember_57 : decode cX2_remember 57 = .ok (.putfield 18, 3) := by decide +kernel
theorem dX2_remember_60 : decode cX2_remember 60 = .ok (.return_, 1) := by decide +kernel
theorem dX2_restoreTo_0 : decode cX2_restoreTo 0 = .ok (.aload_n 0, 1) := by decide +kernel
theorem dX2_restoreTo_1 : decode cX2_restoreTo 1 = .ok (.getfield 18, 3) := by decide +kernel
theorem dX2_restoreTo_4 : decode cX2_restoreTo 4 = .ok (.ifCond .le 33, 3) := by decide +kernel
theorem dX2_restoreTo_7 : decode cX2_restoreTo 7 = .ok (.aload_n 0, 1) := by decide +kernel
theorem dX2_restoreTo_8 : decode cX2_restoreTo 8 = .ok (.dup, 1) := by decide +kernel
theorem dX2_restoreTo_9 : decode cX2_restoreTo 9 = .ok (.getfield 18, 3) := by decide +kernel
theorem dX2_restoreTo_12 : decode cX2_restoreTo 12 = .ok (.iconst 1, 1) := by decide +kernel
theorem dX2_restoreTo_13 : decode cX2_restoreTo 13 = .ok (.isub, 1) := by decide +kernel
theorem dX2_restoreTo_14 : decode cX2_restoreTo 14 = .ok (.putfield 18, 3) := by decide +kernel
theorem dX2_restoreTo_17 : decode cX2_restoreTo 17 = .ok (.aload_n 1, 1) := by decide +kernel
theorem dX2_restoreTo_18 : decode cX2_restoreTo 18 = .ok (.aload_n 0, 1) := by decide +kernel
theorem dX2_restoreTo_19 : decode cX2_restoreTo 19 = .ok (.getfield 11, 3) := by decide +kernel
theorem dX2_restoreTo_22 : decode cX2_restoreTo 22 = .ok (.aload_n 0, 1) := by decide +kernel
theorem dX2_restoreTo_23 : decode cX2_restoreTo 23 = .ok (.getfield 22, 3) := by decide +kernel
theorem dX2_restoreTo_26 : decode cX2_restoreTo 26 = .ok (.aload_n 0, 1) := by decide +kernel
theorem dX2_restoreTo_27 : decode cX2_restoreTo 27 = .ok (.getfield 18, 3) := by decide +kernel
theorem dX2_restoreTo_30 : decode cX2_restoreTo 30 = .ok (.iadd, 1) := by decide +kernel
theorem dX2_restoreTo_31 : decode cX2_restoreTo 31 = .ok (.iconst 5, 1) := by decide +kernel
theorem dX2_restoreTo_32 : decode cX2_restoreTo 32 = .ok (.irem, 1) := by decide +kernel
theorem dX2_restoreTo_33 : decode cX2_restoreTo 33 = .ok (.aaload, 1) := by decide +kernel
theorem dX2_restoreTo_34 : decode cX2_restoreTo 34 = .ok (.invokevirtual 25, 3) := by decide +kernel
theorem dX2_restoreTo_37 : decode cX2_restoreTo 37 = .ok (.return_, 1) := by decide +kernel
theorem dX4_init_0 : decode cX4_init 0 = .ok (.aload_n 0, 1) := by decide +kernel
theorem dX4_init_1 : decode cX4_init 1 = .ok (.invokespecial 3, 3) := by decide +kernel
theorem dX4_init_4 : decode cX4_init 4 = .ok (.aload_n 0, 1) := by decide +kernel
theorem dX4_init_5 : decode cX4_init 5 = .ok (.new 9, 3) := by decide +kernel
theorem dX4_init_8 : decode cX4_init 8 = .ok (.dup, 1) := by decide +kernel
theorem dX4_init_9 : decode cX4_init 9 = .ok (.invokespecial 11, 3) := by decide +kernel
theorem dX4_init_12 : decode cX4_init 12 = .ok (.putfield 12, 3) := by decide +kernel
theorem dX4_init_15 : decode cX4_init 15 = .ok (.return_, 1) := by decide +kernel
theorem dX4_told_0 : decode cX4_told 0 = .ok (.aload_n 0, 1) := by decide +kernel
theorem dX4_told_1 : decode cX4_told 1 = .ok (.getfield 12, 3) := by decide +kernel
theorem dX4_told_4 : decode cX4_told 4 = .ok (.areturn, 1) := by decide +kernel
theorem dX4_faultOf_0 : decode cX4_faultOf 0 = .ok (.aload_n 0, 1) := by decide +kernel
theorem dX4_faultOf_1 : decode cX4_faultOf 1 = .ok (.getfield 12, 3) := by decide +kernel
theorem dX4_faultOf_4 : decode cX4_faultOf 4 = .ok (.invokevirtual 18, 3) := by decide +kernel
theorem dX4_faultOf_7 : decode cX4_faultOf 7 = .ok (.aload_n 0, 1) := by decide +kernel
theorem dX4_faultOf_8 : decode cX4_faultOf 8 = .ok (.iconst 0, 1) := by decide +kernel
theorem dX4_faultOf_9 : decode cX4_faultOf 9 = .ok (.putfield 21, 3) := by decide +kernel
theorem dX4_faultOf_12 : decode cX4_faultOf 12 = .ok (.aload_n 1, 1) := by decide +kernel
theorem dX4_faultOf_13 : decode cX4_faultOf 13 = .ok (.iconst 0, 1) := by decide +kernel
theorem dX4_faultOf_14 : decode cX4_faultOf 14 = .ok (.invokevirtual 25, 3) := by decide +kernel
theorem dX4_faultOf_17 : decode cX4_faultOf 17 = .ok (.istore_n 2, 1) := by decide +kernel
theorem dX4_faultOf_18 : decode cX4_faultOf 18 = .ok (.iconst 0, 1) := by decide +kernel
theorem dX4_faultOf_19 : decode cX4_faultOf 19 = .ok (.istore_n 3, 1) := by decide +kernel
theorem dX4_faultOf_20 : decode cX4_faultOf 20 = .ok (.iload_n 3, 1) := by decide +kernel
theorem dX4_faultOf_21 : decode cX4_faultOf 21 = .ok (.bipush 100, 2) := by decide +kernel
theorem dX4_faultOf_23 : decode cX4_faultOf 23 = .ok (.if_icmp .ge 52, 3) := by decide +kernel
theorem dX4_faultOf_26 : decode cX4_faultOf 26 = .ok (.iload_n 2, 1) := by decide +kernel
theorem dX4_faultOf_27 : decode cX4_faultOf 27 = .ok (.aload_n 1, 1) := by decide +kernel
theorem dX4_faultOf_28 : decode cX4_faultOf 28 = .ok (.invokevirtual 31, 3) := by decide +kernel
theorem dX4_faultOf_31 : decode cX4_faultOf 31 = .ok (.if_icmp .ge 44, 3) := by decide +kernel
theorem dX4_faultOf_34 : decode cX4_faultOf 34 = .ok (.aload_n 1, 1) := by decide +kernel
theorem dX4_faultOf_35 : decode cX4_faultOf 35 = .ok (.iload_n 2, 1) := by decide +kernel
theorem dX4_faultOf_36 : decode cX4_faultOf 36 = .ok (.invokevirtual 35, 3) := by decide +kernel
theorem dX4_faultOf_39 : decode cX4_faultOf 39 = .ok (.istore 4, 2) := by decide +kernel
theorem dX4_faultOf_41 : decode cX4_faultOf 41 = .ok (.aload_n 0, 1) := by decide +kernel
theorem dX4_faultOf_42 : decode cX4_faultOf 42 = .ok (.aload_n 1, 1) := by decide +kernel
theorem dX4_faultOf_43 : decode cX4_faultOf 43 = .ok (.iload_n 2, 1) := by decide +kernel
theorem dX4_faultOf_44 : decode cX4_faultOf 44 = .ok (.invokevirtual 38, 3) := by decide +kernel
theorem dX4_faultOf_47 : decode cX4_faultOf 47 = .ok (.aload_n 1, 1) := by decide +kernel
theorem dX4_faultOf_48 : decode cX4_faultOf 48 = .ok (.iload_n 2, 1) := by decide +kernel
theorem dX4_faultOf_49 : decode cX4_faultOf 49 = .ok (.iload 4, 2) := by decide +kernel
theorem dX4_faultOf_51 : decode cX4_faultOf 51 = .ok (.invokevirtual 41, 3) := by decide +kernel
theorem dX4_faultOf_54 : decode cX4_faultOf 54 = .ok (.invokevirtual 45, 3) := by decide +kernel
theorem dX4_faultOf_57 : decode cX4_faultOf 57 = .ok (.ifCond .ne 5, 3) := by decide +kernel
theorem dX4_faultOf_60 : decode cX4_faultOf 60 = .ok (.iload_n 2, 1) := by decide +kernel
theorem dX4_faultOf_61 : decode cX4_faultOf 61 = .ok (.ireturn, 1) := by decide +kernel
theorem dX4_faultOf_62 : decode cX4_faultOf 62 = .ok (.aload_n 1, 1) := by decide +kernel
theorem dX4_faultOf_63 : decode cX4_faultOf 63 = .ok (.iload 4, 2) := by decide +kernel
theorem dX4_faultOf_65 : decode cX4_faultOf 65 = .ok (.invokevirtual 25, 3) := by decide +kernel
theorem dX4_faultOf_68 : decode cX4_faultOf 68 = .ok (.istore_n 2, 1) := by decide +kernel
theorem dX4_faultOf_69 : decode cX4_faultOf 69 = .ok (.iinc 3 1, 3) := by decide +kernel
theorem dX4_faultOf_72 : decode cX4_faultOf 72 = .ok (.goto (-52), 3) := by decide +kernel
theorem dX4_faultOf_75 : decode cX4_faultOf 75 = .ok (.aload_n 0, 1) := by decide +kernel
theorem dX4_faultOf_76 : decode cX4_faultOf 76 = .ok (.getfield 21, 3) := by decide +kernel
theorem dX4_faultOf_79 : decode cX4_faultOf 79 = .ok (.ifCond .ne 18, 3) := by decide +kernel
theorem dX4_faultOf_82 : decode cX4_faultOf 82 = .ok (.aload_n 0, 1) := by decide +kernel
theorem dX4_faultOf_83 : decode cX4_faultOf 83 = .ok (.getfield 12, 3) := by decide +kernel
theorem dX4_faultOf_86 : decode cX4_faultOf 86 = .ok (.invokevirtual 49, 3) := by decide +kernel
theorem dX4_faultOf_89 : decode cX4_faultOf 89 = .ok (.ifCond .le 8, 3) := by decide +kernel
theorem dX4_faultOf_92 : decode cX4_faultOf 92 = .ok (.bipush (-9), 2) := by decide +kernel
theorem dX4_faultOf_94 : decode cX4_faultOf 94 = .ok (.goto 7, 3) := by decide +kernel
theorem dX4_faultOf_97 : decode cX4_faultOf 97 = .ok (.aload_n 1, 1) := by decide +kernel
theorem dX4_faultOf_98 : decode cX4_faultOf 98 = .ok (.invokevirtual 31, 3) := by decide +kernel
theorem dX4_faultOf_101 : decode cX4_faultOf 101 = .ok (.ireturn, 1) := by decide +kernel
theorem dX4_takes_0 : decode cX4_takes 0 = .ok (.aload_n 0, 1) := by decide +kernel
theorem dX4_takes_1 : decode cX4_takes 1 = .ok (.getfield 21, 3) := by decide +kernel
theorem dX4_takes_4 : decode cX4_takes 4 = .ok (.tableswitch 67 0 4 #[36, 42, 48, 54, 60], 36) := by decide +kernel
theorem dX4_takes_40 : decode cX4_takes 40 = .ok (.aload_n 0, 1) := by decide +kernel
theorem dX4_takes_41 : decode cX4_takes 41 = .ok (.iload_n 1, 1) := by decide +kernel
theorem dX4_takes_42 : decode cX4_takes 42 = .ok (.invokevirtual 52, 3) := by decide +kernel
theorem dX4_takes_45 : decode cX4_takes 45 = .ok (.ireturn, 1) := by decide +kernel
theorem dX4_takes_46 : decode cX4_takes 46 = .ok (.aload_n 0, 1) := by decide +kernel
theorem dX4_takes_47 : decode cX4_takes 47 = .ok (.iload_n 2, 1) := by decide +kernel
theorem dX4_takes_48 : decode cX4_takes 48 = .ok (.invokevirtual 56, 3) := by decide +kernel
theorem dX4_takes_51 : decode cX4_takes 51 = .ok (.ireturn, 1) := by decide +kernel
theorem dX4_takes_52 : decode cX4_takes 52 = .ok (.aload_n 0, 1) := by decide +kernel
theorem dX4_takes_53 : decode cX4_takes 53 = .ok (.iload_n 2, 1) := by decide +kernel
theorem dX4_takes_54 : decode cX4_takes 54 = .ok (.invokevirtual 59, 3) := by decide +kernel
theorem dX4_takes_57 : decode cX4_takes 57 = .ok (.ireturn, 1) := by decide +kernel
theorem dX4_takes_58 : decode cX4_takes 58 = .ok (.aload_n 0, 1) := by decide +kernel
theorem dX4_takes_59 : decode cX4_takes 59 = .ok (.iload_n 2, 1) := by decide +kernel
theorem dX4_takes_60 : decode cX4_takes 60 = .ok (.invokevirtual 62, 3) := by decide +kernel
theorem dX4_takes_63 : decode cX4_takes 63 = .ok (.ireturn, 1) := by decide +kernel
theorem dX4_takes_64 : decode cX4_takes 64 = .ok (.aload_n 0, 1) := by decide +kernel
theorem dX4_takes_65 : decode cX4_takes 65 = .ok (.iload_n 1, 1) := by decide +kernel
theorem dX4_takes_66 : decode cX4_takes 66 = .ok (.iload_n 2, 1) := by decide +kernel
theorem dX4_takes_67 : decode cX4_takes 67 = .ok (.invokevirtual 65, 3) := by decide +kernel
theorem dX4_takes_70 : decode cX4_takes 70 = .ok (.ireturn, 1) := by decide +kernel
theorem dX4_takes_71 : decode cX4_takes 71 = .ok (.aload_n 0, 1) := by decide +kernel
theorem dX4_takes_72 : decode cX4_takes 72 = .ok (.iconst 0, 1) := by decide +kernel
theorem dX4_takes_73 : decode cX4_takes 73 = .ok (.putfield 21, 3) := by decide +kernel
theorem dX4_takes_76 : decode cX4_takes 76 = .ok (.iload_n 1, 1) := by decide +kernel
theorem dX4_takes_77 : decode cX4_takes 77 = .ok (.bipush 59, 2) := by decide +kernel
theorem dX4_takes_79 : decode cX4_takes 79 = .ok (.if_icmp .ne 7, 3) := by decide +kernel
theorem dX4_takes_82 : decode cX4_takes 82 = .ok (.iconst 1, 1) := by decide +kernel
theorem dX4_takes_83 : decode cX4_takes 83 = .ok (.goto 4, 3) := by decide +kernel
theorem dX4_takes_86 : decode cX4_takes 86 = .ok (.iconst 0, 1) := by decide +kernel
theorem dX4_takes_87 : decode cX4_takes 87 = .ok (.ireturn, 1) := by decide +kernel
theorem dX4_takesItem_0 : decode cX4_takesItem 0 = .ok (.iload_n 1, 1) := by decide +kernel
theorem dX4_takesItem_1 : decode cX4_takesItem 1 = .ok (.bipush 115, 2) := by decide +kernel
theorem dX4_takesItem_3 : decode cX4_takesItem 3 = .ok (.if_icmp .ne 36, 3) := by decide +kernel
theorem dX4_takesItem_6 : decode cX4_takesItem 6 = .ok (.aload_n 0, 1) := by decide +kernel
theorem dX4_takesItem_7 : decode cX4_takesItem 7 = .ok (.iconst 1, 1) := by decide +kernel
theorem dX4_takesItem_8 : decode cX4_takesItem 8 = .ok (.putfield 21, 3) := by decide +kernel
theorem dX4_takesItem_11 : decode cX4_takesItem 11 = .ok (.aload_n 0, 1) := by decide +kernel
theorem dX4_takesItem_12 : decode cX4_takesItem 12 = .ok (.getfield 12, 3) := by decide +kernel
theorem dX4_takesItem_15 : decode cX4_takesItem 15 = .ok (.invokevirtual 68, 3) := by decide +kernel
theorem dX4_takesItem_18 : decode cX4_takesItem 18 = .ok (.ifCond .ne 19, 3) := by decide +kernel
theorem dX4_takesItem_21 : decode cX4_takesItem 21 = .ok (.aload_n 0, 1) := by decide +kernel
theorem dX4_takesItem_22 : decode cX4_takesItem 22 = .ok (.getfield 12, 3) := by decide +kernel
theorem dX4_takesItem_25 : decode cX4_takesItem 25 = .ok (.invokevirtual 49, 3) := by decide +kernel
theorem dX4_takesItem_28 : decode cX4_takesItem 28 = .ok (.bipush 6, 2) := by decide +kernel
theorem dX4_takesItem_30 : decode cX4_takesItem 30 = .ok (.if_icmp .ge 7, 3) := by decide +kernel
theorem dX4_takesItem_33 : decode cX4_takesItem 33 = .ok (.iconst 1, 1) := by decide +kernel
theorem dX4_takesItem_34 : decode cX4_takesItem 34 = .ok (.goto 4, 3) := by decide +kernel
theorem dX4_takesItem_37 : decode cX4_takesItem 37 = .ok (.iconst 0, 1) := by decide +kernel
theorem dX4_takesItem_38 : decode cX4_takesItem 38 = .ok (.ireturn, 1) := by decide +kernel
theorem dX4_takesItem_39 : decode cX4_takesItem 39 = .ok (.aload_n 0, 1) := by decide +kernel
theorem dX4_takesItem_40 : decode cX4_takesItem 40 = .ok (.iconst 4, 1) := by decide +kernel
theorem dX4_takesItem_41 : decode cX4_takesItem 41 = .ok (.putfield 21, 3) := by decide +kernel
theorem dX4_takesItem_44 : decode cX4_takesItem 44 = .ok (.iload_n 1, 1) := by decide +kernel
theorem dX4_takesItem_45 : decode cX4_takesItem 45 = .ok (.bipush 104, 2) := by decide +kernel
theorem dX4_takesItem_47 : decode cX4_takesItem 47 = .ok (.if_icmp .ne 29, 3) := by decide +kernel
theorem dX4_takesItem_50 : decode cX4_takesItem 50 = .ok (.aload_n 0, 1) := by decide +kernel
theorem dX4_takesItem_51 : decode cX4_takesItem 51 = .ok (.getfield 12, 3) := by decide +kernel
theorem dX4_takesItem_54 : decode cX4_takesItem 54 = .ok (.invokevirtual 49, 3) := by decide +kernel
theorem dX4_takesItem_57 : decode cX4_takesItem 57 = .ok (.ifCond .le 19, 3) := by decide +kernel
theorem dX4_takesItem_60 : decode cX4_takesItem 60 = .ok (.aload_n 0, 1) := by decide +kernel
theorem dX4_takesItem_61 : decode cX4_takesItem 61 = .ok (.getfield 12, 3) := by decide +kernel
theorem dX4_takesItem_64 : decode cX4_takesItem 64 = .ok (.invokevirtual 68, 3) := by decide +kernel
theorem dX4_takesItem_67 : decode cX4_takesItem 67 = .ok (.bipush 8, 2) := by decide +kernel
theorem dX4_takesItem_69 : decode cX4_takesItem 69 = .ok (.if_icmp .ge 7, 3) := by decide +kernel
theorem dX4_takesItem_72 : decode cX4_takesItem 72 = .ok (.iconst 1, 1) := by decide +kernel
theorem dX4_takesItem_73 : decode cX4_takesItem 73 = .ok (.goto 4, 3) := by decide +kernel
theorem dX4_takesItem_76 : decode cX4_takesItem 76 = .ok (.iconst 0, 1) := by decide +kernel
theorem dX4_takesItem_77 : decode cX4_takesItem 77 = .ok (.ireturn, 1) := by decide +kernel
theorem dX4_takesPriority_0 : decode cX4_takesPriority 0 = .ok (.aload_n 0, 1) := by decide +kernel
theorem dX4_takesPriority_1 : decode cX4_takesPriority 1 = .ok (.iload_n 1, 1) := by decide +kernel
theorem dX4_takesPriority_2 : decode cX4_takesPriority 2 = .ok (.putfield 71, 3) := by decide +kernel
theorem dX4_takesPriority_5 : decode cX4_takesPriority 5 = .ok (.aload_n 0, 1) := by decide +kernel
theorem dX4_takesPriority_6 : decode cX4_takesPriority 6 = .ok (.iconst 2, 1) := by decide +kernel
theorem dX4_takesPriority_7 : decode cX4_takesPriority 7 = .ok (.putfield 21, 3) := by decide +kernel
theorem dX4_takesPriority_10 : decode cX4_takesPriority 10 = .ok (.iload_n 1, 1) := by decide +kernel
theorem dX4_takesPriority_11 : decode cX4_takesPriority 11 = .ok (.iconst 1, 1) := by decide +kernel
theorem dX4_takesPriority_12 : decode cX4_takesPriority 12 = .ok (.if_icmp .lt 13, 3) := by decide +kernel
theorem dX4_takesPriority_15 : decode cX4_takesPriority 15 = .ok (.iload_n 1, 1) := by decide +kernel
theorem dX4_takesPriority_16 : decode cX4_takesPriority 16 = .ok (.bipush 9, 2) := by decide +kernel
theorem dX4_takesPriority_18 : decode cX4_takesPriority 18 = .ok (.if_icmp .gt 7, 3) := by decide +kernel
theorem dX4_takesPriority_21 : decode cX4_takesPriority 21 = .ok (.iconst 1, 1) := by decide +kernel
theorem dX4_takesPriority_22 : decode cX4_takesPriority 22 = .ok (.goto 4, 3) := by decide +kernel
theorem dX4_takesPriority_25 : decode cX4_takesPriority 25 = .ok (.iconst 0, 1) := by decide +kernel
theorem dX4_takesPriority_26 : decode cX4_takesPriority 26 = .ok (.ireturn, 1) := by decide +kernel
theorem dX4_takesName_0 : decode cX4_takesName 0 = .ok (.aload_n 0, 1) := by decide +kernel
theorem dX4_takesName_1 : decode cX4_takesName 1 = .ok (.iload_n 1, 1) := by decide +kernel
theorem dX4_takesName_2 : decode cX4_takesName 2 = .ok (.putfield 74, 3) := by decide +kernel
theorem dX4_takesName_5 : decode cX4_takesName 5 = .ok (.aload_n 0, 1) := by decide +kernel
theorem dX4_takesName_6 : decode cX4_takesName 6 = .ok (.iconst 3, 1) := by decide +kernel
theorem dX4_takesName_7 : decode cX4_takesName 7 = .ok (.putfield 21, 3) := by decide +kernel
theorem dX4_takesName_10 : decode cX4_takesName 10 = .ok (.iload_n 1, 1) := by decide +kernel
theorem dX4_takesName_11 : decode cX4_takesName 11 = .ok (.ifCond .lt 18, 3) := by decide +kernel
theorem dX4_takesName_14 : decode cX4_takesName 14 = .ok (.aload_n 0, 1) := by decide +kernel
theorem dX4_takesName_15 : decode cX4_takesName 15 = .ok (.getfield 12, 3) := by decide +kernel
theorem dX4_takesName_18 : decode cX4_takesName 18 = .ok (.iload_n 1, 1) := by decide +kernel
theorem dX4_takesName_19 : decode cX4_takesName 19 = .ok (.invokevirtual 77, 3) := by decide +kernel
theorem dX4_takesName_22 : decode cX4_takesName 22 = .ok (.ifCond .ne 7, 3) := by decide +kernel
theorem dX4_takesName_25 : decode cX4_takesName 25 = .ok (.iconst 1, 1) := by decide +kernel
theorem dX4_takesName_26 : decode cX4_takesName 26 = .ok (.goto 4, 3) := by decide +kernel
theorem dX4_takesName_29 : decode cX4_takesName 29 = .ok (.iconst 0, 1) := by decide +kernel
theorem dX4_takesName_30 : decode cX4_takesName 30 = .ok (.ireturn, 1) := by decide +kernel
theorem dX4_takesWant_0 : decode cX4_takesWant 0 = .ok (.iload_n 1, 1) := by decide +kernel
theorem dX4_takesWant_1 : decode cX4_takesWant 1 = .ok (.ifCond .lt 9, 3) := by decide +kernel
theorem dX4_takesWant_4 : decode cX4_takesWant 4 = .ok (.iload_n 1, 1) := by decide +kernel
theorem dX4_takesWant_5 : decode cX4_takesWant 5 = .ok (.bipush 8, 2) := by decide +kernel
theorem dX4_takesWant_7 : decode cX4_takesWant 7 = .ok (.if_icmp .le 5, 3) := by decide +kernel
theorem dX4_takesWant_10 : decode cX4_takesWant 10 = .ok (.iconst 0, 1) := by decide +kernel
theorem dX4_takesWant_11 : decode cX4_takesWant 11 = .ok (.ireturn, 1) := by decide +kernel
theorem dX4_takesWant_12 : decode cX4_takesWant 12 = .ok (.aload_n 0, 1) := by decide +kernel
theorem dX4_takesWant_13 : decode cX4_takesWant 13 = .ok (.getfield 12, 3) := by decide +kernel
theorem dX4_takesWant_16 : decode cX4_takesWant 16 = .ok (.aload_n 0, 1) := by decide +kernel
theorem dX4_takesWant_17 : decode cX4_takesWant 17 = .ok (.getfield 71, 3) := by decide +kernel
theorem dX4_takesWant_20 : decode cX4_takesWant 20 = .ok (.aload_n 0, 1) := by decide +kernel
theorem dX4_takesWant_21 : decode cX4_takesWant 21 = .ok (.getfield 74, 3) := by decide +kernel
theorem dX4_takesWant_24 : decode cX4_takesWant 24 = .ok (.iload_n 1, 1) := by decide +kernel
theorem dX4_takesWant_25 : decode cX4_takesWant 25 = .ok (.invokevirtual 80, 3) := by decide +kernel
theorem dX4_takesWant_28 : decode cX4_takesWant 28 = .ok (.aload_n 0, 1) := by decide +kernel
theorem dX4_takesWant_29 : decode cX4_takesWant 29 = .ok (.iconst 5, 1) := by decide +kernel
theorem dX4_takesWant_30 : decode cX4_takesWant 30 = .ok (.putfield 21, 3) := by decide +kernel
theorem dX4_takesWant_33 : decode cX4_takesWant 33 = .ok (.iconst 1, 1) := by decide +kernel
theorem dX4_takesWant_34 : decode cX4_takesWant 34 = .ok (.ireturn, 1) := by decide +kernel
theorem dX4_takesPlace_0 : decode cX4_takesPlace 0 = .ok (.iload_n 1, 1) := by decide +kernel
theorem dX4_takesPlace_1 : decode cX4_takesPlace 1 = .ok (.bipush 45, 2) := by decide +kernel
theorem dX4_takesPlace_3 : decode cX4_takesPlace 3 = .ok (.if_icmp .eq 16, 3) := by decide +kernel
theorem dX4_takesPlace_6 : decode cX4_takesPlace 6 = .ok (.aload_n 0, 1) := by decide +kernel
theorem dX4_takesPlace_7 : decode cX4_takesPlace 7 = .ok (.getfield 12, 3) := by decide +kernel
theorem dX4_takesPlace_10 : decode cX4_takesPlace 10 = .ok (.iload_n 2, 1) := by decide +kernel
theorem dX4_takesPlace_11 : decode cX4_takesPlace 11 = .ok (.invokevirtual 84, 3) := by decide +kernel
theorem dX4_takesPlace_14 : decode cX4_takesPlace 14 = .ok (.ifCond .ne 5, 3) := by decide +kernel
theorem dX4_takesPlace_17 : decode cX4_takesPlace 17 = .ok (.iconst 0, 1) := by decide +kernel
theorem dX4_takesPlace_18 : decode cX4_takesPlace 18 = .ok (.ireturn, 1) := by decide +kernel
theorem dX4_takesPlace_19 : decode cX4_takesPlace 19 = .ok (.aload_n 0, 1) := by decide +kernel
theorem dX4_takesPlace_20 : decode cX4_takesPlace 20 = .ok (.getfield 12, 3) := by decide +kernel
theorem dX4_takesPlace_23 : decode cX4_takesPlace 23 = .ok (.iload_n 1, 1) := by decide +kernel
theorem dX4_takesPlace_24 : decode cX4_takesPlace 24 = .ok (.bipush 45, 2) := by decide +kernel
theorem dX4_takesPlace_26 : decode cX4_takesPlace 26 = .ok (.if_icmp .ne 8, 3) := by decide +kernel
theorem dX4_takesPlace_29 : decode cX4_takesPlace 29 = .ok (.bipush (-9), 2) := by decide +kernel
theorem dX4_takesPlace_31 : decode cX4_takesPlace 31 = .ok (.goto 4, 3) := by decide +kernel
theorem dX4_takesPlace_34 : decode cX4_takesPlace 34 = .ok (.iload_n 2, 1) := by decide +kernel
theorem dX4_takesPlace_35 : decode cX4_takesPlace 35 = .ok (.invokevirtual 87, 3) := by decide +kernel
theorem dX4_takesPlace_38 : decode cX4_takesPlace 38 = .ok (.aload_n 0, 1) := by decide +kernel
theorem dX4_takesPlace_39 : decode cX4_takesPlace 39 = .ok (.iconst 5, 1) := by decide +kernel
theorem dX4_takesPlace_40 : decode cX4_takesPlace 40 = .ok (.putfield 21, 3) := by decide +kernel
theorem dX4_takesPlace_43 : decode cX4_takesPlace 43 = .ok (.iconst 1, 1) := by decide +kernel
theorem dX4_takesPlace_44 : decode cX4_takesPlace 44 = .ok (.ireturn, 1) := by decide +kernel
theorem dX5_init_0 : decode cX5_init 0 = .ok (.aload_n 0, 1) := by decide +kernel
theorem dX5_init_1 : decode cX5_init 1 = .ok (.invokespecial 3, 3) := by decide +kernel
theorem dX5_init_4 : decode cX5_init 4 = .ok (.aload_n 0, 1) := by decide +kernel
theorem dX5_init_5 : decode cX5_init 5 = .ok (.bipush 100, 2) := by decide +kernel
theorem dX5_init_7 : decode cX5_init 7 = .ok (.newarray .int, 2) := by decide +kernel
theorem dX5_init_9 : decode cX5_init 9 = .ok (.putfield 9, 3) := by decide +kernel
theorem dX5_init_12 : decode cX5_init 12 = .ok (.return_, 1) := by decide +kernel
theorem dX5_add_0 : decode cX5_add 0 = .ok (.aload_n 0, 1) := by decide +kernel
theorem dX5_add_1 : decode cX5_add 1 = .ok (.getfield 15, 3) := by decide +kernel
theorem dX5_add_4 : decode cX5_add 4 = .ok (.bipush 100, 2) := by decide +kernel
theorem dX5_add_6 : decode cX5_add 6 = .ok (.if_icmp .lt 5, 3) := by decide +kernel
theorem dX5_add_9 : decode cX5_add 9 = .ok (.iconst 0, 1) := by decide +kernel
theorem dX5_add_10 : decode cX5_add 10 = .ok (.ireturn, 1) := by decide +kernel
theorem dX5_add_11 : decode cX5_add 11 = .ok (.aload_n 0, 1) := by decide +kernel
theorem dX5_add_12 : decode cX5_add 12 = .ok (.getfield 9, 3) := by decide +kernel
theorem dX5_add_15 : decode cX5_add 15 = .ok (.aload_n 0, 1) := by decide +kernel
theorem dX5_add_16 : decode cX5_add 16 = .ok (.getfield 15, 3) := by decide +kernel
theorem dX5_add_19 : decode cX5_add 19 = .ok (.iload_n 1, 1) := by decide +kernel
theorem dX5_add_20 : decode cX5_add 20 = .ok (.iastore, 1) := by decide +kernel
theorem dX5_add_21 : decode cX5_add 21 = .ok (.aload_n 0, 1) := by decide +kernel
theorem dX5_add_22 : decode cX5_add 22 = .ok (.dup, 1) := by decide +kernel
theorem dX5_add_23 : decode cX5_add 23 = .ok (.getfield 15, 3) := by decide +kernel
theorem dX5_add_26 : decode cX5_add 26 = .ok (.iconst 1, 1) := by decide +kernel
theorem dX5_add_27 : decode cX5_add 27 = .ok (.iadd, 1) := by decide +kernel
theorem dX5_add_28 : decode cX5_add 28 = .ok (.putfield 15, 3) := by decide +kernel
theorem dX5_add_31 : decode cX5_add 31 = .ok (.iconst 1, 1) := by decide +kernel
theorem dX5_add_32 : decode cX5_add 32 = .ok (.ireturn, 1) := by decide +kernel
theorem dX5_empty_0 : decode cX5_empty 0 = .ok (.aload_n 0, 1) := by decide +kernel
theorem dX5_empty_1 : decode cX5_empty 1 = .ok (.iconst 0, 1) := by decide +kernel
theorem dX5_empty_2 : decode cX5_empty 2 = .ok (.putfield 15, 3) := by decide +kernel
theorem dX5_empty_5 : decode cX5_empty 5 = .ok (.return_, 1) := by decide +kernel
theorem dX5_size_0 : decode cX5_size 0 = .ok (.aload_n 0, 1) := by decide +kernel
theorem dX5_size_1 : decode cX5_size 1 = .ok (.getfield 15, 3) := by decide +kernel
theorem dX5_size_4 : decode cX5_size 4 = .ok (.ireturn, 1) := by decide +kernel
theorem dX5_letterAt_0 : decode cX5_letterAt 0 = .ok (.iload_n 1, 1) := by decide +kernel
theorem dX5_letterAt_1 : decode cX5_letterAt 1 = .ok (.ifCond .lt 20, 3) := by decide +kernel
theorem dX5_letterAt_4 : decode cX5_letterAt 4 = .ok (.iload_n 1, 1) := by decide +kernel
theorem dX5_letterAt_5 : decode cX5_letterAt 5 = .ok (.aload_n 0, 1) := by decide +kernel
theorem dX5_letterAt_6 : decode cX5_letterAt 6 = .ok (.getfield 15, 3) := by decide +kernel
theorem dX5_letterAt_9 : decode cX5_letterAt 9 = .ok (.if_icmp .ge 12, 3) := by decide +kernel
theorem dX5_letterAt_12 : decode cX5_letterAt 12 = .ok (.aload_n 0, 1) := by decide +kernel
theorem dX5_letterAt_13 : decode cX5_letterAt 13 = .ok (.getfield 9, 3) := by decide +kernel
theorem dX5_letterAt_16 : decode cX5_letterAt 16 = .ok (.iload_n 1, 1) := by decide +kernel
theorem dX5_letterAt_17 : decode cX5_letterAt 17 = .ok (.iaload, 1) := by decide +kernel
theorem dX5_letterAt_18 : decode cX5_letterAt 18 = .ok (.goto 4, 3) := by decide +kernel
theorem dX5_letterAt_21 : decode cX5_letterAt 21 = .ok (.iconst (-1), 1) := by decide +kernel
theorem dX5_letterAt_22 : decode cX5_letterAt 22 = .ok (.ireturn, 1) := by decide +kernel
theorem dX5_isFigure_0 : decode cX5_isFigure 0 = .ok (.aload_n 0, 1) := by decide +kernel
theorem dX5_isFigure_1 : decode cX5_isFigure 1 = .ok (.iload_n 1, 1) := by decide +kernel
theorem dX5_isFigure_2 : decode cX5_isFigure 2 = .ok (.invokevirtual 19, 3) := by decide +kernel
theorem dX5_isFigure_5 : decode cX5_isFigure 5 = .ok (.bipush 48, 2) := by decide +kernel
theorem dX5_isFigure_7 : decode cX5_isFigure 7 = .ok (.if_icmp .lt 17, 3) := by decide +kernel
theorem dX5_isFigure_10 : decode cX5_isFigure 10 = .ok (.aload_n 0, 1) := by decide +kernel
theorem dX5_isFigure_11 : decode cX5_isFigure 11 = .ok (.iload_n 1, 1) := by decide +kernel
theorem dX5_isFigure_12 : decode cX5_isFigure 12 = .ok (.invokevirtual 19, 3) := by decide +kernel
theorem dX5_isFigure_15 : decode cX5_isFigure 15 = .ok (.bipush 57, 2) := by decide +kernel
theorem dX5_isFigure_17 : decode cX5_isFigure 17 = .ok (.if_icmp .gt 7, 3) := by decide +kernel
theorem dX5_isFigure_20 : decode cX5_isFigure 20 = .ok (.iconst 1, 1) := by decide +kernel
theorem dX5_isFigure_21 : decode cX5_isFigure 21 = .ok (.goto 4, 3) := by decide +kernel
theorem dX5_isFigure_24 : decode cX5_isFigure 24 = .ok (.iconst 0, 1) := by decide +kernel
theorem dX5_isFigure_25 : decode cX5_isFigure 25 = .ok (.ireturn, 1) := by decide +kernel
theorem dX5_skipBlanks_0 : decode cX5_skipBlanks 0 = .ok (.iload_n 1, 1) := by decide +kernel
theorem dX5_skipBlanks_1 : decode cX5_skipBlanks 1 = .ok (.istore_n 2, 1) := by decide +kernel
theorem dX5_skipBlanks_2 : decode cX5_skipBlanks 2 = .ok (.iload_n 2, 1) := by decide +kernel
theorem dX5_skipBlanks_3 : decode cX5_skipBlanks 3 = .ok (.aload_n 0, 1) := by decide +kernel
theorem dX5_skipBlanks_4 : decode cX5_skipBlanks 4 = .ok (.getfield 15, 3) := by decide +kernel
theorem dX5_skipBlanks_7 : decode cX5_skipBlanks 7 = .ok (.if_icmp .ge 19, 3) := by decide +kernel
theorem dX5_skipBlanks_10 : decode cX5_skipBlanks 10 = .ok (.aload_n 0, 1) := by decide +kernel
theorem dX5_skipBlanks_11 : decode cX5_skipBlanks 11 = .ok (.iload_n 2, 1) := by decide +kernel
theorem dX5_skipBlanks_12 : decode cX5_skipBlanks 12 = .ok (.invokevirtual 19, 3) := by decide +kernel
theorem dX5_skipBlanks_15 : decode cX5_skipBlanks 15 = .ok (.bipush 32, 2) := by decide +kernel
theorem dX5_skipBlanks_17 : decode cX5_skipBlanks 17 = .ok (.if_icmp .ne 9, 3) := by decide +kernel
theorem dX5_skipBlanks_20 : decode cX5_skipBlanks 20 = .ok (.iinc 2 1, 3) := by decide +kernel
theorem dX5_skipBlanks_23 : decode cX5_skipBlanks 23 = .ok (.goto (-21), 3) := by decide +kernel
theorem dX5_skipBlanks_26 : decode cX5_skipBlanks 26 = .ok (.iload_n 2, 1) := by decide +kernel
theorem dX5_skipBlanks_27 : decode cX5_skipBlanks 27 = .ok (.ireturn, 1) := by decide +kernel
theorem dX5_tokenEnd_0 : decode cX5_tokenEnd 0 = .ok (.iload_n 1, 1) := by decide +kernel
theorem dX5_tokenEnd_1 : decode cX5_tokenEnd 1 = .ok (.iconst 1, 1) := by decide +kernel
theorem dX5_tokenEnd_2 : decode cX5_tokenEnd 2 = .ok (.iadd, 1) := by decide +kernel
theorem dX5_tokenEnd_3 : decode cX5_tokenEnd 3 = .ok (.istore_n 2, 1) := by decide +kernel
theorem dX5_tokenEnd_4 : decode cX5_tokenEnd 4 = .ok (.aload_n 0, 1) := by decide +kernel
theorem dX5_tokenEnd_5 : decode cX5_tokenEnd 5 = .ok (.iload_n 1, 1) := by decide +kernel
theorem dX5_tokenEnd_6 : decode cX5_tokenEnd 6 = .ok (.invokevirtual 23, 3) := by decide +kernel
theorem dX5_tokenEnd_9 : decode cX5_tokenEnd 9 = .ok (.ifCond .eq 25, 3) := by decide +kernel
theorem dX5_tokenEnd_12 : decode cX5_tokenEnd 12 = .ok (.iload_n 2, 1) := by decide +kernel
theorem dX5_tokenEnd_13 : decode cX5_tokenEnd 13 = .ok (.aload_n 0, 1) := by decide +kernel
theorem dX5_tokenEnd_14 : decode cX5_tokenEnd 14 = .ok (.getfield 15, 3) := by decide +kernel
theorem dX5_tokenEnd_17 : decode cX5_tokenEnd 17 = .ok (.if_icmp .ge 17, 3) := by decide +kernel
theorem dX5_tokenEnd_20 : decode cX5_tokenEnd 20 = .ok (.aload_n 0, 1) := by decide +kernel
theorem dX5_tokenEnd_21 : decode cX5_tokenEnd 21 = .ok (.iload_n 2, 1) := by decide +kernel
theorem dX5_tokenEnd_22 : decode cX5_tokenEnd 22 = .ok (.invokevirtual 23, 3) := by decide +kernel
theorem dX5_tokenEnd_25 : decode cX5_tokenEnd 25 = .ok (.ifCond .eq 9, 3) := by decide +kernel
theorem dX5_tokenEnd_28 : decode cX5_tokenEnd 28 = .ok (.iinc 2 1, 3) := by decide +kernel
theorem dX5_tokenEnd_31 : decode cX5_tokenEnd 31 = .ok (.goto (-19), 3) := by decide +kernel
theorem dX5_tokenEnd_34 : decode cX5_tokenEnd 34 = .ok (.iload_n 2, 1) := by decide +kernel
theorem dX5_tokenEnd_35 : decode cX5_tokenEnd 35 = .ok (.ireturn, 1) := by decide +kernel
theorem dX5_numberAt_0 : decode cX5_numberAt 0 = .ok (.aload_n 0, 1) := by decide +kernel
theorem dX5_numberAt_1 : decode cX5_numberAt 1 = .ok (.iload_n 1, 1) := by decide +kernel
theorem dX5_numberAt_2 : decode cX5_numberAt 2 = .ok (.invokevirtual 23, 3) := by decide +kernel
theorem dX5_numberAt_5 : decode cX5_numberAt 5 = .ok (.ifCond .eq 10, 3) := by decide +kernel
theorem dX5_numberAt_8 : decode cX5_numberAt 8 = .ok (.iload_n 2, 1) := by decide +kernel
theorem dX5_numberAt_9 : decode cX5_numberAt 9 = .ok (.iload_n 1, 1) := by decide +kernel
theorem dX5_numberAt_10 : decode cX5_numberAt 10 = .ok (.isub, 1) := by decide +kernel
theorem dX5_numberAt_11 : decode cX5_numberAt 11 = .ok (.iconst 2, 1) := by decide +kernel
theorem dX5_numberAt_12 : decode cX5_numberAt 12 = .ok (.if_icmp .le 5, 3) := by decide +kernel
theorem dX5_numberAt_15 : decode cX5_numberAt 15 = .ok (.iconst (-1), 1) := by decide +kernel
theorem dX5_numberAt_16 : decode cX5_numberAt 16 = .ok (.ireturn, 1) := by decide +kernel
theorem dX5_numberAt_17 : decode cX5_numberAt 17 = .ok (.aload_n 0, 1) := by decide +kernel
theorem dX5_numberAt_18 : decode cX5_numberAt 18 = .ok (.iload_n 1, 1) := by decide +kernel
theorem dX5_numberAt_19 : decode cX5_numberAt 19 = .ok (.invokevirtual 19, 3) := by decide +kernel
theorem dX5_numberAt_22 : decode cX5_numberAt 22 = .ok (.bipush 48, 2) := by decide +kernel
theorem dX5_numberAt_24 : decode cX5_numberAt 24 = .ok (.isub, 1) := by decide +kernel
theorem dX5_numberAt_25 : decode cX5_numberAt 25 = .ok (.istore_n 3, 1) := by decide +kernel
theorem dX5_numberAt_26 : decode cX5_numberAt 26 = .ok (.iload_n 2, 1) := by decide +kernel
theorem dX5_numberAt_27 : decode cX5_numberAt 27 = .ok (.iload_n 1, 1) := by decide +kernel
theorem dX5_numberAt_28 : decode cX5_numberAt 28 = .ok (.isub, 1) := by decide +kernel
theorem dX5_numberAt_29 : decode cX5_numberAt 29 = .ok (.iconst 1, 1) := by decide +kernel
theorem dX5_numberAt_30 : decode cX5_numberAt 30 = .ok (.if_icmp .ne 5, 3) := by decide +kernel
theorem dX5_numberAt_33 : decode cX5_numberAt 33 = .ok (.iload_n 3, 1) := by decide +kernel
theorem dX5_numberAt_34 : decode cX5_numberAt 34 = .ok (.ireturn, 1) := by decide +kernel
theorem dX5_numberAt_35 : decode cX5_numberAt 35 = .ok (.iload_n 3, 1) := by decide +kernel
theorem dX5_numberAt_36 : decode cX5_numberAt 36 = .ok (.ifCond .ne 7, 3) := by decide +kernel
theorem dX5_numberAt_39 : decode cX5_numberAt 39 = .ok (.iconst (-1), 1) := by decide +kernel
theorem dX5_numberAt_40 : decode cX5_numberAt 40 = .ok (.goto 18, 3) := by decide +kernel
theorem dX5_numberAt_43 : decode cX5_numberAt 43 = .ok (.bipush 10, 2) := by decide +kernel
theorem dX5_numberAt_45 : decode cX5_numberAt 45 = .ok (.iload_n 3, 1) := by decide +kernel
theorem dX5_numberAt_46 : decode cX5_numberAt 46 = .ok (.imul, 1) := by decide +kernel
theorem dX5_numberAt_47 : decode cX5_numberAt 47 = .ok (.aload_n 0, 1) := by decide +kernel
theorem dX5_numberAt_48 : decode cX5_numberAt 48 = .ok (.iload_n 1, 1) := by decide +kernel
theorem dX5_numberAt_49 : decode cX5_numberAt 49 = .ok (.iconst 1, 1) := by decide +kernel
theorem dX5_numberAt_50 : decode cX5_numberAt 50 = .ok (.iadd, 1) := by decide +kernel
theorem dX5_numberAt_51 : decode cX5_numberAt 51 = .ok (.invokevirtual 19, 3) := by decide +kernel
theorem dX5_numberAt_54 : decode cX5_numberAt 54 = .ok (.iadd, 1) := by decide +kernel
theorem dX5_numberAt_55 : decode cX5_numberAt 55 = .ok (.bipush 48, 2) := by decide +kernel
theorem dX5_numberAt_57 : decode cX5_numberAt 57 = .ok (.isub, 1) := by decide +kernel
theorem dX5_numberAt_58 : decode cX5_numberAt 58 = .ok (.ireturn, 1) := by decide +kernel
theorem dX6_init_0 : decode cX6_init 0 = .ok (.aload_n 0, 1) := by decide +kernel
theorem dX6_init_1 : decode cX6_init 1 = .ok (.invokespecial 3, 3) := by decide +kernel
theorem dX6_init_4 : decode cX6_init 4 = .ok (.aload_n 0, 1) := by decide +kernel
theorem dX6_init_5 : decode cX6_init 5 = .ok (.bipush 15, 2) := by decide +kernel
theorem dX6_init_7 : decode cX6_init 7 = .ok (.newarray .int, 2) := by decide +kernel
theorem dX6_init_9 : decode cX6_init 9 = .ok (.putfield 9, 3) := by decide +kernel
theorem dX6_init_12 : decode cX6_init 12 = .ok (.aload_n 0, 1) := by decide +kernel
theorem dX6_init_13 : decode cX6_init 13 = .ok (.bipush 15, 2) := by decide +kernel
theorem dX6_init_15 : decode cX6_init 15 = .ok (.newarray .long, 2) := by decide +kernel
theorem dX6_init_17 : decode cX6_init 17 = .ok (.putfield 15, 3) := by decide +kernel
theorem dX6_init_20 : decode cX6_init 20 = .ok (.return_, 1) := by decide +kernel
theorem dX6_size_0 : decode cX6_size 0 = .ok (.aload_n 0, 1) := by decide +kernel
theorem dX6_size_1 : decode cX6_size 1 = .ok (.getfield 19, 3) := by decide +kernel
theorem dX6_size_4 : decode cX6_size 4 = .ok (.ireturn, 1) := by decide +kernel
theorem dX6_codeAt_0 : decode cX6_codeAt 0 = .ok (.iload_n 1, 1) := by decide +kernel
theorem dX6_codeAt_1 : decode cX6_codeAt 1 = .ok (.ifCond .lt 20, 3) := by decide +kernel
theorem dX6_codeAt_4 : decode cX6_codeAt 4 = .ok (.iload_n 1, 1) := by decide +kernel
theorem dX6_codeAt_5 : decode cX6_codeAt 5 = .ok (.aload_n 0, 1) := by decide +kernel
theorem dX6_codeAt_6 : decode cX6_codeAt 6 = .ok (.getfield 19, 3) := by decide +kernel
theorem dX6_codeAt_9 : decode cX6_codeAt 9 = .ok (.if_icmp .ge 12, 3) := by decide +kernel
theorem dX6_codeAt_12 : decode cX6_codeAt 12 = .ok (.aload_n 0, 1) := by decide +kernel
theorem dX6_codeAt_13 : decode cX6_codeAt 13 = .ok (.getfield 9, 3) := by decide +kernel
theorem dX6_codeAt_16 : decode cX6_codeAt 16 = .ok (.iload_n 1, 1) := by decide +kernel
theorem dX6_codeAt_17 : decode cX6_codeAt 17 = .ok (.iaload, 1) := by decide +kernel
theorem dX6_codeAt_18 : decode cX6_codeAt 18 = .ok (.goto 5, 3) := by decide +kernel
theorem dX6_codeAt_21 : decode cX6_codeAt 21 = .ok (.bipush (-9), 2) := by decide +kernel
theorem dX6_codeAt_23 : decode cX6_codeAt 23 = .ok (.ireturn, 1) := by decide +kernel
theorem dX6_cutEach_0 : decode cX6_cutEach 0 = .ok (.aload_n 0, 1) := by decide +kernel
theorem dX6_cutEach_1 : decode cX6_cutEach 1 = .ok (.iconst 0, 1) := by decide +kernel
theorem dX6_cutEach_2 : decode cX6_cutEach 2 = .ok (.putfield 19, 3) := by decide +kernel
theorem dX6_cutEach_5 : decode cX6_cutEach 5 = .ok (.iconst 0, 1) := by decide +kernel
theorem dX6_cutEach_6 : decode cX6_cutEach 6 = .ok (.istore_n 2, 1) := by decide +kernel
theorem dX6_cutEach_7 : decode cX6_cutEach 7 = .ok (.iload_n 2, 1) := by decide +kernel
theorem dX6_cutEach_8 : decode cX6_cutEach 8 = .ok (.aload_n 1, 1) := by decide +kernel
theorem dX6_cutEach_9 : decode cX6_cutEach 9 = .ok (.invokevirtual 23, 3) := by decide +kernel
theorem dX6_cutEach_12 : decode cX6_cutEach 12 = .ok (.if_icmp .ge 85, 3) := by decide +kernel
theorem dX6_cutEach_15 : decode cX6_cutEach 15 = .ok (.iload_n 2, 1) := by decide +kernel
theorem dX6_cutEach_16 : decode cX6_cutEach 16 = .ok (.iconst 1, 1) := by decide +kernel
theorem dX6_cutEach_17 : decode cX6_cutEach 17 = .ok (.iadd, 1) := by decide +kernel
theorem dX6_cutEach_18 : decode cX6_cutEach 18 = .ok (.istore_n 3, 1) := by decide +kernel
theorem dX6_cutEach_19 : decode cX6_cutEach 19 = .ok (.iload_n 3, 1) := by decide +kernel
theorem dX6_cutEach_20 : decode cX6_cutEach 20 = .ok (.aload_n 1, 1) := by decide +kernel
theorem dX6_cutEach_21 : decode cX6_cutEach 21 = .ok (.invokevirtual 23, 3) := by decide +kernel
theorem dX6_cutEach_24 : decode cX6_cutEach 24 = .ok (.if_icmp .ge 67, 3) := by decide +kernel
theorem dX6_cutEach_27 : decode cX6_cutEach 27 = .ok (.aload_n 1, 1) := by decide +kernel
theorem dX6_cutEach_28 : decode cX6_cutEach 28 = .ok (.iload_n 2, 1) := by decide +kernel
theorem dX6_cutEach_29 : decode cX6_cutEach 29 = .ok (.iload_n 3, 1) := by decide +kernel
theorem dX6_cutEach_30 : decode cX6_cutEach 30 = .ok (.invokevirtual 29, 3) := by decide +kernel
theorem dX6_cutEach_33 : decode cX6_cutEach 33 = .ok (.ifCond .eq 52, 3) := by decide +kernel
theorem dX6_cutEach_36 : decode cX6_cutEach 36 = .ok (.aload_n 0, 1) := by decide +kernel
theorem dX6_cutEach_37 : decode cX6_cutEach 37 = .ok (.getfield 19, 3) := by decide +kernel
theorem dX6_cutEach_40 : decode cX6_cutEach 40 = .ok (.bipush 15, 2) := by decide +kernel
theorem dX6_cutEach_42 : decode cX6_cutEach 42 = .ok (.if_icmp .ge 43, 3) := by decide +kernel
theorem dX6_cutEach_45 : decode cX6_cutEach 45 = .ok (.aload_n 0, 1) := by decide +kernel
theorem dX6_cutEach_46 : decode cX6_cutEach 46 = .ok (.getfield 9, 3) := by decide +kernel
theorem dX6_cutEach_49 : decode cX6_cutEach 49 = .ok (.aload_n 0, 1) := by decide +kernel
theorem dX6_cutEach_50 : decode cX6_cutEach 50 = .ok (.getfield 19, 3) := by decide +kernel
theorem dX6_cutEach_53 : decode cX6_cutEach 53 = .ok (.bipush 10, 2) := by decide +kernel
theorem dX6_cutEach_55 : decode cX6_cutEach 55 = .ok (.iload_n 2, 1) := by decide +kernel
theorem dX6_cutEach_56 : decode cX6_cutEach 56 = .ok (.imul, 1) := by decide +kernel
theorem dX6_cutEach_57 : decode cX6_cutEach 57 = .ok (.iload_n 3, 1) := by decide +kernel
theorem dX6_cutEach_58 : decode cX6_cutEach 58 = .ok (.iadd, 1) := by decide +kernel
theorem dX6_cutEach_59 : decode cX6_cutEach 59 = .ok (.iastore, 1) := by decide +kernel
theorem dX6_cutEach_60 : decode cX6_cutEach 60 = .ok (.aload_n 0, 1) := by decide +kernel
theorem dX6_cutEach_61 : decode cX6_cutEach 61 = .ok (.getfield 15, 3) := by decide +kernel
theorem dX6_cutEach_64 : decode cX6_cutEach 64 = .ok (.aload_n 0, 1) := by decide +kernel
theorem dX6_cutEach_65 : decode cX6_cutEach 65 = .ok (.getfield 19, 3) := by decide +kernel
theorem dX6_cutEach_68 : decode cX6_cutEach 68 = .ok (.aload_n 1, 1) := by decide +kernel
theorem dX6_cutEach_69 : decode cX6_cutEach 69 = .ok (.iload_n 2, 1) := by decide +kernel
theorem dX6_cutEach_70 : decode cX6_cutEach 70 = .ok (.iload_n 3, 1) := by decide +kernel
theorem dX6_cutEach_71 : decode cX6_cutEach 71 = .ok (.invokevirtual 33, 3) := by decide +kernel
theorem dX6_cutEach_74 : decode cX6_cutEach 74 = .ok (.lastore, 1) := by decide +kernel
theorem dX6_cutEach_75 : decode cX6_cutEach 75 = .ok (.aload_n 0, 1) := by decide +kernel
theorem dX6_cutEach_76 : decode cX6_cutEach 76 = .ok (.dup, 1) := by decide +kernel
theorem dX6_cutEach_77 : decode cX6_cutEach 77 = .ok (.getfield 19, 3) := by decide +kernel
theorem dX6_cutEach_80 : decode cX6_cutEach 80 = .ok (.iconst 1, 1) := by decide +kernel
theorem dX6_cutEach_81 : decode cX6_cutEach 81 = .ok (.iadd, 1) := by decide +kernel
theorem dX6_cutEach_82 : decode cX6_cutEach 82 = .ok (.putfield 19, 3) := by decide +kernel
theorem dX6_cutEach_85 : decode cX6_cutEach 85 = .ok (.iinc 3 1, 3) := by decide +kernel
theorem dX6_cutEach_88 : decode cX6_cutEach 88 = .ok (.goto (-69), 3) := by decide +kernel
theorem dX6_cutEach_91 : decode cX6_cutEach 91 = .ok (.iinc 2 1, 3) := by decide +kernel
theorem dX6_cutEach_94 : decode cX6_cutEach 94 = .ok (.goto (-87), 3) := by decide +kernel
theorem dX6_cutEach_97 : decode cX6_cutEach 97 = .ok (.return_, 1) := by decide +kernel
theorem dX6_dropUnfit_0 : decode cX6_dropUnfit 0 = .ok (.iconst 0, 1) := by decide +kernel
theorem dX6_dropUnfit_1 : decode cX6_dropUnfit 1 = .ok (.istore_n 3, 1) := by decide +kernel
theorem dX6_dropUnfit_2 : decode cX6_dropUnfit 2 = .ok (.iconst 0, 1) := by decide +kernel
theorem dX6_dropUnfit_3 : decode cX6_dropUnfit 3 = .ok (.istore 4, 2) := by decide +kernel
theorem dX6_dropUnfit_5 : decode cX6_dropUnfit 5 = .ok (.iload 4, 2) := by decide +kernel
theorem dX6_dropUnfit_7 : decode cX6_dropUnfit 7 = .ok (.aload_n 0, 1) := by decide +kernel
theorem dX6_dropUnfit_8 : decode cX6_dropUnfit 8 = .ok (.getfield 19, 3) := by decide +kernel
theorem dX6_dropUnfit_11 : decode cX6_dropUnfit 11 = .ok (.if_icmp .ge 53, 3) := by decide +kernel
theorem dX6_dropUnfit_14 : decode cX6_dropUnfit 14 = .ok (.aload_n 1, 1) := by decide +kernel
theorem dX6_dropUnfit_15 : decode cX6_dropUnfit 15 = .ok (.aload_n 0, 1) := by decide +kernel
theorem dX6_dropUnfit_16 : decode cX6_dropUnfit 16 = .ok (.getfield 15, 3) := by decide +kernel
theorem dX6_dropUnfit_19 : decode cX6_dropUnfit 19 = .ok (.iload 4, 2) := by decide +kernel
theorem dX6_dropUnfit_21 : decode cX6_dropUnfit 21 = .ok (.laload, 1) := by decide +kernel
theorem dX6_dropUnfit_22 : decode cX6_dropUnfit 22 = .ok (.iload_n 2, 1) := by decide +kernel
theorem dX6_dropUnfit_23 : decode cX6_dropUnfit 23 = .ok (.invokevirtual 37, 3) := by decide +kernel
theorem dX6_dropUnfit_26 : decode cX6_dropUnfit 26 = .ok (.ifCond .eq 32, 3) := by decide +kernel
theorem dX6_dropUnfit_29 : decode cX6_dropUnfit 29 = .ok (.aload_n 0, 1) := by decide +kernel
theorem dX6_dropUnfit_30 : decode cX6_dropUnfit 30 = .ok (.getfield 9, 3) := by decide +kernel
theorem dX6_dropUnfit_33 : decode cX6_dropUnfit 33 = .ok (.iload_n 3, 1) := by decide +kernel
theorem dX6_dropUnfit_34 : decode cX6_dropUnfit 34 = .ok (.aload_n 0, 1) := by decide +kernel
theorem dX6_dropUnfit_35 : decode cX6_dropUnfit 35 = .ok (.getfield 9, 3) := by decide +kernel
theorem dX6_dropUnfit_38 : decode cX6_dropUnfit 38 = .ok (.iload 4, 2) := by decide +kernel
theorem dX6_dropUnfit_40 : decode cX6_dropUnfit 40 = .ok (.iaload, 1) := by decide +kernel
theorem dX6_dropUnfit_41 : decode cX6_dropUnfit 41 = .ok (.iastore, 1) := by decide +kernel
theorem dX6_dropUnfit_42 : decode cX6_dropUnfit 42 = .ok (.aload_n 0, 1) := by decide +kernel
theorem dX6_dropUnfit_43 : decode cX6_dropUnfit 43 = .ok (.getfield 15, 3) := by decide +kernel
theorem dX6_dropUnfit_46 : decode cX6_dropUnfit 46 = .ok (.iload_n 3, 1) := by decide +kernel
theorem dX6_dropUnfit_47 : decode cX6_dropUnfit 47 = .ok (.aload_n 0, 1) := by decide +kernel
theorem dX6_dropUnfit_48 : decode cX6_dropUnfit 48 = .ok (.getfield 15, 3) := by decide +kernel
theorem dX6_dropUnfit_51 : decode cX6_dropUnfit 51 = .ok (.iload 4, 2) := by decide +kernel
theorem dX6_dropUnfit_53 : decode cX6_dropUnfit 53 = .ok (.laload, 1) := by decide +kernel
theorem dX6_dropUnfit_54 : decode cX6_dropUnfit 54 = .ok (.lastore, 1) := by decide +kernel
theorem dX6_dropUnfit_55 : decode cX6_dropUnfit 55 = .ok (.iinc 3 1, 3) := by decide +kernel
theorem dX6_dropUnfit_58 : decode cX6_dropUnfit 58 = .ok (.iinc 4 1, 3) := by decide +kernel
theorem dX6_dropUnfit_61 : decode cX6_dropUnfit 61 = .ok (.goto (-56), 3) := by decide +kernel
theorem dX6_dropUnfit_64 : decode cX6_dropUnfit 64 = .ok (.aload_n 0, 1) := by decide +kernel
theorem dX6_dropUnfit_65 : decode cX6_dropUnfit 65 = .ok (.iload_n 3, 1) := by decide +kernel
theorem dX6_dropUnfit_66 : decode cX6_dropUnfit 66 = .ok (.putfield 19, 3) := by decide +kernel
theorem dX6_dropUnfit_69 : decode cX6_dropUnfit 69 = .ok (.return_, 1) := by decide +kernel
theorem dX6_lostAt_0 : decode cX6_lostAt 0 = .ok (.iload_n 1, 1) := by decide +kernel
theorem dX6_lostAt_1 : decode cX6_lostAt 1 = .ok (.ifCond .lt 29, 3) := by decide +kernel
theorem dX6_lostAt_4 : decode cX6_lostAt 4 = .ok (.iload_n 1, 1) := by decide +kernel
theorem dX6_lostAt_5 : decode cX6_lostAt 5 = .ok (.aload_n 0, 1) := by decide +kernel
theorem dX6_lostAt_6 : decode cX6_lostAt 6 = .ok (.getfield 19, 3) := by decide +kernel
theorem dX6_lostAt_9 : decode cX6_lostAt 9 = .ok (.if_icmp .ge 21, 3) := by decide +kernel
theorem dX6_lostAt_12 : decode cX6_lostAt 12 = .ok (.lload_n 2, 1) := by decide +kernel
theorem dX6_lostAt_13 : decode cX6_lostAt 13 = .ok (.aload_n 0, 1) := by decide +kernel
theorem dX6_lostAt_14 : decode cX6_lostAt 14 = .ok (.getfield 15, 3) := by decide +kernel
theorem dX6_lostAt_17 : decode cX6_lostAt 17 = .ok (.iload_n 1, 1) := by decide +kernel
theorem dX6_lostAt_18 : decode cX6_lostAt 18 = .ok (.laload, 1) := by decide +kernel
theorem dX6_lostAt_19 : decode cX6_lostAt 19 = .ok (.ldc2_w 43, 3) := by decide +kernel
theorem dX6_lostAt_22 : decode cX6_lostAt 22 = .ok (.lxor, 1) := by decide +kernel
theorem dX6_lostAt_23 : decode cX6_lostAt 23 = .ok (.land, 1) := by decide +kernel
theorem dX6_lostAt_24 : decode cX6_lostAt 24 = .ok (.invokestatic 45, 3) := by decide +kernel
theorem dX6_lostAt_27 : decode cX6_lostAt 27 = .ok (.goto 4, 3) := by decide +kernel
theorem dX6_lostAt_30 : decode cX6_lostAt 30 = .ok (.iconst 0, 1) := by decide +kernel
theorem dX6_lostAt_31 : decode cX6_lostAt 31 = .ok (.ireturn, 1) := by decide +kernel
theorem dX6_dearest_0 : decode cX6_dearest 0 = .ok (.iconst 0, 1) := by decide +kernel
theorem dX6_dearest_1 : decode cX6_dearest 1 = .ok (.istore_n 3, 1) := by decide +kernel
theorem dX6_dearest_2 : decode cX6_dearest 2 = .ok (.iconst 1, 1) := by decide +kernel
theorem dX6_dearest_3 : decode cX6_dearest 3 = .ok (.istore 4, 2) := by decide +kernel
theorem dX6_dearest_5 : decode cX6_dearest 5 = .ok (.iload 4, 2) := by decide +kernel
theorem dX6_dearest_7 : decode cX6_dearest 7 = .ok (.aload_n 0, 1) := by decide +kernel
theorem dX6_dearest_8 : decode cX6_dearest 8 = .ok (.getfield 19, 3) := by decide +kernel
theorem dX6_dearest_11 : decode cX6_dearest 11 = .ok (.if_icmp .ge 28, 3) := by decide +kernel
theorem dX6_dearest_14 : decode cX6_dearest 14 = .ok (.aload_n 0, 1) := by decide +kernel
theorem dX6_dearest_15 : decode cX6_dearest 15 = .ok (.iload 4, 2) := by decide +kernel
theorem dX6_dearest_17 : decode cX6_dearest 17 = .ok (.lload_n 1, 1) := by decide +kernel
theorem dX6_dearest_18 : decode cX6_dearest 18 = .ok (.invokevirtual 49, 3) := by decide +kernel
theorem dX6_dearest_21 : decode cX6_dearest 21 = .ok (.aload_n 0, 1) := by decide +kernel
theorem dX6_dearest_22 : decode cX6_dearest 22 = .ok (.iload_n 3, 1) := by decide +kernel
theorem dX6_dearest_23 : decode cX6_dearest 23 = .ok (.lload_n 1, 1) := by decide +kernel
theorem dX6_dearest_24 : decode cX6_dearest 24 = .ok (.invokevirtual 49, 3) := by decide +kernel
theorem dX6_dearest_27 : decode cX6_dearest 27 = .ok (.if_icmp .le 6, 3) := by decide +kernel
theorem dX6_dearest_30 : decode cX6_dearest 30 = .ok (.iload 4, 2) := by decide +kernel
theorem dX6_dearest_32 : decode cX6_dearest 32 = .ok (.istore_n 3, 1) := by decide +kernel
theorem dX6_dearest_33 : decode cX6_dearest 33 = .ok (.iinc 4 1, 3) := by decide +kernel
theorem dX6_dearest_36 : decode cX6_dearest 36 = .ok (.goto (-31), 3) := by decide +kernel
theorem dX6_dearest_39 : decode cX6_dearest 39 = .ok (.iload_n 3, 1) := by decide +kernel
theorem dX6_dearest_40 : decode cX6_dearest 40 = .ok (.ireturn, 1) := by decide +kernel
theorem dX6_bestQuestion_0 : decode cX6_bestQuestion 0 = .ok (.bipush (-9), 2) := by decide +kernel
theorem dX6_bestQuestion_2 : decode cX6_bestQuestion 2 = .ok (.istore_n 2, 1) := by decide +kernel
theorem dX6_bestQuestion_3 : decode cX6_bestQuestion 3 = .ok (.aload_n 0, 1) := by decide +kernel
theorem dX6_bestQuestion_4 : decode cX6_bestQuestion 4 = .ok (.getfield 19, 3) := by decide +kernel
theorem dX6_bestQuestion_7 : decode cX6_bestQuestion 7 = .ok (.iconst 1, 1) := by decide +kernel
theorem dX6_bestQuestion_8 : decode cX6_bestQuestion 8 = .ok (.iadd, 1) := by decide +kernel
theorem dX6_bestQuestion_9 : decode cX6_bestQuestion 9 = .ok (.istore_n 3, 1) := by decide +kernel
theorem dX6_bestQuestion_10 : decode cX6_bestQuestion 10 = .ok (.iconst 0, 1) := by decide +kernel
theorem dX6_bestQuestion_11 : decode cX6_bestQuestion 11 = .ok (.istore 4, 2) := by decide +kernel
theorem dX6_bestQuestion_13 : decode cX6_bestQuestion 13 = .ok (.iload 4, 2) := by decide +kernel
theorem dX6_bestQuestion_15 : decode cX6_bestQuestion 15 = .ok (.iload_n 1, 1) := by decide +kernel
theorem dX6_bestQuestion_16 : decode cX6_bestQuestion 16 = .ok (.if_icmp .ge 58, 3) := by decide +kernel
theorem dX6_bestQuestion_19 : decode cX6_bestQuestion 19 = .ok (.iload 4, 2) := by decide +kernel
theorem dX6_bestQuestion_21 : decode cX6_bestQuestion 21 = .ok (.iconst 1, 1) := by decide +kernel
theorem dX6_bestQuestion_22 : decode cX6_bestQuestion 22 = .ok (.iadd, 1) := by decide +kernel
theorem dX6_bestQuestion_23 : decode cX6_bestQuestion 23 = .ok (.istore 5, 2) := by decide +kernel
theorem dX6_bestQuestion_25 : decode cX6_bestQuestion 25 = .ok (.iload 5, 2) := by decide +kernel
theorem dX6_bestQuestion_27 : decode cX6_bestQuestion 27 = .ok (.iload_n 1, 1) := by decide +kernel
theorem dX6_bestQuestion_28 : decode cX6_bestQuestion 28 = .ok (.if_icmp .ge 40, 3) := by decide +kernel
theorem dX6_bestQuestion_31 : decode cX6_bestQuestion 31 = .ok (.aload_n 0, 1) := by decide +kernel
theorem dX6_bestQuestion_32 : decode cX6_bestQuestion 32 = .ok (.iload 4, 2) := by decide +kernel
theorem dX6_bestQuestion_34 : decode cX6_bestQuestion 34 = .ok (.iload 5, 2) := by decide +kernel
theorem dX6_bestQuestion_36 : decode cX6_bestQuestion 36 = .ok (.invokestatic 53, 3) := by decide +kernel
theorem dX6_bestQuestion_39 : decode cX6_bestQuestion 39 = .ok (.invokevirtual 56, 3) := by decide +kernel
theorem dX6_bestQuestion_42 : decode cX6_bestQuestion 42 = .ok (.istore 6, 2) := by decide +kernel
theorem dX6_bestQuestion_44 : decode cX6_bestQuestion 44 = .ok (.iload 6, 2) := by decide +kernel
theorem dX6_bestQuestion_46 : decode cX6_bestQuestion 46 = .ok (.iload_n 3, 1) := by decide +kernel
theorem dX6_bestQuestion_47 : decode cX6_bestQuestion 47 = .ok (.if_icmp .ge 15, 3) := by decide +kernel
theorem dX6_bestQuestion_50 : decode cX6_bestQuestion 50 = .ok (.iload 6, 2) := by decide +kernel
theorem dX6_bestQuestion_52 : decode cX6_bestQuestion 52 = .ok (.istore_n 3, 1) := by decide +kernel
theorem dX6_bestQuestion_53 : decode cX6_bestQuestion 53 = .ok (.bipush 10, 2) := by decide +kernel
theorem dX6_bestQuestion_55 : decode cX6_bestQuestion 55 = .ok (.iload 4, 2) := by decide +kernel
theorem dX6_bestQuestion_57 : decode cX6_bestQuestion 57 = .ok (.imul, 1) := by decide +kernel
theorem dX6_bestQuestion_58 : decode cX6_bestQuestion 58 = .ok (.iload 5, 2) := by decide +kernel
theorem dX6_bestQuestion_60 : decode cX6_bestQuestion 60 = .ok (.iadd, 1) := by decide +kernel
theorem dX6_bestQuestion_61 : decode cX6_bestQuestion 61 = .ok (.istore_n 2, 1) := by decide +kernel
theorem dX6_bestQuestion_62 : decode cX6_bestQuestion 62 = .ok (.iinc 5 1, 3) := by decide +kernel
theorem dX6_bestQuestion_65 : decode cX6_bestQuestion 65 = .ok (.goto (-40), 3) := by decide +kernel
theorem dX6_bestQuestion_68 : decode cX6_bestQuestion 68 = .ok (.iinc 4 1, 3) := by decide +kernel
theorem dX6_bestQuestion_71 : decode cX6_bestQuestion 71 = .ok (.goto (-58), 3) := by decide +kernel
theorem dX6_bestQuestion_74 : decode cX6_bestQuestion 74 = .ok (.iload_n 2, 1) := by decide +kernel
theorem dX6_bestQuestion_75 : decode cX6_bestQuestion 75 = .ok (.ireturn, 1) := by decide +kernel
theorem dX6_mostAlike_0 : decode cX6_mostAlike 0 = .ok (.iconst 0, 1) := by decide +kernel
theorem dX6_mostAlike_1 : decode cX6_mostAlike 1 = .ok (.istore_n 3, 1) := by decide +kernel
theorem dX6_mostAlike_2 : decode cX6_mostAlike 2 = .ok (.iconst 0, 1) := by decide +kernel
theorem dX6_mostAlike_3 : decode cX6_mostAlike 3 = .ok (.istore 4, 2) := by decide +kernel
theorem dX6_mostAlike_5 : decode cX6_mostAlike 5 = .ok (.iload 4, 2) := by decide +kernel
theorem dX6_mostAlike_7 : decode cX6_mostAlike 7 = .ok (.aload_n 0, 1) := by decide +kernel
theorem dX6_mostAlike_8 : decode cX6_mostAlike 8 = .ok (.getfield 19, 3) := by decide +kernel
theorem dX6_mostAlike_11 : decode cX6_mostAlike 11 = .ok (.if_icmp .ge 26, 3) := by decide +kernel
theorem dX6_mostAlike_14 : decode cX6_mostAlike 14 = .ok (.aload_n 0, 1) := by decide +kernel
theorem dX6_mostAlike_15 : decode cX6_mostAlike 15 = .ok (.getfield 15, 3) := by decide +kernel
theorem dX6_mostAlike_18 : decode cX6_mostAlike 18 = .ok (.iload 4, 2) := by decide +kernel
theorem dX6_mostAlike_20 : decode cX6_mostAlike 20 = .ok (.laload, 1) := by decide +kernel
theorem dX6_mostAlike_21 : decode cX6_mostAlike 21 = .ok (.lload_n 1, 1) := by decide +kernel
theorem dX6_mostAlike_22 : decode cX6_mostAlike 22 = .ok (.land, 1) := by decide +kernel
theorem dX6_mostAlike_23 : decode cX6_mostAlike 23 = .ok (.lconst 0, 1) := by decide +kernel
theorem dX6_mostAlike_24 : decode cX6_mostAlike 24 = .ok (.lcmp, 1) := by decide +kernel
theorem dX6_mostAlike_25 : decode cX6_mostAlike 25 = .ok (.ifCond .eq 6, 3) := by decide +kernel
theorem dX6_mostAlike_28 : decode cX6_mostAlike 28 = .ok (.iinc 3 1, 3) := by decide +kernel
theorem dX6_mostAlike_31 : decode cX6_mostAlike 31 = .ok (.iinc 4 1, 3) := by decide +kernel
theorem dX6_mostAlike_34 : decode cX6_mostAlike 34 = .ok (.goto (-29), 3) := by decide +kernel
theorem dX6_mostAlike_37 : decode cX6_mostAlike 37 = .ok (.iload_n 3, 1) := by decide +kernel
theorem dX6_mostAlike_38 : decode cX6_mostAlike 38 = .ok (.aload_n 0, 1) := by decide +kernel
theorem dX6_mostAlike_39 : decode cX6_mostAlike 39 = .ok (.getfield 19, 3) := by decide +kernel
theorem dX6_mostAlike_42 : decode cX6_mostAlike 42 = .ok (.iload_n 3, 1) := by decide +kernel
theorem dX6_mostAlike_43 : decode cX6_mostAlike 43 = .ok (.isub, 1) := by decide +kernel
theorem dX6_mostAlike_44 : decode cX6_mostAlike 44 = .ok (.invokestatic 59, 3) := by decide +kernel
theorem dX6_mostAlike_47 : decode cX6_mostAlike 47 = .ok (.ireturn, 1) := by decide +kernel
theorem dJ6_bitCount_0f7a4_0 : decode cJ6_bitCount_0f7a4 0 = .ok (.iload_n 0, 1) := by decide +kernel
theorem dJ6_bitCount_0f7a4_1 : decode cJ6_bitCount_0f7a4 1 = .ok (.iload_n 0, 1) := by decide +kernel
theorem dJ6_bitCount_0f7a4_2 : decode cJ6_bitCount_0f7a4 2 = .ok (.iconst 1, 1) := by decide +kernel
theorem dJ6_bitCount_0f7a4_3 : decode cJ6_bitCount_0f7a4 3 = .ok (.iushr, 1) := by decide +kernel
theorem dJ6_bitCount_0f7a4_4 : decode cJ6_bitCount_0f7a4 4 = .ok (.ldc_w 265, 3) := by decide +kernel
theorem dJ6_bitCount_0f7a4_7 : decode cJ6_bitCount_0f7a4 7 = .ok (.iand, 1) := by decide +kernel
theorem dJ6_bitCount_0f7a4_8 : decode cJ6_bitCount_0f7a4 8 = .ok (.isub, 1) := by decide +kernel
theorem dJ6_bitCount_0f7a4_9 : decode cJ6_bitCount_0f7a4 9 = .ok (.istore_n 0, 1) := by decide +kernel
theorem dJ6_bitCount_0f7a4_10 : decode cJ6_bitCount_0f7a4 10 = .ok (.iload_n 0, 1) := by decide +kernel
theorem dJ6_bitCount_0f7a4_11 : decode cJ6_bitCount_0f7a4 11 = .ok (.ldc_w 266, 3) := by decide +kernel
theorem dJ6_bitCount_0f7a4_14 : decode cJ6_bitCount_0f7a4 14 = .ok (.iand, 1) := by decide +kernel
theorem dJ6_bitCount_0f7a4_15 : decode cJ6_bitCount_0f7a4 15 = .ok (.iload_n 0, 1) := by decide +kernel
theorem dJ6_bitCount_0f7a4_16 : decode cJ6_bitCount_0f7a4 16 = .ok (.iconst 2, 1) := by decide +kernel
theorem dJ6_bitCount_0f7a4_17 : decode cJ6_bitCount_0f7a4 17 = .ok (.iushr, 1) := by decide +kernel
theorem dJ6_bitCount_0f7a4_18 : decode cJ6_bitCount_0f7a4 18 = .ok (.ldc_w 266, 3) := by decide +kernel
theorem dJ6_bitCount_0f7a4_21 : decode cJ6_bitCount_0f7a4 21 = .ok (.iand, 1) := by decide +kernel
theorem dJ6_bitCount_0f7a4_22 : decode cJ6_bitCount_0f7a4 22 = .ok (.iadd, 1) := by decide +kernel
theorem dJ6_bitCount_0f7a4_23 : decode cJ6_bitCount_0f7a4 23 = .ok (.istore_n 0, 1) := by decide +kernel
theorem dJ6_bitCount_0f7a4_24 : decode cJ6_bitCount_0f7a4 24 = .ok (.iload_n 0, 1) := by decide +kernel
theorem dJ6_bitCount_0f7a4_25 : decode cJ6_bitCount_0f7a4 25 = .ok (.iload_n 0, 1) := by decide +kernel
theorem dJ6_bitCount_0f7a4_26 : decode cJ6_bitCount_0f7a4 26 = .ok (.iconst 4, 1) := by decide +kernel
theorem dJ6_bitCount_0f7a4_27 : decode cJ6_bitCount_0f7a4 27 = .ok (.iushr, 1) := by decide +kernel
theorem dJ6_bitCount_0f7a4_28 : decode cJ6_bitCount_0f7a4 28 = .ok (.iadd, 1) := by decide +kernel
theorem dJ6_bitCount_0f7a4_29 : decode cJ6_bitCount_0f7a4 29 = .ok (.ldc_w 267, 3) := by decide +kernel
theorem dJ6_bitCount_0f7a4_32 : decode cJ6_bitCount_0f7a4 32 = .ok (.iand, 1) := by decide +kernel
theorem dJ6_bitCount_0f7a4_33 : decode cJ6_bitCount_0f7a4 33 = .ok (.istore_n 0, 1) := by decide +kernel
theorem dJ6_bitCount_0f7a4_34 : decode cJ6_bitCount_0f7a4 34 = .ok (.iload_n 0, 1) := by decide +kernel
theorem dJ6_bitCount_0f7a4_35 : decode cJ6_bitCount_0f7a4 35 = .ok (.iload_n 0, 1) := by decide +kernel
theorem dJ6_bitCount_0f7a4_36 : decode cJ6_bitCount_0f7a4 36 = .ok (.bipush 8, 2) := by decide +kernel
theorem dJ6_bitCount_0f7a4_38 : decode cJ6_bitCount_0f7a4 38 = .ok (.iushr, 1) := by decide +kernel
theorem dJ6_bitCount_0f7a4_39 : decode cJ6_bitCount_0f7a4 39 = .ok (.iadd, 1) := by decide +kernel
theorem dJ6_bitCount_0f7a4_40 : decode cJ6_bitCount_0f7a4 40 = .ok (.istore_n 0, 1) := by decide +kernel
theorem dJ6_bitCount_0f7a4_41 : decode cJ6_bitCount_0f7a4 41 = .ok (.iload_n 0, 1) := by decide +kernel
theorem dJ6_bitCount_0f7a4_42 : decode cJ6_bitCount_0f7a4 42 = .ok (.iload_n 0, 1) := by decide +kernel
theorem dJ6_bitCount_0f7a4_43 : decode cJ6_bitCount_0f7a4 43 = .ok (.bipush 16, 2) := by decide +kernel
theorem dJ6_bitCount_0f7a4_45 : decode cJ6_bitCount_0f7a4 45 = .ok (.iushr, 1) := by decide +kernel
theorem dJ6_bitCount_0f7a4_46 : decode cJ6_bitCount_0f7a4 46 = .ok (.iadd, 1) := by decide +kernel
theorem dJ6_bitCount_0f7a4_47 : decode cJ6_bitCount_0f7a4 47 = .ok (.istore_n 0, 1) := by decide +kernel
theorem dJ6_bitCount_0f7a4_48 : decode cJ6_bitCount_0f7a4 48 = .ok (.iload_n 0, 1) := by decide +kernel
theorem dJ6_bitCount_0f7a4_49 : decode cJ6_bitCount_0f7a4 49 = .ok (.bipush 63, 2) := by decide +kernel
theorem dJ6_bitCount_0f7a4_51 : decode cJ6_bitCount_0f7a4 51 = .ok (.iand, 1) := by decide +kernel
theorem dJ6_bitCount_0f7a4_52 : decode cJ6_bitCount_0f7a4 52 = .ok (.ireturn, 1) := by decide +kernel
theorem dJ13_bitCount_95d88_0 : decode cJ13_bitCount_95d88 0 = .ok (.lload_n 0, 1) := by decide +kernel
theorem dJ13_bitCount_95d88_1 : decode cJ13_bitCount_95d88 1 = .ok (.lload_n 0, 1) := by decide +kernel
theorem dJ13_bitCount_95d88_2 : decode cJ13_bitCount_95d88 2 = .ok (.iconst 1, 1) := by decide +kernel
theorem dJ13_bitCount_95d88_3 : decode cJ13_bitCount_95d88 3 = .ok (.lushr, 1) := by decide +kernel
theorem dJ13_bitCount_95d88_4 : decode cJ13_bitCount_95d88 4 = .ok (.ldc2_w 314, 3) := by decide +kernel
theorem dJ13_bitCount_95d88_7 : decode cJ13_bitCount_95d88 7 = .ok (.land, 1) := by decide +kernel
theorem dJ13_bitCount_95d88_8 : decode cJ13_bitCount_95d88 8 = .ok (.lsub, 1) := by decide +kernel
theorem dJ13_bitCount_95d88_9 : decode cJ13_bitCount_95d88 9 = .ok (.lstore_n 0, 1) := by decide +kernel
theorem dJ13_bitCount_95d88_10 : decode cJ13_bitCount_95d88 10 = .ok (.lload_n 0, 1) := by decide +kernel
theorem dJ13_bitCount_95d88_11 : decode cJ13_bitCount_95d88 11 = .ok (.ldc2_w 316, 3) := by decide +kernel
theorem dJ13_bitCount_95d88_14 : decode cJ13_bitCount_95d88 14 = .ok (.land, 1) := by decide +kernel
theorem dJ13_bitCount_95d88_15 : decode cJ13_bitCount_95d88 15 = .ok (.lload_n 0, 1) := by decide +kernel
theorem dJ13_bitCount_95d88_16 : decode cJ13_bitCount_95d88 16 = .ok (.iconst 2, 1) := by decide +kernel
theorem dJ13_bitCount_95d88_17 : decode cJ13_bitCount_95d88 17 = .ok (.lushr, 1) := by decide +kernel
theorem dJ13_bitCount_95d88_18 : decode cJ13_bitCount_95d88 18 = .ok (.ldc2_w 316, 3) := by decide +kernel
theorem dJ13_bitCount_95d88_21 : decode cJ13_bitCount_95d88 21 = .ok (.land, 1) := by decide +kernel
theorem dJ13_bitCount_95d88_22 : decode cJ13_bitCount_95d88 22 = .ok (.ladd, 1) := by decide +kernel
theorem dJ13_bitCount_95d88_23 : decode cJ13_bitCount_95d88 23 = .ok (.lstore_n 0, 1) := by decide +kernel
theorem dJ13_bitCount_95d88_24 : decode cJ13_bitCount_95d88 24 = .ok (.lload_n 0, 1) := by decide +kernel
theorem dJ13_bitCount_95d88_25 : decode cJ13_bitCount_95d88 25 = .ok (.lload_n 0, 1) := by decide +kernel
theorem dJ13_bitCount_95d88_26 : decode cJ13_bitCount_95d88 26 = .ok (.iconst 4, 1) := by decide +kernel
theorem dJ13_bitCount_95d88_27 : decode cJ13_bitCount_95d88 27 = .ok (.lushr, 1) := by decide +kernel
theorem dJ13_bitCount_95d88_28 : decode cJ13_bitCount_95d88 28 = .ok (.ladd, 1) := by decide +kernel
theorem dJ13_bitCount_95d88_29 : decode cJ13_bitCount_95d88 29 = .ok (.ldc2_w 318, 3) := by decide +kernel
theorem dJ13_bitCount_95d88_32 : decode cJ13_bitCount_95d88 32 = .ok (.land, 1) := by decide +kernel
theorem dJ13_bitCount_95d88_33 : decode cJ13_bitCount_95d88 33 = .ok (.lstore_n 0, 1) := by decide +kernel
theorem dJ13_bitCount_95d88_34 : decode cJ13_bitCount_95d88 34 = .ok (.lload_n 0, 1) := by decide +kernel
theorem dJ13_bitCount_95d88_35 : decode cJ13_bitCount_95d88 35 = .ok (.lload_n 0, 1) := by decide +kernel
theorem dJ13_bitCount_95d88_36 : decode cJ13_bitCount_95d88 36 = .ok (.bipush 8, 2) := by decide +kernel
theorem dJ13_bitCount_95d88_38 : decode cJ13_bitCount_95d88 38 = .ok (.lushr, 1) := by decide +kernel
theorem dJ13_bitCount_95d88_39 : decode cJ13_bitCount_95d88 39 = .ok (.ladd, 1) := by decide +kernel
theorem dJ13_bitCount_95d88_40 : decode cJ13_bitCount_95d88 40 = .ok (.lstore_n 0, 1) := by decide +kernel
theorem dJ13_bitCount_95d88_41 : decode cJ13_bitCount_95d88 41 = .ok (.lload_n 0, 1) := by decide +kernel
theorem dJ13_bitCount_95d88_42 : decode cJ13_bitCount_95d88 42 = .ok (.lload_n 0, 1) := by decide +kernel
theorem dJ13_bitCount_95d88_43 : decode cJ13_bitCount_95d88 43 = .ok (.bipush 16, 2) := by decide +kernel
theorem dJ13_bitCount_95d88_45 : decode cJ13_bitCount_95d88 45 = .ok (.lushr, 1) := by decide +kernel
theorem dJ13_bitCount_95d88_46 : decode cJ13_bitCount_95d88 46 = .ok (.ladd, 1) := by decide +kernel
theorem dJ13_bitCount_95d88_47 : decode cJ13_bitCount_95d88 47 = .ok (.lstore_n 0, 1) := by decide +kernel
theorem dJ13_bitCount_95d88_48 : decode cJ13_bitCount_95d88 48 = .ok (.lload_n 0, 1) := by decide +kernel
theorem dJ13_bitCount_95d88_49 : decode cJ13_bitCount_95d88 49 = .ok (.lload_n 0, 1) := by decide +kernel
theorem dJ13_bitCount_95d88_50 : decode cJ13_bitCount_95d88 50 = .ok (.bipush 32, 2) := by decide +kernel
theorem dJ13_bitCount_95d88_52 : decode cJ13_bitCount_95d88 52 = .ok (.lushr, 1) := by decide +kernel
theorem dJ13_bitCount_95d88_53 : decode cJ13_bitCount_95d88 53 = .ok (.ladd, 1) := by decide +kernel
theorem dJ13_bitCount_95d88_54 : decode cJ13_bitCount_95d88 54 = .ok (.lstore_n 0, 1) := by decide +kernel
theorem dJ13_bitCount_95d88_55 : decode cJ13_bitCount_95d88 55 = .ok (.lload_n 0, 1) := by decide +kernel
theorem dJ13_bitCount_95d88_56 : decode cJ13_bitCount_95d88 56 = .ok (.l2i, 1) := by decide +kernel
theorem dJ13_bitCount_95d88_57 : decode cJ13_bitCount_95d88 57 = .ok (.bipush 127, 2) := by decide +kernel
theorem dJ13_bitCount_95d88_59 : decode cJ13_bitCount_95d88 59 = .ok (.iand, 1) := by decide +kernel
theorem dJ13_bitCount_95d88_60 : decode cJ13_bitCount_95d88 60 = .ok (.ireturn, 1) := by decide +kernel
theorem dJ9_max_7cf53_0 : decode cJ9_max_7cf53 0 = .ok (.iload_n 0, 1) := by decide +kernel
theorem dJ9_max_7cf53_1 : decode cJ9_max_7cf53 1 = .ok (.iload_n 1, 1) := by decide +kernel
theorem dJ9_max_7cf53_2 : decode cJ9_max_7cf53 2 = .ok (.if_icmp .lt 7, 3) := by decide +kernel
theorem dJ9_max_7cf53_5 : decode cJ9_max_7cf53 5 = .ok (.iload_n 0, 1) := by decide +kernel
theorem dJ9_max_7cf53_6 : decode cJ9_max_7cf53 6 = .ok (.goto 4, 3) := by decide +kernel
theorem dJ9_max_7cf53_9 : decode cJ9_max_7cf53 9 = .ok (.iload_n 1, 1) := by decide +kernel
theorem dJ9_max_7cf53_10 : decode cJ9_max_7cf53 10 = .ok (.ireturn, 1) := by decide +kernel
end
section
theorem dX3_init_0 : decode cX3_init 0 = .ok (.aload_n 0, 1) := by decide +kernel
theorem dX3_init_1 : decode cX3_init 1 = .ok (.invokespecial 3, 3) := by decide +kernel
theorem dX3_init_4 : decode cX3_init 4 = .ok (.aload_n 0, 1) := by decide +kernel
theorem dX3_init_5 : decode cX3_init 5 = .ok (.bipush 6, 2) := by decide +kernel
theorem dX3_init_7 : decode cX3_init 7 = .ok (.newarray .int, 2) := by decide +kernel
theorem dX3_init_9 : decode cX3_init 9 = .ok (.putfield 9, 3) := by decide +kernel
theorem dX3_init_12 : decode cX3_init 12 = .ok (.aload_n 0, 1) := by decide +kernel
theorem dX3_init_13 : decode cX3_init 13 = .ok (.bipush 6, 2) := by decide +kernel
theorem dX3_init_15 : decode cX3_init 15 = .ok (.newarray .int, 2) := by decide +kernel
theorem dX3_init_17 : decode cX3_init 17 = .ok (.putfield 15, 3) := by decide +kernel
theorem dX3_init_20 : decode cX3_init 20 = .ok (.aload_n 0, 1) := by decide +kernel
theorem dX3_init_21 : decode cX3_init 21 = .ok (.bipush 6, 2) := by decide +kernel
theorem dX3_init_23 : decode cX3_init 23 = .ok (.newarray .int, 2) := by decide +kernel
theorem dX3_init_25 : decode cX3_init 25 = .ok (.putfield 18, 3) := by decide +kernel
theorem dX3_init_28 : decode cX3_init 28 = .ok (.aload_n 0, 1) := by decide +kernel
theorem dX3_init_29 : decode cX3_init 29 = .ok (.bipush 6, 2) := by decide +kernel
theorem dX3_init_31 : decode cX3_init 31 = .ok (.newarray .int, 2) := by decide +kernel
theorem dX3_init_33 : decode cX3_init 33 = .ok (.putfield 21, 3) := by decide +kernel
theorem dX3_init_36 : decode cX3_init 36 = .ok (.aload_n 0, 1) := by decide +kernel
theorem dX3_init_37 : decode cX3_init 37 = .ok (.bipush 6, 2) := by decide +kernel
theorem dX3_init_39 : decode cX3_init 39 = .ok (.newarray .int, 2) := by decide +kernel
theorem dX3_init_41 : decode cX3_init 41 = .ok (.putfield 24, 3) := by decide +kernel
theorem dX3_init_44 : decode cX3_init 44 = .ok (.aload_n 0, 1) := by decide +kernel
theorem dX3_init_45 : decode cX3_init 45 = .ok (.bipush 6, 2) := by decide +kernel
theorem dX3_init_47 : decode cX3_init 47 = .ok (.newarray .int, 2) := by decide +kernel
theorem dX3_init_49 : decode cX3_init 49 = .ok (.putfield 27, 3) := by decide +kernel
theorem dX3_init_52 : decode cX3_init 52 = .ok (.aload_n 0, 1) := by decide +kernel
theorem dX3_init_53 : decode cX3_init 53 = .ok (.bipush 24, 2) := by decide +kernel
theorem dX3_init_55 : decode cX3_init 55 = .ok (.newarray .int, 2) := by decide +kernel
theorem dX3_init_57 : decode cX3_init 57 = .ok (.putfield 30, 3) := by decide +kernel
theorem dX3_init_60 : decode cX3_init 60 = .ok (.aload_n 0, 1) := by decide +kernel
theorem dX3_init_61 : decode cX3_init 61 = .ok (.bipush 8, 2) := by decide +kernel
theorem dX3_init_63 : decode cX3_init 63 = .ok (.newarray .int, 2) := by decide +kernel
theorem dX3_init_65 : decode cX3_init 65 = .ok (.putfield 33, 3) := by decide +kernel
theorem dX3_init_68 : decode cX3_init 68 = .ok (.aload_n 0, 1) := by decide +kernel
theorem dX3_init_69 : decode cX3_init 69 = .ok (.bipush 8, 2) := by decide +kernel
theorem dX3_init_71 : decode cX3_init 71 = .ok (.newarray .int, 2) := by decide +kernel
theorem dX3_init_73 : decode cX3_init 73 = .ok (.putfield 36, 3) := by decide +kernel
theorem dX3_init_76 : decode cX3_init 76 = .ok (.aload_n 0, 1) := by decide +kernel
theorem dX3_init_77 : decode cX3_init 77 = .ok (.bipush 8, 2) := by decide +kernel
theorem dX3_init_79 : decode cX3_init 79 = .ok (.newarray .int, 2) := by decide +kernel
theorem dX3_init_81 : decode cX3_init 81 = .ok (.putfield 39, 3) := by decide +kernel
theorem dX3_init_84 : decode cX3_init 84 = .ok (.return_, 1) := by decide +kernel
theorem dX3_empty_0 : decode cX3_empty 0 = .ok (.aload_n 0, 1) := by decide +kernel
theorem dX3_empty_1 : decode cX3_empty 1 = .ok (.iconst 0, 1) := by decide +kernel
theorem dX3_empty_2 : decode cX3_empty 2 = .ok (.putfield 42, 3) := by decide +kernel
theorem dX3_empty_5 : decode cX3_empty 5 = .ok (.aload_n 0, 1) := by decide +kernel
theorem dX3_empty_6 : decode cX3_empty 6 = .ok (.iconst 0, 1) := by decide +kernel
theorem dX3_empty_7 : decode cX3_empty 7 = .ok (.putfield 46, 3) := by decide +kernel
theorem dX3_empty_10 : decode cX3_empty 10 = .ok (.aload_n 0, 1) := by decide +kernel
theorem dX3_empty_11 : decode cX3_empty 11 = .ok (.iconst 0, 1) := by decide +kernel
theorem dX3_empty_12 : decode cX3_empty 12 = .ok (.putfield 49, 3) := by decide +kernel
theorem dX3_empty_15 : decode cX3_empty 15 = .ok (.return_, 1) := by decide +kernel
theorem dX3_copyFrom_0 : decode cX3_copyFrom 0 = .ok (.aload_n 0, 1) := by decide +kernel
theorem dX3_copyFrom_1 : decode cX3_copyFrom 1 = .ok (.aload_n 1, 1) := by decide +kernel
theorem dX3_copyFrom_2 : decode cX3_copyFrom 2 = .ok (.getfield 42, 3) := by decide +kernel
theorem dX3_copyFrom_5 : decode cX3_copyFrom 5 = .ok (.putfield 42, 3) := by decide +kernel
theorem dX3_copyFrom_8 : decode cX3_copyFrom 8 = .ok (.aload_n 0, 1) := by decide +kernel
theorem dX3_copyFrom_9 : decode cX3_copyFrom 9 = .ok (.aload_n 1, 1) := by decide +kernel
theorem dX3_copyFrom_10 : decode cX3_copyFrom 10 = .ok (.getfield 46, 3) := by decide +kernel
theorem dX3_copyFrom_13 : decode cX3_copyFrom 13 = .ok (.putfield 46, 3) := by decide +kernel
theorem dX3_copyFrom_16 : decode cX3_copyFrom 16 = .ok (.aload_n 0, 1) := by decide +kernel
theorem dX3_copyFrom_17 : decode cX3_copyFrom 17 = .ok (.aload_n 1, 1) := by decide +kernel
theorem dX3_copyFrom_18 : decode cX3_copyFrom 18 = .ok (.getfield 49, 3) := by decide +kernel
theorem dX3_copyFrom_21 : decode cX3_copyFrom 21 = .ok (.putfield 49, 3) := by decide +kernel
theorem dX3_copyFrom_24 : decode cX3_copyFrom 24 = .ok (.aload_n 1, 1) := by decide +kernel
theorem dX3_copyFrom_25 : decode cX3_copyFrom 25 = .ok (.getfield 9, 3) := by decide +kernel
theorem dX3_copyFrom_28 : decode cX3_copyFrom 28 = .ok (.aload_n 0, 1) := by decide +kernel
theorem dX3_copyFrom_29 : decode cX3_copyFrom 29 = .ok (.getfield 9, 3) := by decide +kernel
theorem dX3_copyFrom_32 : decode cX3_copyFrom 32 = .ok (.invokestatic 53, 3) := by decide +kernel
theorem dX3_copyFrom_35 : decode cX3_copyFrom 35 = .ok (.aload_n 1, 1) := by decide +kernel
theorem dX3_copyFrom_36 : decode cX3_copyFrom 36 = .ok (.getfield 15, 3) := by decide +kernel
theorem dX3_copyFrom_39 : decode cX3_copyFrom 39 = .ok (.aload_n 0, 1) := by decide +kernel
theorem dX3_copyFrom_40 : decode cX3_copyFrom 40 = .ok (.getfield 15, 3) := by decide +kernel
theorem dX3_copyFrom_43 : decode cX3_copyFrom 43 = .ok (.invokestatic 53, 3) := by decide +kernel
theorem dX3_copyFrom_46 : decode cX3_copyFrom 46 = .ok (.aload_n 1, 1) := by decide +kernel
theorem dX3_copyFrom_47 : decode cX3_copyFrom 47 = .ok (.getfield 18, 3) := by decide +kernel
theorem dX3_copyFrom_50 : decode cX3_copyFrom 50 = .ok (.aload_n 0, 1) := by decide +kernel
theorem dX3_copyFrom_51 : decode cX3_copyFrom 51 = .ok (.getfield 18, 3) := by decide +kernel
theorem dX3_copyFrom_54 : decode cX3_copyFrom 54 = .ok (.invokestatic 53, 3) := by decide +kernel
theorem dX3_copyFrom_57 : decode cX3_copyFrom 57 = .ok (.aload_n 1, 1) := by decide +kernel
theorem dX3_copyFrom_58 : decode cX3_copyFrom 58 = .ok (.getfield 21, 3) := by decide +kernel
theorem dX3_copyFrom_61 : decode cX3_copyFrom 61 = .ok (.aload_n 0, 1) := by decide +kernel
theorem dX3_copyFrom_62 : decode cX3_copyFrom 62 = .ok (.getfield 21, 3) := by decide +kernel
theorem dX3_copyFrom_65 : decode cX3_copyFrom 65 = .ok (.invokestatic 53, 3) := by decide +kernel
theorem dX3_copyFrom_68 : decode cX3_copyFrom 68 = .ok (.aload_n 1, 1) := by decide +kernel
theorem dX3_copyFrom_69 : decode cX3_copyFrom 69 = .ok (.getfield 24, 3) := by decide +kernel
theorem dX3_copyFrom_72 : decode cX3_copyFrom 72 = .ok (.aload_n 0, 1) := by decide +kernel
theorem dX3_copyFrom_73 : decode cX3_copyFrom 73 = .ok (.getfield 24, 3) := by decide +kernel
theorem dX3_copyFrom_76 : decode cX3_copyFrom 76 = .ok (.invokestatic 53, 3) := by decide +kernel
theorem dX3_copyFrom_79 : decode cX3_copyFrom 79 = .ok (.aload_n 1, 1) := by decide +kernel
theorem dX3_copyFrom_80 : decode cX3_copyFrom 80 = .ok (.getfield 27, 3) := by decide +kernel
theorem dX3_copyFrom_83 : decode cX3_copyFrom 83 = .ok (.aload_n 0, 1) := by decide +kernel
theorem dX3_copyFrom_84 : decode cX3_copyFrom 84 = .ok (.getfield 27, 3) := by decide +kernel
theorem dX3_copyFrom_87 : decode cX3_copyFrom 87 = .ok (.invokestatic 53, 3) := by decide +kernel
theorem dX3_copyFrom_90 : decode cX3_copyFrom 90 = .ok (.aload_n 1, 1) := by decide +kernel
theorem dX3_copyFrom_91 : decode cX3_copyFrom 91 = .ok (.getfield 30, 3) := by decide +kernel
theorem dX3_copyFrom_94 : decode cX3_copyFrom 94 = .ok (.aload_n 0, 1) := by decide +kernel
theorem dX3_copyFrom_95 : decode cX3_copyFrom 95 = .ok (.getfield 30, 3) := by decide +kernel
theorem dX3_copyFrom_98 : decode cX3_copyFrom 98 = .ok (.invokestatic 53, 3) := by decide +kernel
theorem dX3_copyFrom_101 : decode cX3_copyFrom 101 = .ok (.aload_n 1, 1) := by decide +kernel
theorem dX3_copyFrom_102 : decode cX3_copyFrom 102 = .ok (.getfield 33, 3) := by decide +kernel
theorem dX3_copyFrom_105 : decode cX3_copyFrom 105 = .ok (.aload_n 0, 1) := by decide +kernel
theorem dX3_copyFrom_106 : decode cX3_copyFrom 106 = .ok (.getfield 33, 3) := by decide +kernel
theorem dX3_copyFrom_109 : decode cX3_copyFrom 109 = .ok (.invokestatic 53, 3) := by decide +kernel
theorem dX3_copyFrom_112 : decode cX3_copyFrom 112 = .ok (.aload_n 1, 1) := by decide +kernel
theorem dX3_copyFrom_113 : decode cX3_copyFrom 113 = .ok (.getfield 36, 3) := by decide +kernel
theorem dX3_copyFrom_116 : decode cX3_copyFrom 116 = .ok (.aload_n 0, 1) := by decide +kernel
theorem dX3_copyFrom_117 : decode cX3_copyFrom 117 = .ok (.getfield 36, 3) := by decide +kernel
theorem dX3_copyFrom_120 : decode cX3_copyFrom 120 = .ok (.invokestatic 53, 3) := by decide +kernel
theorem dX3_copyFrom_123 : decode cX3_copyFrom 123 = .ok (.aload_n 1, 1) := by decide +kernel
theorem dX3_copyFrom_124 : decode cX3_copyFrom 124 = .ok (.getfield 39, 3) := by decide +kernel
theorem dX3_copyFrom_127 : decode cX3_copyFrom 127 = .ok (.aload_n 0, 1) := by decide +kernel
theorem dX3_copyFrom_128 : decode cX3_copyFrom 128 = .ok (.getfield 39, 3) := by decide +kernel
theorem dX3_copyFrom_131 : decode cX3_copyFrom 131 = .ok (.invokestatic 53, 3) := by decide +kernel
theorem dX3_copyFrom_134 : decode cX3_copyFrom 134 = .ok (.return_, 1) := by decide +kernel
theorem dX3_copyRow_0 : decode cX3_copyRow 0 = .ok (.iconst 0, 1) := by decide +kernel
theorem dX3_copyRow_1 : decode cX3_copyRow 1 = .ok (.istore_n 2, 1) := by decide +kernel
theorem dX3_copyRow_2 : decode cX3_copyRow 2 = .ok (.iload_n 2, 1) := by decide +kernel
theorem dX3_copyRow_3 : decode cX3_copyRow 3 = .ok (.aload_n 0, 1) := by decide +kernel
theorem dX3_copyRow_4 : decode cX3_copyRow 4 = .ok (.arraylength, 1) := by decide +kernel
theorem dX3_copyRow_5 : decode cX3_copyRow 5 = .ok (.if_icmp .ge 21, 3) := by decide +kernel
theorem dX3_copyRow_8 : decode cX3_copyRow 8 = .ok (.iload_n 2, 1) := by decide +kernel
theorem dX3_copyRow_9 : decode cX3_copyRow 9 = .ok (.aload_n 1, 1) := by decide +kernel
theorem dX3_copyRow_10 : decode cX3_copyRow 10 = .ok (.arraylength, 1) := by decide +kernel
theorem dX3_copyRow_11 : decode cX3_copyRow 11 = .ok (.if_icmp .ge 15, 3) := by decide +kernel
theorem dX3_copyRow_14 : decode cX3_copyRow 14 = .ok (.aload_n 1, 1) := by decide +kernel
theorem dX3_copyRow_15 : decode cX3_copyRow 15 = .ok (.iload_n 2, 1) := by decide +kernel
theorem dX3_copyRow_16 : decode cX3_copyRow 16 = .ok (.aload_n 0, 1) := by decide +kernel
theorem dX3_copyRow_17 : decode cX3_copyRow 17 = .ok (.iload_n 2, 1) := by decide +kernel
theorem dX3_copyRow_18 : decode cX3_copyRow 18 = .ok (.iaload, 1) := by decide +kernel
theorem dX3_copyRow_19 : decode cX3_copyRow 19 = .ok (.iastore, 1) := by decide +kernel
theorem dX3_copyRow_20 : decode cX3_copyRow 20 = .ok (.iinc 2 1, 3) := by decide +kernel
theorem dX3_copyRow_23 : decode cX3_copyRow 23 = .ok (.goto (-21), 3) := by decide +kernel
theorem dX3_copyRow_26 : decode cX3_copyRow 26 = .ok (.return_, 1) := by decide +kernel
theorem dX3_addSwitch_0 : decode cX3_addSwitch 0 = .ok (.aload_n 0, 1) := by decide +kernel
theorem dX3_addSwitch_1 : decode cX3_addSwitch 1 = .ok (.getfield 42, 3) := by decide +kernel
theorem dX3_addSwitch_4 : decode cX3_addSwitch 4 = .ok (.bipush 6, 2) := by decide +kernel
theorem dX3_addSwitch_6 : decode cX3_addSwitch 6 = .ok (.if_icmp .lt 4, 3) := by decide +kernel
theorem dX3_addSwitch_9 : decode cX3_addSwitch 9 = .ok (.return_, 1) := by decide +kernel
theorem dX3_addSwitch_10 : decode cX3_addSwitch 10 = .ok (.aload_n 0, 1) := by decide +kernel
theorem dX3_addSwitch_11 : decode cX3_addSwitch 11 = .ok (.getfield 9, 3) := by decide +kernel
theorem dX3_addSwitch_14 : decode cX3_addSwitch 14 = .ok (.aload_n 0, 1) := by decide +kernel
theorem dX3_addSwitch_15 : decode cX3_addSwitch 15 = .ok (.getfield 42, 3) := by decide +kernel
theorem dX3_addSwitch_18 : decode cX3_addSwitch 18 = .ok (.iload_n 1, 1) := by decide +kernel
theorem dX3_addSwitch_19 : decode cX3_addSwitch 19 = .ok (.iastore, 1) := by decide +kernel
theorem dX3_addSwitch_20 : decode cX3_addSwitch 20 = .ok (.aload_n 0, 1) := by decide +kernel
theorem dX3_addSwitch_21 : decode cX3_addSwitch 21 = .ok (.getfield 15, 3) := by decide +kernel
theorem dX3_addSwitch_24 : decode cX3_addSwitch 24 = .ok (.aload_n 0, 1) := by decide +kernel
theorem dX3_addSwitch_25 : decode cX3_addSwitch 25 = .ok (.getfield 42, 3) := by decide +kernel
theorem dX3_addSwitch_28 : decode cX3_addSwitch 28 = .ok (.iload_n 2, 1) := by decide +kernel
theorem dX3_addSwitch_29 : decode cX3_addSwitch 29 = .ok (.iastore, 1) := by decide +kernel
theorem dX3_addSwitch_30 : decode cX3_addSwitch 30 = .ok (.aload_n 0, 1) := by decide +kernel
theorem dX3_addSwitch_31 : decode cX3_addSwitch 31 = .ok (.getfield 18, 3) := by decide +kernel
theorem dX3_addSwitch_34 : decode cX3_addSwitch 34 = .ok (.aload_n 0, 1) := by decide +kernel
theorem dX3_addSwitch_35 : decode cX3_addSwitch 35 = .ok (.getfield 42, 3) := by decide +kernel
theorem dX3_addSwitch_38 : decode cX3_addSwitch 38 = .ok (.iload_n 3, 1) := by decide +kernel
theorem dX3_addSwitch_39 : decode cX3_addSwitch 39 = .ok (.iastore, 1) := by decide +kernel
theorem dX3_addSwitch_40 : decode cX3_addSwitch 40 = .ok (.aload_n 0, 1) := by decide +kernel
theorem dX3_addSwitch_41 : decode cX3_addSwitch 41 = .ok (.getfield 21, 3) := by decide +kernel
theorem dX3_addSwitch_44 : decode cX3_addSwitch 44 = .ok (.aload_n 0, 1) := by decide +kernel
theorem dX3_addSwitch_45 : decode cX3_addSwitch 45 = .ok (.getfield 42, 3) := by decide +kernel
theorem dX3_addSwitch_48 : decode cX3_addSwitch 48 = .ok (.iload_n 3, 1) := by decide +kernel
theorem dX3_addSwitch_49 : decode cX3_addSwitch 49 = .ok (.ifCond .ne 7, 3) := by decide +kernel
theorem dX3_addSwitch_52 : decode cX3_addSwitch 52 = .ok (.iconst 1, 1) := by decide +kernel
theorem dX3_addSwitch_53 : decode cX3_addSwitch 53 = .ok (.goto 4, 3) := by decide +kernel
theorem dX3_addSwitch_56 : decode cX3_addSwitch 56 = .ok (.iload_n 3, 1) := by decide +kernel
theorem dX3_addSwitch_57 : decode cX3_addSwitch 57 = .ok (.iastore, 1) := by decide +kernel
theorem dX3_addSwitch_58 : decode cX3_addSwitch 58 = .ok (.aload_n 0, 1) := by decide +kernel
theorem dX3_addSwitch_59 : decode cX3_addSwitch 59 = .ok (.getfield 24, 3) := by decide +kernel
theorem dX3_addSwitch_62 : decode cX3_addSwitch 62 = .ok (.aload_n 0, 1) := by decide +kernel
theorem dX3_addSwitch_63 : decode cX3_addSwitch 63 = .ok (.getfield 42, 3) := by decide +kernel
theorem dX3_addSwitch_66 : decode cX3_addSwitch 66 = .ok (.iconst 0, 1) := by decide +kernel
theorem dX3_addSwitch_67 : decode cX3_addSwitch 67 = .ok (.iastore, 1) := by decide +kernel
theorem dX3_addSwitch_68 : decode cX3_addSwitch 68 = .ok (.aload_n 0, 1) := by decide +kernel
theorem dX3_addSwitch_69 : decode cX3_addSwitch 69 = .ok (.getfield 27, 3) := by decide +kernel
theorem dX3_addSwitch_72 : decode cX3_addSwitch 72 = .ok (.aload_n 0, 1) := by decide +kernel
theorem dX3_addSwitch_73 : decode cX3_addSwitch 73 = .ok (.getfield 42, 3) := by decide +kernel
theorem dX3_addSwitch_76 : decode cX3_addSwitch 76 = .ok (.iconst 0, 1) := by decide +kernel
theorem dX3_addSwitch_77 : decode cX3_addSwitch 77 = .ok (.iastore, 1) := by decide +kernel
theorem dX3_addSwitch_78 : decode cX3_addSwitch 78 = .ok (.iconst 0, 1) := by decide +kernel
theorem dX3_addSwitch_79 : decode cX3_addSwitch 79 = .ok (.istore 4, 2) := by decide +kernel
theorem dX3_addSwitch_81 : decode cX3_addSwitch 81 = .ok (.iload 4, 2) := by decide +kernel
theorem dX3_addSwitch_83 : decode cX3_addSwitch 83 = .ok (.iconst 4, 1) := by decide +kernel
theorem dX3_addSwitch_84 : decode cX3_addSwitch 84 = .ok (.if_icmp .ge 24, 3) := by decide +kernel
theorem dX3_addSwitch_87 : decode cX3_addSwitch 87 = .ok (.aload_n 0, 1) := by decide +kernel
theorem dX3_addSwitch_88 : decode cX3_addSwitch 88 = .ok (.getfield 30, 3) := by decide +kernel
theorem dX3_addSwitch_91 : decode cX3_addSwitch 91 = .ok (.aload_n 0, 1) := by decide +kernel
theorem dX3_addSwitch_92 : decode cX3_addSwitch 92 = .ok (.getfield 42, 3) := by decide +kernel
theorem dX3_addSwitch_95 : decode cX3_addSwitch 95 = .ok (.iconst 4, 1) := by decide +kernel
theorem dX3_addSwitch_96 : decode cX3_addSwitch 96 = .ok (.imul, 1) := by decide +kernel
theorem dX3_addSwitch_97 : decode cX3_addSwitch 97 = .ok (.iload 4, 2) := by decide +kernel
theorem dX3_addSwitch_99 : decode cX3_addSwitch 99 = .ok (.iadd, 1) := by decide +kernel
theorem dX3_addSwitch_100 : decode cX3_addSwitch 100 = .ok (.iconst 0, 1) := by decide +kernel
theorem dX3_addSwitch_101 : decode cX3_addSwitch 101 = .ok (.iastore, 1) := by decide +kernel
theorem dX3_addSwitch_102 : decode cX3_addSwitch 102 = .ok (.iinc 4 1, 3) := by decide +kernel
theorem dX3_addSwitch_105 : decode cX3_addSwitch 105 = .ok (.goto (-24), 3) := by decide +kernel
theorem dX3_addSwitch_108 : decode cX3_addSwitch 108 = .ok (.aload_n 0, 1) := by decide +kernel
theorem dX3_addSwitch_109 : decode cX3_addSwitch 109 = .ok (.dup, 1) := by decide +kernel
theorem dX3_addSwitch_110 : decode cX3_addSwitch 110 = .ok (.getfield 42, 3) := by decide +kernel
theorem dX3_addSwitch_113 : decode cX3_addSwitch 113 = .ok (.iconst 1, 1) := by decide +kernel
theorem dX3_addSwitch_114 : decode cX3_addSwitch 114 = .ok (.iadd, 1) := by decide +kernel
theorem dX3_addSwitch_115 : decode cX3_addSwitch 115 = .ok (.putfield 42, 3) := by decide +kernel
theorem dX3_addSwitch_118 : decode cX3_addSwitch 118 = .ok (.return_, 1) := by decide +kernel
theorem dX3_addHost_0 : decode cX3_addHost 0 = .ok (.aload_n 0, 1) := by decide +kernel
theorem dX3_addHost_1 : decode cX3_addHost 1 = .ok (.getfield 46, 3) := by decide +kernel
theorem dX3_addHost_4 : decode cX3_addHost 4 = .ok (.bipush 8, 2) := by decide +kernel
theorem dX3_addHost_6 : decode cX3_addHost 6 = .ok (.if_icmp .lt 4, 3) := by decide +kernel
theorem dX3_addHost_9 : decode cX3_addHost 9 = .ok (.return_, 1) := by decide +kernel
theorem dX3_addHost_10 : decode cX3_addHost 10 = .ok (.aload_n 0, 1) := by decide +kernel
theorem dX3_addHost_11 : decode cX3_addHost 11 = .ok (.getfield 33, 3) := by decide +kernel
theorem dX3_addHost_14 : decode cX3_addHost 14 = .ok (.aload_n 0, 1) := by decide +kernel
theorem dX3_addHost_15 : decode cX3_addHost 15 = .ok (.getfield 46, 3) := by decide +kernel
theorem dX3_addHost_18 : decode cX3_addHost 18 = .ok (.iload_n 1, 1) := by decide +kernel
theorem dX3_addHost_19 : decode cX3_addHost 19 = .ok (.iastore, 1) := by decide +kernel
theorem dX3_addHost_20 : decode cX3_addHost 20 = .ok (.aload_n 0, 1) := by decide +kernel
theorem dX3_addHost_21 : decode cX3_addHost 21 = .ok (.getfield 36, 3) := by decide +kernel
theorem dX3_addHost_24 : decode cX3_addHost 24 = .ok (.aload_n 0, 1) := by decide +kernel
theorem dX3_addHost_25 : decode cX3_addHost 25 = .ok (.getfield 46, 3) := by decide +kernel
theorem dX3_addHost_28 : decode cX3_addHost 28 = .ok (.iconst 0, 1) := by decide +kernel
theorem dX3_addHost_29 : decode cX3_addHost 29 = .ok (.iastore, 1) := by decide +kernel
theorem dX3_addHost_30 : decode cX3_addHost 30 = .ok (.aload_n 0, 1) := by decide +kernel
theorem dX3_addHost_31 : decode cX3_addHost 31 = .ok (.getfield 39, 3) := by decide +kernel
theorem dX3_addHost_34 : decode cX3_addHost 34 = .ok (.aload_n 0, 1) := by decide +kernel
theorem dX3_addHost_35 : decode cX3_addHost 35 = .ok (.getfield 46, 3) := by decide +kernel
theorem dX3_addHost_38 : decode cX3_addHost 38 = .ok (.iconst 0, 1) := by decide +kernel
theorem dX3_addHost_39 : decode cX3_addHost 39 = .ok (.iastore, 1) := by decide +kernel
theorem dX3_addHost_40 : decode cX3_addHost 40 = .ok (.aload_n 0, 1) := by decide +kernel
theorem dX3_addHost_41 : decode cX3_addHost 41 = .ok (.dup, 1) := by decide +kernel
theorem dX3_addHost_42 : decode cX3_addHost 42 = .ok (.getfield 46, 3) := by decide +kernel
theorem dX3_addHost_45 : decode cX3_addHost 45 = .ok (.iconst 1, 1) := by decide +kernel
theorem dX3_addHost_46 : decode cX3_addHost 46 = .ok (.iadd, 1) := by decide +kernel
theorem dX3_addHost_47 : decode cX3_addHost 47 = .ok (.putfield 46, 3) := by decide +kernel
theorem dX3_addHost_50 : decode cX3_addHost 50 = .ok (.return_, 1) := by decide +kernel
theorem dX3_switchTotal_0 : decode cX3_switchTotal 0 = .ok (.aload_n 0, 1) := by decide +kernel
theorem dX3_switchTotal_1 : decode cX3_switchTotal 1 = .ok (.getfield 42, 3) := by decide +kernel
theorem dX3_switchTotal_4 : decode cX3_switchTotal 4 = .ok (.ireturn, 1) := by decide +kernel
theorem dX3_hostTotal_0 : decode cX3_hostTotal 0 = .ok (.aload_n 0, 1) := by decide +kernel
theorem dX3_hostTotal_1 : decode cX3_hostTotal 1 = .ok (.getfield 46, 3) := by decide +kernel
theorem dX3_hostTotal_4 : decode cX3_hostTotal 4 = .ok (.ireturn, 1) := by decide +kernel
theorem dX3_everyHost_0 : decode cX3_everyHost 0 = .ok (.iconst 1, 1) := by decide +kernel
theorem dX3_everyHost_1 : decode cX3_everyHost 1 = .ok (.aload_n 0, 1) := by decide +kernel
theorem dX3_everyHost_2 : decode cX3_everyHost 2 = .ok (.getfield 46, 3) := by decide +kernel
theorem dX3_everyHost_5 : decode cX3_everyHost 5 = .ok (.ishl, 1) := by decide +kernel
theorem dX3_everyHost_6 : decode cX3_everyHost 6 = .ok (.iconst 1, 1) := by decide +kernel
theorem dX3_everyHost_7 : decode cX3_everyHost 7 = .ok (.isub, 1) := by decide +kernel
theorem dX3_everyHost_8 : decode cX3_everyHost 8 = .ok (.ireturn, 1) := by decide +kernel
theorem dX3_hasSwitch_0 : decode cX3_hasSwitch 0 = .ok (.iload_n 1, 1) := by decide +kernel
theorem dX3_hasSwitch_1 : decode cX3_hasSwitch 1 = .ok (.ifCond .lt 15, 3) := by decide +kernel
theorem dX3_hasSwitch_4 : decode cX3_hasSwitch 4 = .ok (.iload_n 1, 1) := by decide +kernel
theorem dX3_hasSwitch_5 : decode cX3_hasSwitch 5 = .ok (.aload_n 0, 1) := by decide +kernel
theorem dX3_hasSwitch_6 : decode cX3_hasSwitch 6 = .ok (.getfield 42, 3) := by decide +kernel
theorem dX3_hasSwitch_9 : decode cX3_hasSwitch 9 = .ok (.if_icmp .ge 7, 3) := by decide +kernel
theorem dX3_hasSwitch_12 : decode cX3_hasSwitch 12 = .ok (.iconst 1, 1) := by decide +kernel
theorem dX3_hasSwitch_13 : decode cX3_hasSwitch 13 = .ok (.goto 4, 3) := by decide +kernel
theorem dX3_hasSwitch_16 : decode cX3_hasSwitch 16 = .ok (.iconst 0, 1) := by decide +kernel
theorem dX3_hasSwitch_17 : decode cX3_hasSwitch 17 = .ok (.ireturn, 1) := by decide +kernel
theorem dX3_hasTwo_0 : decode cX3_hasTwo 0 = .ok (.iload_n 1, 1) := by decide +kernel
theorem dX3_hasTwo_1 : decode cX3_hasTwo 1 = .ok (.iload_n 2, 1) := by decide +kernel
theorem dX3_hasTwo_2 : decode cX3_hasTwo 2 = .ok (.if_icmp .eq 23, 3) := by decide +kernel
theorem dX3_hasTwo_5 : decode cX3_hasTwo 5 = .ok (.aload_n 0, 1) := by decide +kernel
theorem dX3_hasTwo_6 : decode cX3_hasTwo 6 = .ok (.iload_n 1, 1) := by decide +kernel
theorem dX3_hasTwo_7 : decode cX3_hasTwo 7 = .ok (.invokevirtual 57, 3) := by decide +kernel
theorem dX3_hasTwo_10 : decode cX3_hasTwo 10 = .ok (.ifCond .eq 15, 3) := by decide +kernel
theorem dX3_hasTwo_13 : decode cX3_hasTwo 13 = .ok (.aload_n 0, 1) := by decide +kernel
theorem dX3_hasTwo_14 : decode cX3_hasTwo 14 = .ok (.iload_n 2, 1) := by decide +kernel
theorem dX3_hasTwo_15 : decode cX3_hasTwo 15 = .ok (.invokevirtual 57, 3) := by decide +kernel
theorem dX3_hasTwo_18 : decode cX3_hasTwo 18 = .ok (.ifCond .eq 7, 3) := by decide +kernel
theorem dX3_hasTwo_21 : decode cX3_hasTwo 21 = .ok (.iconst 1, 1) := by decide +kernel
theorem dX3_hasTwo_22 : decode cX3_hasTwo 22 = .ok (.goto 4, 3) := by decide +kernel
theorem dX3_hasTwo_25 : decode cX3_hasTwo 25 = .ok (.iconst 0, 1) := by decide +kernel
theorem dX3_hasTwo_26 : decode cX3_hasTwo 26 = .ok (.ireturn, 1) := by decide +kernel
theorem dX3_hasHost_0 : decode cX3_hasHost 0 = .ok (.iload_n 1, 1) := by decide +kernel
theorem dX3_hasHost_1 : decode cX3_hasHost 1 = .ok (.ifCond .lt 15, 3) := by decide +kernel
theorem dX3_hasHost_4 : decode cX3_hasHost 4 = .ok (.iload_n 1, 1) := by decide +kernel
theorem dX3_hasHost_5 : decode cX3_hasHost 5 = .ok (.aload_n 0, 1) := by decide +kernel
theorem dX3_hasHost_6 : decode cX3_hasHost 6 = .ok (.getfield 46, 3) := by decide +kernel
theorem dX3_hasHost_9 : decode cX3_hasHost 9 = .ok (.if_icmp .ge 7, 3) := by decide +kernel
theorem dX3_hasHost_12 : decode cX3_hasHost 12 = .ok (.iconst 1, 1) := by decide +kernel
theorem dX3_hasHost_13 : decode cX3_hasHost 13 = .ok (.goto 4, 3) := by decide +kernel
theorem dX3_hasHost_16 : decode cX3_hasHost 16 = .ok (.iconst 0, 1) := by decide +kernel
theorem dX3_hasHost_17 : decode cX3_hasHost 17 = .ok (.ireturn, 1) := by decide +kernel
theorem dX3_hasName_0 : decode cX3_hasName 0 = .ok (.iconst 0, 1) := by decide +kernel
theorem dX3_hasName_1 : decode cX3_hasName 1 = .ok (.istore_n 2, 1) := by decide +kernel
theorem dX3_hasName_2 : decode cX3_hasName 2 = .ok (.iload_n 2, 1) := by decide +kernel
theorem dX3_hasName_3 : decode cX3_hasName 3 = .ok (.aload_n 0, 1) := by decide +kernel
theorem dX3_hasName_4 : decode cX3_hasName 4 = .ok (.getfield 42, 3) := by decide +kernel
theorem dX3_hasName_7 : decode cX3_hasName 7 = .ok (.if_icmp .ge 21, 3) := by decide +kernel
theorem dX3_hasName_10 : decode cX3_hasName 10 = .ok (.aload_n 0, 1) := by decide +kernel
theorem dX3_hasName_11 : decode cX3_hasName 11 = .ok (.getfield 15, 3) := by decide +kernel
theorem dX3_hasName_14 : decode cX3_hasName 14 = .ok (.iload_n 2, 1) := by decide +kernel
theorem dX3_hasName_15 : decode cX3_hasName 15 = .ok (.iaload, 1) := by decide +kernel
theorem dX3_hasName_16 : decode cX3_hasName 16 = .ok (.iload_n 1, 1) := by decide +kernel
theorem dX3_hasName_17 : decode cX3_hasName 17 = .ok (.if_icmp .ne 5, 3) := by decide +kernel
theorem dX3_hasName_20 : decode cX3_hasName 20 = .ok (.iconst 1, 1) := by decide +kernel
theorem dX3_hasName_21 : decode cX3_hasName 21 = .ok (.ireturn, 1) := by decide +kernel
theorem dX3_hasName_22 : decode cX3_hasName 22 = .ok (.iinc 2 1, 3) := by decide +kernel
theorem dX3_hasName_25 : decode cX3_hasName 25 = .ok (.goto (-23), 3) := by decide +kernel
theorem dX3_hasName_28 : decode cX3_hasName 28 = .ok (.iconst 0, 1) := by decide +kernel
theorem dX3_hasName_29 : decode cX3_hasName 29 = .ok (.ireturn, 1) := by decide +kernel
theorem dX3_isRenewing_0 : decode cX3_isRenewing 0 = .ok (.aload_n 0, 1) := by decide +kernel
theorem dX3_isRenewing_1 : decode cX3_isRenewing 1 = .ok (.getfield 49, 3) := by decide +kernel
theorem dX3_isRenewing_4 : decode cX3_isRenewing 4 = .ok (.ireturn, 1) := by decide +kernel
theorem dX3_setRenewing_0 : decode cX3_setRenewing 0 = .ok (.aload_n 0, 1) := by decide +kernel
theorem dX3_setRenewing_1 : decode cX3_setRenewing 1 = .ok (.iload_n 1, 1) := by decide +kernel
theorem dX3_setRenewing_2 : decode cX3_setRenewing 2 = .ok (.putfield 49, 3) := by decide +kernel
theorem dX3_setRenewing_5 : decode cX3_setRenewing 5 = .ok (.return_, 1) := by decide +kernel
theorem dX3_priorityOf_0 : decode cX3_priorityOf 0 = .ok (.aload_n 0, 1) := by decide +kernel
theorem dX3_priorityOf_1 : decode cX3_priorityOf 1 = .ok (.iload_n 1, 1) := by decide +kernel
theorem dX3_priorityOf_2 : decode cX3_priorityOf 2 = .ok (.invokevirtual 57, 3) := by decide +kernel
theorem dX3_priorityOf_5 : decode cX3_priorityOf 5 = .ok (.ifCond .eq 12, 3) := by decide +kernel
theorem dX3_priorityOf_8 : decode cX3_priorityOf 8 = .ok (.aload_n 0, 1) := by decide +kernel
theorem dX3_priorityOf_9 : decode cX3_priorityOf 9 = .ok (.getfield 9, 3) := by decide +kernel
theorem dX3_priorityOf_12 : decode cX3_priorityOf 12 = .ok (.iload_n 1, 1) := by decide +kernel
theorem dX3_priorityOf_13 : decode cX3_priorityOf 13 = .ok (.iaload, 1) := by decide +kernel
theorem dX3_priorityOf_14 : decode cX3_priorityOf 14 = .ok (.goto 4, 3) := by decide +kernel
theorem dX3_priorityOf_17 : decode cX3_priorityOf 17 = .ok (.iconst (-1), 1) := by decide +kernel
theorem dX3_priorityOf_18 : decode cX3_priorityOf 18 = .ok (.ireturn, 1) := by decide +kernel
theorem dX3_setPriority_0 : decode cX3_setPriority 0 = .ok (.aload_n 0, 1) := by decide +kernel
theorem dX3_setPriority_1 : decode cX3_setPriority 1 = .ok (.iload_n 1, 1) := by decide +kernel
theorem dX3_setPriority_2 : decode cX3_setPriority 2 = .ok (.invokevirtual 57, 3) := by decide +kernel
theorem dX3_setPriority_5 : decode cX3_setPriority 5 = .ok (.ifCond .eq 10, 3) := by decide +kernel
theorem dX3_setPriority_8 : decode cX3_setPriority 8 = .ok (.aload_n 0, 1) := by decide +kernel
theorem dX3_setPriority_9 : decode cX3_setPriority 9 = .ok (.getfield 9, 3) := by decide +kernel
theorem dX3_setPriority_12 : decode cX3_setPriority 12 = .ok (.iload_n 1, 1) := by decide +kernel
theorem dX3_setPriority_13 : decode cX3_setPriority 13 = .ok (.iload_n 2, 1) := by decide +kernel
theorem dX3_setPriority_14 : decode cX3_setPriority 14 = .ok (.iastore, 1) := by decide +kernel
theorem dX3_setPriority_15 : decode cX3_setPriority 15 = .ok (.return_, 1) := by decide +kernel
theorem dX3_nameOf_0 : decode cX3_nameOf 0 = .ok (.aload_n 0, 1) := by decide +kernel
theorem dX3_nameOf_1 : decode cX3_nameOf 1 = .ok (.iload_n 1, 1) := by decide +kernel
theorem dX3_nameOf_2 : decode cX3_nameOf 2 = .ok (.invokevirtual 57, 3) := by decide +kernel
theorem dX3_nameOf_5 : decode cX3_nameOf 5 = .ok (.ifCond .eq 12, 3) := by decide +kernel
theorem dX3_nameOf_8 : decode cX3_nameOf 8 = .ok (.aload_n 0, 1) := by decide +kernel
theorem dX3_nameOf_9 : decode cX3_nameOf 9 = .ok (.getfield 15, 3) := by decide +kernel
theorem dX3_nameOf_12 : decode cX3_nameOf 12 = .ok (.iload_n 1, 1) := by decide +kernel
theorem dX3_nameOf_13 : decode cX3_nameOf 13 = .ok (.iaload, 1) := by decide +kernel
theorem dX3_nameOf_14 : decode cX3_nameOf 14 = .ok (.goto 4, 3) := by decide +kernel
theorem dX3_nameOf_17 : decode cX3_nameOf 17 = .ok (.iconst (-1), 1) := by decide +kernel
theorem dX3_nameOf_18 : decode cX3_nameOf 18 = .ok (.ireturn, 1) := by decide +kernel
theorem dX3_wantOf_0 : decode cX3_wantOf 0 = .ok (.aload_n 0, 1) := by decide +kernel
theorem dX3_wantOf_1 : decode cX3_wantOf 1 = .ok (.iload_n 1, 1) := by decide +kernel
theorem dX3_wantOf_2 : decode cX3_wantOf 2 = .ok (.invokevirtual 57, 3) := by decide +kernel
theorem dX3_wantOf_5 : decode cX3_wantOf 5 = .ok (.ifCond .eq 12, 3) := by decide +kernel
theorem dX3_wantOf_8 : decode cX3_wantOf 8 = .ok (.aload_n 0, 1) := by decide +kernel
theorem dX3_wantOf_9 : decode cX3_wantOf 9 = .ok (.getfield 18, 3) := by decide +kernel
theorem dX3_wantOf_12 : decode cX3_wantOf 12 = .ok (.iload_n 1, 1) := by decide +kernel
theorem dX3_wantOf_13 : decode cX3_wantOf 13 = .ok (.iaload, 1) := by decide +kernel
theorem dX3_wantOf_14 : decode cX3_wantOf 14 = .ok (.goto 4, 3) := by decide +kernel
theorem dX3_wantOf_17 : decode cX3_wantOf 17 = .ok (.iconst (-1), 1) := by decide +kernel
theorem dX3_wantOf_18 : decode cX3_wantOf 18 = .ok (.ireturn, 1) := by decide +kernel
theorem dX3_blockOf_0 : decode cX3_blockOf 0 = .ok (.aload_n 0, 1) := by decide +kernel
theorem dX3_blockOf_1 : decode cX3_blockOf 1 = .ok (.iload_n 1, 1) := by decide +kernel
theorem dX3_blockOf_2 : decode cX3_blockOf 2 = .ok (.invokevirtual 57, 3) := by decide +kernel
theorem dX3_blockOf_5 : decode cX3_blockOf 5 = .ok (.ifCond .eq 12, 3) := by decide +kernel
theorem dX3_blockOf_8 : decode cX3_blockOf 8 = .ok (.aload_n 0, 1) := by decide +kernel
theorem dX3_blockOf_9 : decode cX3_blockOf 9 = .ok (.getfield 21, 3) := by decide +kernel
theorem dX3_blockOf_12 : decode cX3_blockOf 12 = .ok (.iload_n 1, 1) := by decide +kernel
theorem dX3_blockOf_13 : decode cX3_blockOf 13 = .ok (.iaload, 1) := by decide +kernel
theorem dX3_blockOf_14 : decode cX3_blockOf 14 = .ok (.goto 4, 3) := by decide +kernel
theorem dX3_blockOf_17 : decode cX3_blockOf 17 = .ok (.iconst (-1), 1) := by decide +kernel
theorem dX3_blockOf_18 : decode cX3_blockOf 18 = .ok (.ireturn, 1) := by decide +kernel
theorem dX3_placeOf_0 : decode cX3_placeOf 0 = .ok (.aload_n 0, 1) := by decide +kernel
theorem dX3_placeOf_1 : decode cX3_placeOf 1 = .ok (.iload_n 1, 1) := by decide +kernel
theorem dX3_placeOf_2 : decode cX3_placeOf 2 = .ok (.invokevirtual 61, 3) := by decide +kernel
theorem dX3_placeOf_5 : decode cX3_placeOf 5 = .ok (.ifCond .eq 12, 3) := by decide +kernel
theorem dX3_placeOf_8 : decode cX3_placeOf 8 = .ok (.aload_n 0, 1) := by decide +kernel
theorem dX3_placeOf_9 : decode cX3_placeOf 9 = .ok (.getfield 33, 3) := by decide +kernel
theorem dX3_placeOf_12 : decode cX3_placeOf 12 = .ok (.iload_n 1, 1) := by decide +kernel
theorem dX3_placeOf_13 : decode cX3_placeOf 13 = .ok (.iaload, 1) := by decide +kernel
theorem dX3_placeOf_14 : decode cX3_placeOf 14 = .ok (.goto 5, 3) := by decide +kernel
theorem dX3_placeOf_17 : decode cX3_placeOf 17 = .ok (.bipush (-9), 2) := by decide +kernel
theorem dX3_placeOf_19 : decode cX3_placeOf 19 = .ok (.ireturn, 1) := by decide +kernel
theorem dX3_setPlace_0 : decode cX3_setPlace 0 = .ok (.aload_n 0, 1) := by decide +kernel
theorem dX3_setPlace_1 : decode cX3_setPlace 1 = .ok (.iload_n 1, 1) := by decide +kernel
theorem dX3_setPlace_2 : decode cX3_setPlace 2 = .ok (.invokevirtual 61, 3) := by decide +kernel
theorem dX3_setPlace_5 : decode cX3_setPlace 5 = .ok (.ifCond .eq 10, 3) := by decide +kernel
theorem dX3_setPlace_8 : decode cX3_setPlace 8 = .ok (.aload_n 0, 1) := by decide +kernel
theorem dX3_setPlace_9 : decode cX3_setPlace 9 = .ok (.getfield 33, 3) := by decide +kernel
theorem dX3_setPlace_12 : decode cX3_setPlace 12 = .ok (.iload_n 1, 1) := by decide +kernel
theorem dX3_setPlace_13 : decode cX3_setPlace 13 = .ok (.iload_n 2, 1) := by decide +kernel
theorem dX3_setPlace_14 : decode cX3_setPlace 14 = .ok (.iastore, 1) := by decide +kernel
theorem dX3_setPlace_15 : decode cX3_setPlace 15 = .ok (.return_, 1) := by decide +kernel
theorem dX3_noticesOf_0 : decode cX3_noticesOf 0 = .ok (.aload_n 0, 1) := by decide +kernel
theorem dX3_noticesOf_1 : decode cX3_noticesOf 1 = .ok (.iload_n 1, 1) := by decide +kernel
theorem dX3_noticesOf_2 : decode cX3_noticesOf 2 = .ok (.invokevirtual 61, 3) := by decide +kernel
theorem dX3_noticesOf_5 : decode cX3_noticesOf 5 = .ok (.ifCond .eq 12, 3) := by decide +kernel
theorem dX3_noticesOf_8 : decode cX3_noticesOf 8 = .ok (.aload_n 0, 1) := by decide +kernel
theorem dX3_noticesOf_9 : decode cX3_noticesOf 9 = .ok (.getfield 36, 3) := by decide +kernel
theorem dX3_noticesOf_12 : decode cX3_noticesOf 12 = .ok (.iload_n 1, 1) := by decide +kernel
theorem dX3_noticesOf_13 : decode cX3_noticesOf 13 = .ok (.iaload, 1) := by decide +kernel
theorem dX3_noticesOf_14 : decode cX3_noticesOf 14 = .ok (.goto 4, 3) := by decide +kernel
theorem dX3_noticesOf_17 : decode cX3_noticesOf 17 = .ok (.iconst (-1), 1) := by decide +kernel
theorem dX3_noticesOf_18 : decode cX3_noticesOf 18 = .ok (.ireturn, 1) := by decide +kernel
theorem dX3_newsOf_0 : decode cX3_newsOf 0 = .ok (.aload_n 0, 1) := by decide +kernel
theorem dX3_newsOf_1 : decode cX3_newsOf 1 = .ok (.iload_n 1, 1) := by decide +kernel
theorem dX3_newsOf_2 : decode cX3_newsOf 2 = .ok (.invokevirtual 61, 3) := by decide +kernel
theorem dX3_newsOf_5 : decode cX3_newsOf 5 = .ok (.ifCond .eq 12, 3) := by decide +kernel
theorem dX3_newsOf_8 : decode cX3_newsOf 8 = .ok (.aload_n 0, 1) := by decide +kernel
theorem dX3_newsOf_9 : decode cX3_newsOf 9 = .ok (.getfield 39, 3) := by decide +kernel
theorem dX3_newsOf_12 : decode cX3_newsOf 12 = .ok (.iload_n 1, 1) := by decide +kernel
theorem dX3_newsOf_13 : decode cX3_newsOf 13 = .ok (.iaload, 1) := by decide +kernel
theorem dX3_newsOf_14 : decode cX3_newsOf 14 = .ok (.goto 4, 3) := by decide +kernel
theorem dX3_newsOf_17 : decode cX3_newsOf 17 = .ok (.iconst (-1), 1) := by decide +kernel
theorem dX3_newsOf_18 : decode cX3_newsOf 18 = .ok (.ireturn, 1) := by decide +kernel
theorem dX3_noticeTotal_0 : decode cX3_noticeTotal 0 = .ok (.iconst 0, 1) := by decide +kernel
theorem dX3_noticeTotal_1 : decode cX3_noticeTotal 1 = .ok (.istore_n 1, 1) := by decide +kernel
theorem dX3_noticeTotal_2 : decode cX3_noticeTotal 2 = .ok (.iconst 0, 1) := by decide +kernel
theorem dX3_noticeTotal_3 : decode cX3_noticeTotal 3 = .ok (.istore_n 2, 1) := by decide +kernel
theorem dX3_noticeTotal_4 : decode cX3_noticeTotal 4 = .ok (.iload_n 2, 1) := by decide +kernel
theorem dX3_noticeTotal_5 : decode cX3_noticeTotal 5 = .ok (.aload_n 0, 1) := by decide +kernel
theorem dX3_noticeTotal_6 : decode cX3_noticeTotal 6 = .ok (.getfield 46, 3) := by decide +kernel
theorem dX3_noticeTotal_9 : decode cX3_noticeTotal 9 = .ok (.if_icmp .ge 18, 3) := by decide +kernel
theorem dX3_noticeTotal_12 : decode cX3_noticeTotal 12 = .ok (.iload_n 1, 1) := by decide +kernel
theorem dX3_noticeTotal_13 : decode cX3_noticeTotal 13 = .ok (.aload_n 0, 1) := by decide +kernel
theorem dX3_noticeTotal_14 : decode cX3_noticeTotal 14 = .ok (.getfield 36, 3) := by decide +kernel
theorem dX3_noticeTotal_17 : decode cX3_noticeTotal 17 = .ok (.iload_n 2, 1) := by decide +kernel
theorem dX3_noticeTotal_18 : decode cX3_noticeTotal 18 = .ok (.iaload, 1) := by decide +kernel
theorem dX3_noticeTotal_19 : decode cX3_noticeTotal 19 = .ok (.iadd, 1) := by decide +kernel
theorem dX3_noticeTotal_20 : decode cX3_noticeTotal 20 = .ok (.istore_n 1, 1) := by decide +kernel
theorem dX3_noticeTotal_21 : decode cX3_noticeTotal 21 = .ok (.iinc 2 1, 3) := by decide +kernel
theorem dX3_noticeTotal_24 : decode cX3_noticeTotal 24 = .ok (.goto (-20), 3) := by decide +kernel
theorem dX3_noticeTotal_27 : decode cX3_noticeTotal 27 = .ok (.iload_n 1, 1) := by decide +kernel
theorem dX3_noticeTotal_28 : decode cX3_noticeTotal 28 = .ok (.ireturn, 1) := by decide +kernel
theorem dX3_isUp_0 : decode cX3_isUp 0 = .ok (.aload_n 0, 1) := by decide +kernel
theorem dX3_isUp_1 : decode cX3_isUp 1 = .ok (.iload_n 1, 1) := by decide +kernel
theorem dX3_isUp_2 : decode cX3_isUp 2 = .ok (.iload_n 2, 1) := by decide +kernel
theorem dX3_isUp_3 : decode cX3_isUp 3 = .ok (.invokevirtual 64, 3) := by decide +kernel
theorem dX3_isUp_6 : decode cX3_isUp 6 = .ok (.iconst 1, 1) := by decide +kernel
theorem dX3_isUp_7 : decode cX3_isUp 7 = .ok (.if_icmp .ne 7, 3) := by decide +kernel
theorem dX3_isUp_10 : decode cX3_isUp 10 = .ok (.iconst 1, 1) := by decide +kernel
theorem dX3_isUp_11 : decode cX3_isUp 11 = .ok (.goto 4, 3) := by decide +kernel
theorem dX3_isUp_14 : decode cX3_isUp 14 = .ok (.iconst 0, 1) := by decide +kernel
theorem dX3_isUp_15 : decode cX3_isUp 15 = .ok (.ireturn, 1) := by decide +kernel
theorem dX3_linkState_0 : decode cX3_linkState 0 = .ok (.aload_n 0, 1) := by decide +kernel
theorem dX3_linkState_1 : decode cX3_linkState 1 = .ok (.iload_n 1, 1) := by decide +kernel
theorem dX3_linkState_2 : decode cX3_linkState 2 = .ok (.iload_n 2, 1) := by decide +kernel
theorem dX3_linkState_3 : decode cX3_linkState 3 = .ok (.invokevirtual 68, 3) := by decide +kernel
theorem dX3_linkState_6 : decode cX3_linkState 6 = .ok (.ifCond .ne 5, 3) := by decide +kernel
theorem dX3_linkState_9 : decode cX3_linkState 9 = .ok (.iconst 0, 1) := by decide +kernel
theorem dX3_linkState_10 : decode cX3_linkState 10 = .ok (.ireturn, 1) := by decide +kernel
theorem dX3_linkState_11 : decode cX3_linkState 11 = .ok (.aload_n 0, 1) := by decide +kernel
theorem dX3_linkState_12 : decode cX3_linkState 12 = .ok (.getfield 24, 3) := by decide +kernel
theorem dX3_linkState_15 : decode cX3_linkState 15 = .ok (.iload_n 1, 1) := by decide +kernel
theorem dX3_linkState_16 : decode cX3_linkState 16 = .ok (.iaload, 1) := by decide +kernel
theorem dX3_linkState_17 : decode cX3_linkState 17 = .ok (.iload_n 2, 1) := by decide +kernel
theorem dX3_linkState_18 : decode cX3_linkState 18 = .ok (.invokestatic 72, 3) := by decide +kernel
theorem dX3_linkState_21 : decode cX3_linkState 21 = .ok (.ifCond .eq 5, 3) := by decide +kernel
theorem dX3_linkState_24 : decode cX3_linkState 24 = .ok (.iconst 1, 1) := by decide +kernel
theorem dX3_linkState_25 : decode cX3_linkState 25 = .ok (.ireturn, 1) := by decide +kernel
theorem dX3_linkState_26 : decode cX3_linkState 26 = .ok (.aload_n 0, 1) := by decide +kernel
theorem dX3_linkState_27 : decode cX3_linkState 27 = .ok (.getfield 27, 3) := by decide +kernel
theorem dX3_linkState_30 : decode cX3_linkState 30 = .ok (.iload_n 1, 1) := by decide +kernel
theorem dX3_linkState_31 : decode cX3_linkState 31 = .ok (.iaload, 1) := by decide +kernel
theorem dX3_linkState_32 : decode cX3_linkState 32 = .ok (.iload_n 2, 1) := by decide +kernel
theorem dX3_linkState_33 : decode cX3_linkState 33 = .ok (.invokestatic 72, 3) := by decide +kernel
theorem dX3_linkState_36 : decode cX3_linkState 36 = .ok (.ifCond .eq 7, 3) := by decide +kernel
theorem dX3_linkState_39 : decode cX3_linkState 39 = .ok (.iconst 2, 1) := by decide +kernel
theorem dX3_linkState_40 : decode cX3_linkState 40 = .ok (.goto 4, 3) := by decide +kernel
theorem dX3_linkState_43 : decode cX3_linkState 43 = .ok (.iconst 0, 1) := by decide +kernel
theorem dX3_linkState_44 : decode cX3_linkState 44 = .ok (.ireturn, 1) := by decide +kernel
theorem dX3_setLink_0 : decode cX3_setLink 0 = .ok (.aload_n 0, 1) := by decide +kernel
theorem dX3_setLink_1 : decode cX3_setLink 1 = .ok (.iload_n 1, 1) := by decide +kernel
theorem dX3_setLink_2 : decode cX3_setLink 2 = .ok (.iload_n 2, 1) := by decide +kernel
theorem dX3_setLink_3 : decode cX3_setLink 3 = .ok (.invokevirtual 68, 3) := by decide +kernel
theorem dX3_setLink_6 : decode cX3_setLink 6 = .ok (.ifCond .ne 4, 3) := by decide +kernel
theorem dX3_setLink_9 : decode cX3_setLink 9 = .ok (.return_, 1) := by decide +kernel
theorem dX3_setLink_10 : decode cX3_setLink 10 = .ok (.aload_n 0, 1) := by decide +kernel
theorem dX3_setLink_11 : decode cX3_setLink 11 = .ok (.iload_n 1, 1) := by decide +kernel
theorem dX3_setLink_12 : decode cX3_setLink 12 = .ok (.iconst 1, 1) := by decide +kernel
theorem dX3_setLink_13 : decode cX3_setLink 13 = .ok (.iload_n 2, 1) := by decide +kernel
theorem dX3_setLink_14 : decode cX3_setLink 14 = .ok (.ishl, 1) := by decide +kernel
theorem dX3_setLink_15 : decode cX3_setLink 15 = .ok (.iload_n 3, 1) := by decide +kernel
theorem dX3_setLink_16 : decode cX3_setLink 16 = .ok (.invokevirtual 75, 3) := by decide +kernel
theorem dX3_setLink_19 : decode cX3_setLink 19 = .ok (.aload_n 0, 1) := by decide +kernel
theorem dX3_setLink_20 : decode cX3_setLink 20 = .ok (.iload_n 2, 1) := by decide +kernel
theorem dX3_setLink_21 : decode cX3_setLink 21 = .ok (.iconst 1, 1) := by decide +kernel
theorem dX3_setLink_22 : decode cX3_setLink 22 = .ok (.iload_n 1, 1) := by decide +kernel
theorem dX3_setLink_23 : decode cX3_setLink 23 = .ok (.ishl, 1) := by decide +kernel
theorem dX3_setLink_24 : decode cX3_setLink 24 = .ok (.iload_n 3, 1) := by decide +kernel
theorem dX3_setLink_25 : decode cX3_setLink 25 = .ok (.invokevirtual 75, 3) := by decide +kernel
theorem dX3_setLink_28 : decode cX3_setLink 28 = .ok (.return_, 1) := by decide +kernel
theorem dX3_setEnd_0 : decode cX3_setEnd 0 = .ok (.aload_n 0, 1) := by decide +kernel
theorem dX3_setEnd_1 : decode cX3_setEnd 1 = .ok (.getfield 24, 3) := by decide +kernel
theorem dX3_setEnd_4 : decode cX3_setEnd 4 = .ok (.iload_n 1, 1) := by decide +kernel
theorem dX3_setEnd_5 : decode cX3_setEnd 5 = .ok (.iload_n 3, 1) := by decide +kernel
theorem dX3_setEnd_6 : decode cX3_setEnd 6 = .ok (.iconst 1, 1) := by decide +kernel
theorem dX3_setEnd_7 : decode cX3_setEnd 7 = .ok (.if_icmp .ne 14, 3) := by decide +kernel
theorem dX3_setEnd_10 : decode cX3_setEnd 10 = .ok (.aload_n 0, 1) := by decide +kernel
theorem dX3_setEnd_11 : decode cX3_setEnd 11 = .ok (.getfield 24, 3) := by decide +kernel
theorem dX3_setEnd_14 : decode cX3_setEnd 14 = .ok (.iload_n 1, 1) := by decide +kernel
theorem dX3_setEnd_15 : decode cX3_setEnd 15 = .ok (.iaload, 1) := by decide +kernel
theorem dX3_setEnd_16 : decode cX3_setEnd 16 = .ok (.iload_n 2, 1) := by decide +kernel
theorem dX3_setEnd_17 : decode cX3_setEnd 17 = .ok (.ior, 1) := by decide +kernel
theorem dX3_setEnd_18 : decode cX3_setEnd 18 = .ok (.goto 13, 3) := by decide +kernel
theorem dX3_setEnd_21 : decode cX3_setEnd 21 = .ok (.aload_n 0, 1) := by decide +kernel
theorem dX3_setEnd_22 : decode cX3_setEnd 22 = .ok (.getfield 24, 3) := by decide +kernel
theorem dX3_setEnd_25 : decode cX3_setEnd 25 = .ok (.iload_n 1, 1) := by decide +kernel
theorem dX3_setEnd_26 : decode cX3_setEnd 26 = .ok (.iaload, 1) := by decide +kernel
theorem dX3_setEnd_27 : decode cX3_setEnd 27 = .ok (.iload_n 2, 1) := by decide +kernel
theorem dX3_setEnd_28 : decode cX3_setEnd 28 = .ok (.iconst (-1), 1) := by decide +kernel
theorem dX3_setEnd_29 : decode cX3_setEnd 29 = .ok (.ixor, 1) := by decide +kernel
theorem dX3_setEnd_30 : decode cX3_setEnd 30 = .ok (.iand, 1) := by decide +kernel
theorem dX3_setEnd_31 : decode cX3_setEnd 31 = .ok (.iastore, 1) := by decide +kernel
theorem dX3_setEnd_32 : decode cX3_setEnd 32 = .ok (.aload_n 0, 1) := by decide +kernel
theorem dX3_setEnd_33 : decode cX3_setEnd 33 = .ok (.getfield 27, 3) := by decide +kernel
theorem dX3_setEnd_36 : decode cX3_setEnd 36 = .ok (.iload_n 1, 1) := by decide +kernel
theorem dX3_setEnd_37 : decode cX3_setEnd 37 = .ok (.iload_n 3, 1) := by decide +kernel
theorem dX3_setEnd_38 : decode cX3_setEnd 38 = .ok (.iconst 2, 1) := by decide +kernel
theorem dX3_setEnd_39 : decode cX3_setEnd 39 = .ok (.if_icmp .ne 14, 3) := by decide +kernel
theorem dX3_setEnd_42 : decode cX3_setEnd 42 = .ok (.aload_n 0, 1) := by decide +kernel
theorem dX3_setEnd_43 : decode cX3_setEnd 43 = .ok (.getfield 27, 3) := by decide +kernel
theorem dX3_setEnd_46 : decode cX3_setEnd 46 = .ok (.iload_n 1, 1) := by decide +kernel
theorem dX3_setEnd_47 : decode cX3_setEnd 47 = .ok (.iaload, 1) := by decide +kernel
theorem dX3_setEnd_48 : decode cX3_setEnd 48 = .ok (.iload_n 2, 1) := by decide +kernel
theorem dX3_setEnd_49 : decode cX3_setEnd 49 = .ok (.ior, 1) := by decide +kernel
theorem dX3_setEnd_50 : decode cX3_setEnd 50 = .ok (.goto 13, 3) := by decide +kernel
theorem dX3_setEnd_53 : decode cX3_setEnd 53 = .ok (.aload_n 0, 1) := by decide +kernel
theorem dX3_setEnd_54 : decode cX3_setEnd 54 = .ok (.getfield 27, 3) := by decide +kernel
theorem dX3_setEnd_57 : decode cX3_setEnd 57 = .ok (.iload_n 1, 1) := by decide +kernel
theorem dX3_setEnd_58 : decode cX3_setEnd 58 = .ok (.iaload, 1) := by decide +kernel
theorem dX3_setEnd_59 : decode cX3_setEnd 59 = .ok (.iload_n 2, 1) := by decide +kernel
theorem dX3_setEnd_60 : decode cX3_setEnd 60 = .ok (.iconst (-1), 1) := by decide +kernel
theorem dX3_setEnd_61 : decode cX3_setEnd 61 = .ok (.ixor, 1) := by decide +kernel
theorem dX3_setEnd_62 : decode cX3_setEnd 62 = .ok (.iand, 1) := by decide +kernel
theorem dX3_setEnd_63 : decode cX3_setEnd 63 = .ok (.iastore, 1) := by decide +kernel
theorem dX3_setEnd_64 : decode cX3_setEnd 64 = .ok (.return_, 1) := by decide +kernel
theorem dX3_linkTotal_0 : decode cX3_linkTotal 0 = .ok (.iconst 0, 1) := by decide +kernel
theorem dX3_linkTotal_1 : decode cX3_linkTotal 1 = .ok (.istore_n 2, 1) := by decide +kernel
theorem dX3_linkTotal_2 : decode cX3_linkTotal 2 = .ok (.iconst 0, 1) := by decide +kernel
theorem dX3_linkTotal_3 : decode cX3_linkTotal 3 = .ok (.istore_n 3, 1) := by decide +kernel
theorem dX3_linkTotal_4 : decode cX3_linkTotal 4 = .ok (.iload_n 3, 1) := by decide +kernel
theorem dX3_linkTotal_5 : decode cX3_linkTotal 5 = .ok (.aload_n 0, 1) := by decide +kernel
theorem dX3_linkTotal_6 : decode cX3_linkTotal 6 = .ok (.getfield 42, 3) := by decide +kernel
theorem dX3_linkTotal_9 : decode cX3_linkTotal 9 = .ok (.if_icmp .ge 35, 3) := by decide +kernel
theorem dX3_linkTotal_12 : decode cX3_linkTotal 12 = .ok (.iload_n 2, 1) := by decide +kernel
theorem dX3_linkTotal_13 : decode cX3_linkTotal 13 = .ok (.iload_n 1, 1) := by decide +kernel
theorem dX3_linkTotal_14 : decode cX3_linkTotal 14 = .ok (.iconst 1, 1) := by decide +kernel
theorem dX3_linkTotal_15 : decode cX3_linkTotal 15 = .ok (.if_icmp .ne 12, 3) := by decide +kernel
theorem dX3_linkTotal_18 : decode cX3_linkTotal 18 = .ok (.aload_n 0, 1) := by decide +kernel
theorem dX3_linkTotal_19 : decode cX3_linkTotal 19 = .ok (.getfield 24, 3) := by decide +kernel
theorem dX3_linkTotal_22 : decode cX3_linkTotal 22 = .ok (.iload_n 3, 1) := by decide +kernel
theorem dX3_linkTotal_23 : decode cX3_linkTotal 23 = .ok (.iaload, 1) := by decide +kernel
theorem dX3_linkTotal_24 : decode cX3_linkTotal 24 = .ok (.goto 9, 3) := by decide +kernel
theorem dX3_linkTotal_27 : decode cX3_linkTotal 27 = .ok (.aload_n 0, 1) := by decide +kernel
theorem dX3_linkTotal_28 : decode cX3_linkTotal 28 = .ok (.getfield 27, 3) := by decide +kernel
theorem dX3_linkTotal_31 : decode cX3_linkTotal 31 = .ok (.iload_n 3, 1) := by decide +kernel
theorem dX3_linkTotal_32 : decode cX3_linkTotal 32 = .ok (.iaload, 1) := by decide +kernel
theorem dX3_linkTotal_33 : decode cX3_linkTotal 33 = .ok (.invokestatic 79, 3) := by decide +kernel
theorem dX3_linkTotal_36 : decode cX3_linkTotal 36 = .ok (.iadd, 1) := by decide +kernel
theorem dX3_linkTotal_37 : decode cX3_linkTotal 37 = .ok (.istore_n 2, 1) := by decide +kernel
theorem dX3_linkTotal_38 : decode cX3_linkTotal 38 = .ok (.iinc 3 1, 3) := by decide +kernel
theorem dX3_linkTotal_41 : decode cX3_linkTotal 41 = .ok (.goto (-37), 3) := by decide +kernel
theorem dX3_linkTotal_44 : decode cX3_linkTotal 44 = .ok (.iload_n 2, 1) := by decide +kernel
theorem dX3_linkTotal_45 : decode cX3_linkTotal 45 = .ok (.iconst 2, 1) := by decide +kernel
theorem dX3_linkTotal_46 : decode cX3_linkTotal 46 = .ok (.idiv, 1) := by decide +kernel
theorem dX3_linkTotal_47 : decode cX3_linkTotal 47 = .ok (.ireturn, 1) := by decide +kernel
theorem dX3_spread_0 : decode cX3_spread 0 = .ok (.iload_n 1, 1) := by decide +kernel
theorem dX3_spread_1 : decode cX3_spread 1 = .ok (.istore_n 2, 1) := by decide +kernel
theorem dX3_spread_2 : decode cX3_spread 2 = .ok (.iconst 0, 1) := by decide +kernel
theorem dX3_spread_3 : decode cX3_spread 3 = .ok (.istore_n 3, 1) := by decide +kernel
theorem dX3_spread_4 : decode cX3_spread 4 = .ok (.iload_n 3, 1) := by decide +kernel
theorem dX3_spread_5 : decode cX3_spread 5 = .ok (.aload_n 0, 1) := by decide +kernel
theorem dX3_spread_6 : decode cX3_spread 6 = .ok (.getfield 42, 3) := by decide +kernel
theorem dX3_spread_9 : decode cX3_spread 9 = .ok (.if_icmp .ge 26, 3) := by decide +kernel
theorem dX3_spread_12 : decode cX3_spread 12 = .ok (.iload_n 1, 1) := by decide +kernel
theorem dX3_spread_13 : decode cX3_spread 13 = .ok (.iload_n 3, 1) := by decide +kernel
theorem dX3_spread_14 : decode cX3_spread 14 = .ok (.invokestatic 72, 3) := by decide +kernel
theorem dX3_spread_17 : decode cX3_spread 17 = .ok (.ifCond .eq 12, 3) := by decide +kernel
theorem dX3_spread_20 : decode cX3_spread 20 = .ok (.iload_n 2, 1) := by decide +kernel
theorem dX3_spread_21 : decode cX3_spread 21 = .ok (.aload_n 0, 1) := by decide +kernel
theorem dX3_spread_22 : decode cX3_spread 22 = .ok (.getfield 24, 3) := by decide +kernel
theorem dX3_spread_25 : decode cX3_spread 25 = .ok (.iload_n 3, 1) := by decide +kernel
theorem dX3_spread_26 : decode cX3_spread 26 = .ok (.iaload, 1) := by decide +kernel
theorem dX3_spread_27 : decode cX3_spread 27 = .ok (.ior, 1) := by decide +kernel
theorem dX3_spread_28 : decode cX3_spread 28 = .ok (.istore_n 2, 1) := by decide +kernel
theorem dX3_spread_29 : decode cX3_spread 29 = .ok (.iinc 3 1, 3) := by decide +kernel
theorem dX3_spread_32 : decode cX3_spread 32 = .ok (.goto (-28), 3) := by decide +kernel
theorem dX3_spread_35 : decode cX3_spread 35 = .ok (.iload_n 2, 1) := by decide +kernel
theorem dX3_spread_36 : decode cX3_spread 36 = .ok (.ireturn, 1) := by decide +kernel
theorem dX3_fabricOf_0 : decode cX3_fabricOf 0 = .ok (.iconst 1, 1) := by decide +kernel
theorem dX3_fabricOf_1 : decode cX3_fabricOf 1 = .ok (.iload_n 1, 1) := by decide +kernel
theorem dX3_fabricOf_2 : decode cX3_fabricOf 2 = .ok (.ishl, 1) := by decide +kernel
theorem dX3_fabricOf_3 : decode cX3_fabricOf 3 = .ok (.istore_n 2, 1) := by decide +kernel
theorem dX3_fabricOf_4 : decode cX3_fabricOf 4 = .ok (.iconst 1, 1) := by decide +kernel
theorem dX3_fabricOf_5 : decode cX3_fabricOf 5 = .ok (.istore_n 3, 1) := by decide +kernel
theorem dX3_fabricOf_6 : decode cX3_fabricOf 6 = .ok (.iload_n 3, 1) := by decide +kernel
theorem dX3_fabricOf_7 : decode cX3_fabricOf 7 = .ok (.aload_n 0, 1) := by decide +kernel
theorem dX3_fabricOf_8 : decode cX3_fabricOf 8 = .ok (.getfield 42, 3) := by decide +kernel
theorem dX3_fabricOf_11 : decode cX3_fabricOf 11 = .ok (.if_icmp .ge 15, 3) := by decide +kernel
theorem dX3_fabricOf_14 : decode cX3_fabricOf 14 = .ok (.aload_n 0, 1) := by decide +kernel
theorem dX3_fabricOf_15 : decode cX3_fabricOf 15 = .ok (.iload_n 2, 1) := by decide +kernel
theorem dX3_fabricOf_16 : decode cX3_fabricOf 16 = .ok (.invokevirtual 85, 3) := by decide +kernel
theorem dX3_fabricOf_19 : decode cX3_fabricOf 19 = .ok (.istore_n 2, 1) := by decide +kernel
theorem dX3_fabricOf_20 : decode cX3_fabricOf 20 = .ok (.iinc 3 1, 3) := by decide +kernel
theorem dX3_fabricOf_23 : decode cX3_fabricOf 23 = .ok (.goto (-17), 3) := by decide +kernel
theorem dX3_fabricOf_26 : decode cX3_fabricOf 26 = .ok (.iload_n 2, 1) := by decide +kernel
theorem dX3_fabricOf_27 : decode cX3_fabricOf 27 = .ok (.ireturn, 1) := by decide +kernel
theorem dX3_fabricTotal_0 : decode cX3_fabricTotal 0 = .ok (.iconst 0, 1) := by decide +kernel
theorem dX3_fabricTotal_1 : decode cX3_fabricTotal 1 = .ok (.istore_n 1, 1) := by decide +kernel
theorem dX3_fabricTotal_2 : decode cX3_fabricTotal 2 = .ok (.iconst 0, 1) := by decide +kernel
theorem dX3_fabricTotal_3 : decode cX3_fabricTotal 3 = .ok (.istore_n 2, 1) := by decide +kernel
theorem dX3_fabricTotal_4 : decode cX3_fabricTotal 4 = .ok (.iconst 0, 1) := by decide +kernel
theorem dX3_fabricTotal_5 : decode cX3_fabricTotal 5 = .ok (.istore_n 3, 1) := by decide +kernel
theorem dX3_fabricTotal_6 : decode cX3_fabricTotal 6 = .ok (.iload_n 3, 1) := by decide +kernel
theorem dX3_fabricTotal_7 : decode cX3_fabricTotal 7 = .ok (.aload_n 0, 1) := by decide +kernel
theorem dX3_fabricTotal_8 : decode cX3_fabricTotal 8 = .ok (.getfield 42, 3) := by decide +kernel
theorem dX3_fabricTotal_11 : decode cX3_fabricTotal 11 = .ok (.if_icmp .ge 28, 3) := by decide +kernel
theorem dX3_fabricTotal_14 : decode cX3_fabricTotal 14 = .ok (.iload_n 2, 1) := by decide +kernel
theorem dX3_fabricTotal_15 : decode cX3_fabricTotal 15 = .ok (.iload_n 3, 1) := by decide +kernel
theorem dX3_fabricTotal_16 : decode cX3_fabricTotal 16 = .ok (.invokestatic 72, 3) := by decide +kernel
theorem dX3_fabricTotal_19 : decode cX3_fabricTotal 19 = .ok (.ifCond .ne 14, 3) := by decide +kernel
theorem dX3_fabricTotal_22 : decode cX3_fabricTotal 22 = .ok (.iload_n 2, 1) := by decide +kernel
theorem dX3_fabricTotal_23 : decode cX3_fabricTotal 23 = .ok (.aload_n 0, 1) := by decide +kernel
theorem dX3_fabricTotal_24 : decode cX3_fabricTotal 24 = .ok (.iload_n 3, 1) := by decide +kernel
theorem dX3_fabricTotal_25 : decode cX3_fabricTotal 25 = .ok (.invokevirtual 88, 3) := by decide +kernel
theorem dX3_fabricTotal_28 : decode cX3_fabricTotal 28 = .ok (.ior, 1) := by decide +kernel
theorem dX3_fabricTotal_29 : decode cX3_fabricTotal 29 = .ok (.istore_n 2, 1) := by decide +kernel
theorem dX3_fabricTotal_30 : decode cX3_fabricTotal 30 = .ok (.iinc 1 1, 3) := by decide +kernel
theorem dX3_fabricTotal_33 : decode cX3_fabricTotal 33 = .ok (.iinc 3 1, 3) := by decide +kernel
theorem dX3_fabricTotal_36 : decode cX3_fabricTotal 36 = .ok (.goto (-30), 3) := by decide +kernel
theorem dX3_fabricTotal_39 : decode cX3_fabricTotal 39 = .ok (.iload_n 1, 1) := by decide +kernel
theorem dX3_fabricTotal_40 : decode cX3_fabricTotal 40 = .ok (.ireturn, 1) := by decide +kernel
theorem dX3_principalOf_0 : decode cX3_principalOf 0 = .ok (.bipush (-9), 2) := by decide +kernel
theorem dX3_principalOf_2 : decode cX3_principalOf 2 = .ok (.istore_n 2, 1) := by decide +kernel
theorem dX3_principalOf_3 : decode cX3_principalOf 3 = .ok (.iconst 0, 1) := by decide +kernel
theorem dX3_principalOf_4 : decode cX3_principalOf 4 = .ok (.istore_n 3, 1) := by decide +kernel
theorem dX3_principalOf_5 : decode cX3_principalOf 5 = .ok (.iload_n 3, 1) := by decide +kernel
theorem dX3_principalOf_6 : decode cX3_principalOf 6 = .ok (.aload_n 0, 1) := by decide +kernel
theorem dX3_principalOf_7 : decode cX3_principalOf 7 = .ok (.getfield 42, 3) := by decide +kernel
theorem dX3_principalOf_10 : decode cX3_principalOf 10 = .ok (.if_icmp .ge 34, 3) := by decide +kernel
theorem dX3_principalOf_13 : decode cX3_principalOf 13 = .ok (.iload_n 1, 1) := by decide +kernel
theorem dX3_principalOf_14 : decode cX3_principalOf 14 = .ok (.iload_n 3, 1) := by decide +kernel
theorem dX3_principalOf_15 : decode cX3_principalOf 15 = .ok (.invokestatic 72, 3) := by decide +kernel
theorem dX3_principalOf_18 : decode cX3_principalOf 18 = .ok (.ifCond .eq 20, 3) := by decide +kernel
theorem dX3_principalOf_21 : decode cX3_principalOf 21 = .ok (.iload_n 2, 1) := by decide +kernel
theorem dX3_principalOf_22 : decode cX3_principalOf 22 = .ok (.bipush (-9), 2) := by decide +kernel
theorem dX3_principalOf_24 : decode cX3_principalOf 24 = .ok (.if_icmp .eq 12, 3) := by decide +kernel
theorem dX3_principalOf_27 : decode cX3_principalOf 27 = .ok (.aload_n 0, 1) := by decide +kernel
theorem dX3_principalOf_28 : decode cX3_principalOf 28 = .ok (.iload_n 3, 1) := by decide +kernel
theorem dX3_principalOf_29 : decode cX3_principalOf 29 = .ok (.iload_n 2, 1) := by decide +kernel
theorem dX3_principalOf_30 : decode cX3_principalOf 30 = .ok (.invokevirtual 91, 3) := by decide +kernel
theorem dX3_principalOf_33 : decode cX3_principalOf 33 = .ok (.ifCond .eq 5, 3) := by decide +kernel
theorem dX3_principalOf_36 : decode cX3_principalOf 36 = .ok (.iload_n 3, 1) := by decide +kernel
theorem dX3_principalOf_37 : decode cX3_principalOf 37 = .ok (.istore_n 2, 1) := by decide +kernel
theorem dX3_principalOf_38 : decode cX3_principalOf 38 = .ok (.iinc 3 1, 3) := by decide +kernel
theorem dX3_principalOf_41 : decode cX3_principalOf 41 = .ok (.goto (-36), 3) := by decide +kernel
theorem dX3_principalOf_44 : decode cX3_principalOf 44 = .ok (.iload_n 2, 1) := by decide +kernel
theorem dX3_principalOf_45 : decode cX3_principalOf 45 = .ok (.ireturn, 1) := by decide +kernel
theorem dX3_goesAhead_0 : decode cX3_goesAhead 0 = .ok (.aload_n 0, 1) := by decide +kernel
theorem dX3_goesAhead_1 : decode cX3_goesAhead 1 = .ok (.iload_n 1, 1) := by decide +kernel
theorem dX3_goesAhead_2 : decode cX3_goesAhead 2 = .ok (.invokevirtual 94, 3) := by decide +kernel
theorem dX3_goesAhead_5 : decode cX3_goesAhead 5 = .ok (.aload_n 0, 1) := by decide +kernel
theorem dX3_goesAhead_6 : decode cX3_goesAhead 6 = .ok (.iload_n 2, 1) := by decide +kernel
theorem dX3_goesAhead_7 : decode cX3_goesAhead 7 = .ok (.invokevirtual 94, 3) := by decide +kernel
theorem dX3_goesAhead_10 : decode cX3_goesAhead 10 = .ok (.if_icmp .eq 22, 3) := by decide +kernel
theorem dX3_goesAhead_13 : decode cX3_goesAhead 13 = .ok (.aload_n 0, 1) := by decide +kernel
theorem dX3_goesAhead_14 : decode cX3_goesAhead 14 = .ok (.iload_n 1, 1) := by decide +kernel
theorem dX3_goesAhead_15 : decode cX3_goesAhead 15 = .ok (.invokevirtual 94, 3) := by decide +kernel
theorem dX3_goesAhead_18 : decode cX3_goesAhead 18 = .ok (.aload_n 0, 1) := by decide +kernel
theorem dX3_goesAhead_19 : decode cX3_goesAhead 19 = .ok (.iload_n 2, 1) := by decide +kernel
theorem dX3_goesAhead_20 : decode cX3_goesAhead 20 = .ok (.invokevirtual 94, 3) := by decide +kernel
theorem dX3_goesAhead_23 : decode cX3_goesAhead 23 = .ok (.if_icmp .ge 7, 3) := by decide +kernel
theorem dX3_goesAhead_26 : decode cX3_goesAhead 26 = .ok (.iconst 1, 1) := by decide +kernel
theorem dX3_goesAhead_27 : decode cX3_goesAhead 27 = .ok (.goto 4, 3) := by decide +kernel
theorem dX3_goesAhead_30 : decode cX3_goesAhead 30 = .ok (.iconst 0, 1) := by decide +kernel
theorem dX3_goesAhead_31 : decode cX3_goesAhead 31 = .ok (.ireturn, 1) := by decide +kernel
theorem dX3_goesAhead_32 : decode cX3_goesAhead 32 = .ok (.aload_n 0, 1) := by decide +kernel
theorem dX3_goesAhead_33 : decode cX3_goesAhead 33 = .ok (.iload_n 1, 1) := by decide +kernel
theorem dX3_goesAhead_34 : decode cX3_goesAhead 34 = .ok (.invokevirtual 97, 3) := by decide +kernel
theorem dX3_goesAhead_37 : decode cX3_goesAhead 37 = .ok (.aload_n 0, 1) := by decide +kernel
theorem dX3_goesAhead_38 : decode cX3_goesAhead 38 = .ok (.iload_n 2, 1) := by decide +kernel
theorem dX3_goesAhead_39 : decode cX3_goesAhead 39 = .ok (.invokevirtual 97, 3) := by decide +kernel
theorem dX3_goesAhead_42 : decode cX3_goesAhead 42 = .ok (.if_icmp .ge 7, 3) := by decide +kernel
theorem dX3_goesAhead_45 : decode cX3_goesAhead 45 = .ok (.iconst 1, 1) := by decide +kernel
theorem dX3_goesAhead_46 : decode cX3_goesAhead 46 = .ok (.goto 4, 3) := by decide +kernel
theorem dX3_goesAhead_49 : decode cX3_goesAhead 49 = .ok (.iconst 0, 1) := by decide +kernel
theorem dX3_goesAhead_50 : decode cX3_goesAhead 50 = .ok (.ireturn, 1) := by decide +kernel
theorem dX3_farOf_0 : decode cX3_farOf 0 = .ok (.iconst 1, 1) := by decide +kernel
theorem dX3_farOf_1 : decode cX3_farOf 1 = .ok (.aload_n 0, 1) := by decide +kernel
theorem dX3_farOf_2 : decode cX3_farOf 2 = .ok (.aload_n 0, 1) := by decide +kernel
theorem dX3_farOf_3 : decode cX3_farOf 3 = .ok (.iload_n 1, 1) := by decide +kernel
theorem dX3_farOf_4 : decode cX3_farOf 4 = .ok (.invokevirtual 88, 3) := by decide +kernel
theorem dX3_farOf_7 : decode cX3_farOf 7 = .ok (.invokevirtual 100, 3) := by decide +kernel
theorem dX3_farOf_10 : decode cX3_farOf 10 = .ok (.ishl, 1) := by decide +kernel
theorem dX3_farOf_11 : decode cX3_farOf 11 = .ok (.istore_n 2, 1) := by decide +kernel
theorem dX3_farOf_12 : decode cX3_farOf 12 = .ok (.iconst 0, 1) := by decide +kernel
theorem dX3_farOf_13 : decode cX3_farOf 13 = .ok (.istore_n 3, 1) := by decide +kernel
theorem dX3_farOf_14 : decode cX3_farOf 14 = .ok (.iload_n 3, 1) := by decide +kernel
theorem dX3_farOf_15 : decode cX3_farOf 15 = .ok (.aload_n 0, 1) := by decide +kernel
theorem dX3_farOf_16 : decode cX3_farOf 16 = .ok (.getfield 42, 3) := by decide +kernel
theorem dX3_farOf_19 : decode cX3_farOf 19 = .ok (.if_icmp .ge 23, 3) := by decide +kernel
theorem dX3_farOf_22 : decode cX3_farOf 22 = .ok (.iload_n 2, 1) := by decide +kernel
theorem dX3_farOf_23 : decode cX3_farOf 23 = .ok (.iload_n 1, 1) := by decide +kernel
theorem dX3_farOf_24 : decode cX3_farOf 24 = .ok (.invokestatic 72, 3) := by decide +kernel
theorem dX3_farOf_27 : decode cX3_farOf 27 = .ok (.ifCond .ne 15, 3) := by decide +kernel
theorem dX3_farOf_30 : decode cX3_farOf 30 = .ok (.aload_n 0, 1) := by decide +kernel
theorem dX3_farOf_31 : decode cX3_farOf 31 = .ok (.iload_n 2, 1) := by decide +kernel
theorem dX3_farOf_32 : decode cX3_farOf 32 = .ok (.invokevirtual 85, 3) := by decide +kernel
theorem dX3_farOf_35 : decode cX3_farOf 35 = .ok (.istore_n 2, 1) := by decide +kernel
theorem dX3_farOf_36 : decode cX3_farOf 36 = .ok (.iinc 3 1, 3) := by decide +kernel
theorem dX3_farOf_39 : decode cX3_farOf 39 = .ok (.goto (-25), 3) := by decide +kernel
theorem dX3_farOf_42 : decode cX3_farOf 42 = .ok (.iload_n 3, 1) := by decide +kernel
theorem dX3_farOf_43 : decode cX3_farOf 43 = .ok (.ireturn, 1) := by decide +kernel
theorem dX3_handOut_0 : decode cX3_handOut 0 = .ok (.iconst 0, 1) := by decide +kernel
theorem dX3_handOut_1 : decode cX3_handOut 1 = .ok (.istore_n 2, 1) := by decide +kernel
theorem dX3_handOut_2 : decode cX3_handOut 2 = .ok (.iconst 0, 1) := by decide +kernel
theorem dX3_handOut_3 : decode cX3_handOut 3 = .ok (.istore_n 3, 1) := by decide +kernel
theorem dX3_handOut_4 : decode cX3_handOut 4 = .ok (.iconst 0, 1) := by decide +kernel
theorem dX3_handOut_5 : decode cX3_handOut 5 = .ok (.istore 4, 2) := by decide +kernel
theorem dX3_handOut_7 : decode cX3_handOut 7 = .ok (.iconst 1, 1) := by decide +kernel
theorem dX3_handOut_8 : decode cX3_handOut 8 = .ok (.aload_n 0, 1) := by decide +kernel
theorem dX3_handOut_9 : decode cX3_handOut 9 = .ok (.iload_n 1, 1) := by decide +kernel
theorem dX3_handOut_10 : decode cX3_handOut 10 = .ok (.invokevirtual 100, 3) := by decide +kernel
theorem dX3_handOut_13 : decode cX3_handOut 13 = .ok (.ishl, 1) := by decide +kernel
theorem dX3_handOut_14 : decode cX3_handOut 14 = .ok (.istore 5, 2) := by decide +kernel
theorem dX3_handOut_16 : decode cX3_handOut 16 = .ok (.iconst 0, 1) := by decide +kernel
theorem dX3_handOut_17 : decode cX3_handOut 17 = .ok (.istore 6, 2) := by decide +kernel
theorem dX3_handOut_19 : decode cX3_handOut 19 = .ok (.iload 6, 2) := by decide +kernel
theorem dX3_handOut_21 : decode cX3_handOut 21 = .ok (.aload_n 0, 1) := by decide +kernel
theorem dX3_handOut_22 : decode cX3_handOut 22 = .ok (.getfield 42, 3) := by decide +kernel
theorem dX3_handOut_25 : decode cX3_handOut 25 = .ok (.if_icmp .ge 88, 3) := by decide +kernel
theorem dX3_handOut_28 : decode cX3_handOut 28 = .ok (.iload_n 3, 1) := by decide +kernel
theorem dX3_handOut_29 : decode cX3_handOut 29 = .ok (.iload_n 1, 1) := by decide +kernel
theorem dX3_handOut_30 : decode cX3_handOut 30 = .ok (.if_icmp .eq 83, 3) := by decide +kernel
theorem dX3_handOut_33 : decode cX3_handOut 33 = .ok (.iload_n 3, 1) := by decide +kernel
theorem dX3_handOut_34 : decode cX3_handOut 34 = .ok (.iload 5, 2) := by decide +kernel
theorem dX3_handOut_36 : decode cX3_handOut 36 = .ok (.if_icmp .ne 11, 3) := by decide +kernel
theorem dX3_handOut_39 : decode cX3_handOut 39 = .ok (.aload_n 0, 1) := by decide +kernel
theorem dX3_handOut_40 : decode cX3_handOut 40 = .ok (.iload 5, 2) := by decide +kernel
theorem dX3_handOut_42 : decode cX3_handOut 42 = .ok (.invokevirtual 85, 3) := by decide +kernel
theorem dX3_handOut_45 : decode cX3_handOut 45 = .ok (.istore 5, 2) := by decide +kernel
theorem dX3_handOut_47 : decode cX3_handOut 47 = .ok (.aload_n 0, 1) := by decide +kernel
theorem dX3_handOut_48 : decode cX3_handOut 48 = .ok (.iload 5, 2) := by decide +kernel
theorem dX3_handOut_50 : decode cX3_handOut 50 = .ok (.iload_n 3, 1) := by decide +kernel
theorem dX3_handOut_51 : decode cX3_handOut 51 = .ok (.iconst (-1), 1) := by decide +kernel
theorem dX3_handOut_52 : decode cX3_handOut 52 = .ok (.ixor, 1) := by decide +kernel
theorem dX3_handOut_53 : decode cX3_handOut 53 = .ok (.iand, 1) := by decide +kernel
theorem dX3_handOut_54 : decode cX3_handOut 54 = .ok (.invokevirtual 103, 3) := by decide +kernel
theorem dX3_handOut_57 : decode cX3_handOut 57 = .ok (.istore 7, 2) := by decide +kernel
theorem dX3_handOut_59 : decode cX3_handOut 59 = .ok (.aload_n 0, 1) := by decide +kernel
theorem dX3_handOut_60 : decode cX3_handOut 60 = .ok (.iload 7, 2) := by decide +kernel
theorem dX3_handOut_62 : decode cX3_handOut 62 = .ok (.iload 4, 2) := by decide +kernel
theorem dX3_handOut_64 : decode cX3_handOut 64 = .ok (.invokevirtual 106, 3) := by decide +kernel
theorem dX3_handOut_67 : decode cX3_handOut 67 = .ok (.istore 8, 2) := by decide +kernel
theorem dX3_handOut_69 : decode cX3_handOut 69 = .ok (.aload_n 0, 1) := by decide +kernel
theorem dX3_handOut_70 : decode cX3_handOut 70 = .ok (.iload 7, 2) := by decide +kernel
theorem dX3_handOut_72 : decode cX3_handOut 72 = .ok (.invokevirtual 109, 3) := by decide +kernel
theorem dX3_handOut_75 : decode cX3_handOut 75 = .ok (.iload 8, 2) := by decide +kernel
theorem dX3_handOut_77 : decode cX3_handOut 77 = .ok (.if_icmp .eq 6, 3) := by decide +kernel
theorem dX3_handOut_80 : decode cX3_handOut 80 = .ok (.iinc 2 1, 3) := by decide +kernel
theorem dX3_handOut_83 : decode cX3_handOut 83 = .ok (.aload_n 0, 1) := by decide +kernel
theorem dX3_handOut_84 : decode cX3_handOut 84 = .ok (.iload 7, 2) := by decide +kernel
theorem dX3_handOut_86 : decode cX3_handOut 86 = .ok (.iload 8, 2) := by decide +kernel
theorem dX3_handOut_88 : decode cX3_handOut 88 = .ok (.invokevirtual 112, 3) := by decide +kernel
theorem dX3_handOut_91 : decode cX3_handOut 91 = .ok (.iload 4, 2) := by decide +kernel
theorem dX3_handOut_93 : decode cX3_handOut 93 = .ok (.iconst 1, 1) := by decide +kernel
theorem dX3_handOut_94 : decode cX3_handOut 94 = .ok (.iload 8, 2) := by decide +kernel
theorem dX3_handOut_96 : decode cX3_handOut 96 = .ok (.ishl, 1) := by decide +kernel
theorem dX3_handOut_97 : decode cX3_handOut 97 = .ok (.ior, 1) := by decide +kernel
theorem dX3_handOut_98 : decode cX3_handOut 98 = .ok (.istore 4, 2) := by decide +kernel
theorem dX3_handOut_100 : decode cX3_handOut 100 = .ok (.iload_n 3, 1) := by decide +kernel
theorem dX3_handOut_101 : decode cX3_handOut 101 = .ok (.iconst 1, 1) := by decide +kernel
theorem dX3_handOut_102 : decode cX3_handOut 102 = .ok (.iload 7, 2) := by decide +kernel
theorem dX3_handOut_104 : decode cX3_handOut 104 = .ok (.ishl, 1) := by decide +kernel
theorem dX3_handOut_105 : decode cX3_handOut 105 = .ok (.ior, 1) := by decide +kernel
theorem dX3_handOut_106 : decode cX3_handOut 106 = .ok (.istore_n 3, 1) := by decide +kernel
theorem dX3_handOut_107 : decode cX3_handOut 107 = .ok (.iinc 6 1, 3) := by decide +kernel
theorem dX3_handOut_110 : decode cX3_handOut 110 = .ok (.goto (-91), 3) := by decide +kernel
theorem dX3_handOut_113 : decode cX3_handOut 113 = .ok (.iload_n 2, 1) := by decide +kernel
theorem dX3_handOut_114 : decode cX3_handOut 114 = .ok (.ireturn, 1) := by decide +kernel
theorem dX3_setBlock_0 : decode cX3_setBlock 0 = .ok (.aload_n 0, 1) := by decide +kernel
theorem dX3_setBlock_1 : decode cX3_setBlock 1 = .ok (.iload_n 1, 1) := by decide +kernel
theorem dX3_setBlock_2 : decode cX3_setBlock 2 = .ok (.invokevirtual 57, 3) := by decide +kernel
theorem dX3_setBlock_5 : decode cX3_setBlock 5 = .ok (.ifCond .eq 10, 3) := by decide +kernel
theorem dX3_setBlock_8 : decode cX3_setBlock 8 = .ok (.aload_n 0, 1) := by decide +kernel
theorem dX3_setBlock_9 : decode cX3_setBlock 9 = .ok (.getfield 21, 3) := by decide +kernel
theorem dX3_setBlock_12 : decode cX3_setBlock 12 = .ok (.iload_n 1, 1) := by decide +kernel
theorem dX3_setBlock_13 : decode cX3_setBlock 13 = .ok (.iload_n 2, 1) := by decide +kernel
theorem dX3_setBlock_14 : decode cX3_setBlock 14 = .ok (.iastore, 1) := by decide +kernel
theorem dX3_setBlock_15 : decode cX3_setBlock 15 = .ok (.return_, 1) := by decide +kernel
theorem dX3_lowestNameOf_0 : decode cX3_lowestNameOf 0 = .ok (.bipush (-9), 2) := by decide +kernel
theorem dX3_lowestNameOf_2 : decode cX3_lowestNameOf 2 = .ok (.istore_n 2, 1) := by decide +kernel
theorem dX3_lowestNameOf_3 : decode cX3_lowestNameOf 3 = .ok (.iconst 0, 1) := by decide +kernel
theorem dX3_lowestNameOf_4 : decode cX3_lowestNameOf 4 = .ok (.istore_n 3, 1) := by decide +kernel
theorem dX3_lowestNameOf_5 : decode cX3_lowestNameOf 5 = .ok (.iload_n 3, 1) := by decide +kernel
theorem dX3_lowestNameOf_6 : decode cX3_lowestNameOf 6 = .ok (.aload_n 0, 1) := by decide +kernel
theorem dX3_lowestNameOf_7 : decode cX3_lowestNameOf 7 = .ok (.getfield 42, 3) := by decide +kernel
theorem dX3_lowestNameOf_10 : decode cX3_lowestNameOf 10 = .ok (.if_icmp .ge 39, 3) := by decide +kernel
theorem dX3_lowestNameOf_13 : decode cX3_lowestNameOf 13 = .ok (.iload_n 1, 1) := by decide +kernel
theorem dX3_lowestNameOf_14 : decode cX3_lowestNameOf 14 = .ok (.iload_n 3, 1) := by decide +kernel
theorem dX3_lowestNameOf_15 : decode cX3_lowestNameOf 15 = .ok (.invokestatic 72, 3) := by decide +kernel
theorem dX3_lowestNameOf_18 : decode cX3_lowestNameOf 18 = .ok (.ifCond .eq 25, 3) := by decide +kernel
theorem dX3_lowestNameOf_21 : decode cX3_lowestNameOf 21 = .ok (.iload_n 2, 1) := by decide +kernel
theorem dX3_lowestNameOf_22 : decode cX3_lowestNameOf 22 = .ok (.bipush (-9), 2) := by decide +kernel
theorem dX3_lowestNameOf_24 : decode cX3_lowestNameOf 24 = .ok (.if_icmp .eq 17, 3) := by decide +kernel
theorem dX3_lowestNameOf_27 : decode cX3_lowestNameOf 27 = .ok (.aload_n 0, 1) := by decide +kernel
theorem dX3_lowestNameOf_28 : decode cX3_lowestNameOf 28 = .ok (.getfield 15, 3) := by decide +kernel
theorem dX3_lowestNameOf_31 : decode cX3_lowestNameOf 31 = .ok (.iload_n 3, 1) := by decide +kernel
theorem dX3_lowestNameOf_32 : decode cX3_lowestNameOf 32 = .ok (.iaload, 1) := by decide +kernel
theorem dX3_lowestNameOf_33 : decode cX3_lowestNameOf 33 = .ok (.aload_n 0, 1) := by decide +kernel
theorem dX3_lowestNameOf_34 : decode cX3_lowestNameOf 34 = .ok (.iload_n 2, 1) := by decide +kernel
theorem dX3_lowestNameOf_35 : decode cX3_lowestNameOf 35 = .ok (.invokevirtual 97, 3) := by decide +kernel
theorem dX3_lowestNameOf_38 : decode cX3_lowestNameOf 38 = .ok (.if_icmp .ge 5, 3) := by decide +kernel
theorem dX3_lowestNameOf_41 : decode cX3_lowestNameOf 41 = .ok (.iload_n 3, 1) := by decide +kernel
theorem dX3_lowestNameOf_42 : decode cX3_lowestNameOf 42 = .ok (.istore_n 2, 1) := by decide +kernel
theorem dX3_lowestNameOf_43 : decode cX3_lowestNameOf 43 = .ok (.iinc 3 1, 3) := by decide +kernel
theorem dX3_lowestNameOf_46 : decode cX3_lowestNameOf 46 = .ok (.goto (-41), 3) := by decide +kernel
theorem dX3_lowestNameOf_49 : decode cX3_lowestNameOf 49 = .ok (.iload_n 2, 1) := by decide +kernel
theorem dX3_lowestNameOf_50 : decode cX3_lowestNameOf 50 = .ok (.ireturn, 1) := by decide +kernel
theorem dX3_blockFor_0 : decode cX3_blockFor 0 = .ok (.aload_n 0, 1) := by decide +kernel
theorem dX3_blockFor_1 : decode cX3_blockFor 1 = .ok (.iload_n 1, 1) := by decide +kernel
theorem dX3_blockFor_2 : decode cX3_blockFor 2 = .ok (.invokevirtual 116, 3) := by decide +kernel
theorem dX3_blockFor_5 : decode cX3_blockFor 5 = .ok (.istore_n 3, 1) := by decide +kernel
theorem dX3_blockFor_6 : decode cX3_blockFor 6 = .ok (.iload_n 3, 1) := by decide +kernel
theorem dX3_blockFor_7 : decode cX3_blockFor 7 = .ok (.ifCond .le 13, 3) := by decide +kernel
theorem dX3_blockFor_10 : decode cX3_blockFor 10 = .ok (.iload_n 2, 1) := by decide +kernel
theorem dX3_blockFor_11 : decode cX3_blockFor 11 = .ok (.iload_n 3, 1) := by decide +kernel
theorem dX3_blockFor_12 : decode cX3_blockFor 12 = .ok (.invokestatic 72, 3) := by decide +kernel
theorem dX3_blockFor_15 : decode cX3_blockFor 15 = .ok (.ifCond .ne 5, 3) := by decide +kernel
theorem dX3_blockFor_18 : decode cX3_blockFor 18 = .ok (.iload_n 3, 1) := by decide +kernel
theorem dX3_blockFor_19 : decode cX3_blockFor 19 = .ok (.ireturn, 1) := by decide +kernel
theorem dX3_blockFor_20 : decode cX3_blockFor 20 = .ok (.iconst 1, 1) := by decide +kernel
theorem dX3_blockFor_21 : decode cX3_blockFor 21 = .ok (.istore 4, 2) := by decide +kernel
theorem dX3_blockFor_23 : decode cX3_blockFor 23 = .ok (.iload 4, 2) := by decide +kernel
theorem dX3_blockFor_25 : decode cX3_blockFor 25 = .ok (.bipush 8, 2) := by decide +kernel
theorem dX3_blockFor_27 : decode cX3_blockFor 27 = .ok (.if_icmp .ge 18, 3) := by decide +kernel
theorem dX3_blockFor_30 : decode cX3_blockFor 30 = .ok (.iload_n 2, 1) := by decide +kernel
theorem dX3_blockFor_31 : decode cX3_blockFor 31 = .ok (.iload 4, 2) := by decide +kernel
theorem dX3_blockFor_33 : decode cX3_blockFor 33 = .ok (.invokestatic 72, 3) := by decide +kernel
theorem dX3_blockFor_36 : decode cX3_blockFor 36 = .ok (.ifCond .eq 9, 3) := by decide +kernel
theorem dX3_blockFor_39 : decode cX3_blockFor 39 = .ok (.iinc 4 1, 3) := by decide +kernel
theorem dX3_blockFor_42 : decode cX3_blockFor 42 = .ok (.goto (-19), 3) := by decide +kernel
theorem dX3_blockFor_45 : decode cX3_blockFor 45 = .ok (.iload 4, 2) := by decide +kernel
theorem dX3_blockFor_47 : decode cX3_blockFor 47 = .ok (.ireturn, 1) := by decide +kernel
theorem dX3_blocksIn_0 : decode cX3_blocksIn 0 = .ok (.iconst 0, 1) := by decide +kernel
theorem dX3_blocksIn_1 : decode cX3_blocksIn 1 = .ok (.istore_n 2, 1) := by decide +kernel
theorem dX3_blocksIn_2 : decode cX3_blocksIn 2 = .ok (.iconst 0, 1) := by decide +kernel
theorem dX3_blocksIn_3 : decode cX3_blocksIn 3 = .ok (.istore_n 3, 1) := by decide +kernel
theorem dX3_blocksIn_4 : decode cX3_blocksIn 4 = .ok (.iload_n 3, 1) := by decide +kernel
theorem dX3_blocksIn_5 : decode cX3_blocksIn 5 = .ok (.aload_n 0, 1) := by decide +kernel
theorem dX3_blocksIn_6 : decode cX3_blocksIn 6 = .ok (.getfield 42, 3) := by decide +kernel
theorem dX3_blocksIn_9 : decode cX3_blocksIn 9 = .ok (.if_icmp .ge 28, 3) := by decide +kernel
theorem dX3_blocksIn_12 : decode cX3_blocksIn 12 = .ok (.iload_n 1, 1) := by decide +kernel
theorem dX3_blocksIn_13 : decode cX3_blocksIn 13 = .ok (.iload_n 3, 1) := by decide +kernel
theorem dX3_blocksIn_14 : decode cX3_blocksIn 14 = .ok (.invokestatic 72, 3) := by decide +kernel
theorem dX3_blocksIn_17 : decode cX3_blocksIn 17 = .ok (.ifCond .eq 14, 3) := by decide +kernel
theorem dX3_blocksIn_20 : decode cX3_blocksIn 20 = .ok (.iload_n 2, 1) := by decide +kernel
theorem dX3_blocksIn_21 : decode cX3_blocksIn 21 = .ok (.iconst 1, 1) := by decide +kernel
theorem dX3_blocksIn_22 : decode cX3_blocksIn 22 = .ok (.aload_n 0, 1) := by decide +kernel
theorem dX3_blocksIn_23 : decode cX3_blocksIn 23 = .ok (.getfield 21, 3) := by decide +kernel
theorem dX3_blocksIn_26 : decode cX3_blocksIn 26 = .ok (.iload_n 3, 1) := by decide +kernel
theorem dX3_blocksIn_27 : decode cX3_blocksIn 27 = .ok (.iaload, 1) := by decide +kernel
theorem dX3_blocksIn_28 : decode cX3_blocksIn 28 = .ok (.ishl, 1) := by decide +kernel
theorem dX3_blocksIn_29 : decode cX3_blocksIn 29 = .ok (.ior, 1) := by decide +kernel
theorem dX3_blocksIn_30 : decode cX3_blocksIn 30 = .ok (.istore_n 2, 1) := by decide +kernel
theorem dX3_blocksIn_31 : decode cX3_blocksIn 31 = .ok (.iinc 3 1, 3) := by decide +kernel
theorem dX3_blocksIn_34 : decode cX3_blocksIn 34 = .ok (.goto (-30), 3) := by decide +kernel
theorem dX3_blocksIn_37 : decode cX3_blocksIn 37 = .ok (.iload_n 2, 1) := by decide +kernel
theorem dX3_blocksIn_38 : decode cX3_blocksIn 38 = .ok (.ireturn, 1) := by decide +kernel
theorem dX3_zoneSet_0 : decode cX3_zoneSet 0 = .ok (.iload_n 1, 1) := by decide +kernel
theorem dX3_zoneSet_1 : decode cX3_zoneSet 1 = .ok (.ifCond .lt 24, 3) := by decide +kernel
theorem dX3_zoneSet_4 : decode cX3_zoneSet 4 = .ok (.iload_n 1, 1) := by decide +kernel
theorem dX3_zoneSet_5 : decode cX3_zoneSet 5 = .ok (.aload_n 0, 1) := by decide +kernel
theorem dX3_zoneSet_6 : decode cX3_zoneSet 6 = .ok (.getfield 42, 3) := by decide +kernel
theorem dX3_zoneSet_9 : decode cX3_zoneSet 9 = .ok (.if_icmp .ge 16, 3) := by decide +kernel
theorem dX3_zoneSet_12 : decode cX3_zoneSet 12 = .ok (.iload_n 2, 1) := by decide +kernel
theorem dX3_zoneSet_13 : decode cX3_zoneSet 13 = .ok (.ifCond .lt 12, 3) := by decide +kernel
theorem dX3_zoneSet_16 : decode cX3_zoneSet 16 = .ok (.iload_n 2, 1) := by decide +kernel
theorem dX3_zoneSet_17 : decode cX3_zoneSet 17 = .ok (.iconst 4, 1) := by decide +kernel
theorem dX3_zoneSet_18 : decode cX3_zoneSet 18 = .ok (.if_icmp .ge 7, 3) := by decide +kernel
theorem dX3_zoneSet_21 : decode cX3_zoneSet 21 = .ok (.iconst 1, 1) := by decide +kernel
theorem dX3_zoneSet_22 : decode cX3_zoneSet 22 = .ok (.goto 4, 3) := by decide +kernel
theorem dX3_zoneSet_25 : decode cX3_zoneSet 25 = .ok (.iconst 0, 1) := by decide +kernel
theorem dX3_zoneSet_26 : decode cX3_zoneSet 26 = .ok (.istore_n 3, 1) := by decide +kernel
theorem dX3_zoneSet_27 : decode cX3_zoneSet 27 = .ok (.iload_n 3, 1) := by decide +kernel
theorem dX3_zoneSet_28 : decode cX3_zoneSet 28 = .ok (.ifCond .eq 16, 3) := by decide +kernel
theorem dX3_zoneSet_31 : decode cX3_zoneSet 31 = .ok (.aload_n 0, 1) := by decide +kernel
theorem dX3_zoneSet_32 : decode cX3_zoneSet 32 = .ok (.getfield 30, 3) := by decide +kernel
theorem dX3_zoneSet_35 : decode cX3_zoneSet 35 = .ok (.iload_n 1, 1) := by decide +kernel
theorem dX3_zoneSet_36 : decode cX3_zoneSet 36 = .ok (.iconst 4, 1) := by decide +kernel
theorem dX3_zoneSet_37 : decode cX3_zoneSet 37 = .ok (.imul, 1) := by decide +kernel
theorem dX3_zoneSet_38 : decode cX3_zoneSet 38 = .ok (.iload_n 2, 1) := by decide +kernel
theorem dX3_zoneSet_39 : decode cX3_zoneSet 39 = .ok (.iadd, 1) := by decide +kernel
theorem dX3_zoneSet_40 : decode cX3_zoneSet 40 = .ok (.iaload, 1) := by decide +kernel
theorem dX3_zoneSet_41 : decode cX3_zoneSet 41 = .ok (.goto 4, 3) := by decide +kernel
theorem dX3_zoneSet_44 : decode cX3_zoneSet 44 = .ok (.iconst 0, 1) := by decide +kernel
theorem dX3_zoneSet_45 : decode cX3_zoneSet 45 = .ok (.ireturn, 1) := by decide +kernel
theorem dX3_setZone_0 : decode cX3_setZone 0 = .ok (.iload_n 2, 1) := by decide +kernel
theorem dX3_setZone_1 : decode cX3_setZone 1 = .ok (.ifCond .lt 8, 3) := by decide +kernel
theorem dX3_setZone_4 : decode cX3_setZone 4 = .ok (.iload_n 2, 1) := by decide +kernel
theorem dX3_setZone_5 : decode cX3_setZone 5 = .ok (.iconst 4, 1) := by decide +kernel
theorem dX3_setZone_6 : decode cX3_setZone 6 = .ok (.if_icmp .lt 4, 3) := by decide +kernel
theorem dX3_setZone_9 : decode cX3_setZone 9 = .ok (.return_, 1) := by decide +kernel
theorem dX3_setZone_10 : decode cX3_setZone 10 = .ok (.iconst 0, 1) := by decide +kernel
theorem dX3_setZone_11 : decode cX3_setZone 11 = .ok (.istore 4, 2) := by decide +kernel
theorem dX3_setZone_13 : decode cX3_setZone 13 = .ok (.iload 4, 2) := by decide +kernel
theorem dX3_setZone_15 : decode cX3_setZone 15 = .ok (.aload_n 0, 1) := by decide +kernel
theorem dX3_setZone_16 : decode cX3_setZone 16 = .ok (.getfield 42, 3) := by decide +kernel
theorem dX3_setZone_19 : decode cX3_setZone 19 = .ok (.if_icmp .ge 30, 3) := by decide +kernel
theorem dX3_setZone_22 : decode cX3_setZone 22 = .ok (.iload_n 1, 1) := by decide +kernel
theorem dX3_setZone_23 : decode cX3_setZone 23 = .ok (.iload 4, 2) := by decide +kernel
theorem dX3_setZone_25 : decode cX3_setZone 25 = .ok (.invokestatic 72, 3) := by decide +kernel
theorem dX3_setZone_28 : decode cX3_setZone 28 = .ok (.ifCond .eq 15, 3) := by decide +kernel
theorem dX3_setZone_31 : decode cX3_setZone 31 = .ok (.aload_n 0, 1) := by decide +kernel
theorem dX3_setZone_32 : decode cX3_setZone 32 = .ok (.getfield 30, 3) := by decide +kernel
theorem dX3_setZone_35 : decode cX3_setZone 35 = .ok (.iload 4, 2) := by decide +kernel
theorem dX3_setZone_37 : decode cX3_setZone 37 = .ok (.iconst 4, 1) := by decide +kernel
theorem dX3_setZone_38 : decode cX3_setZone 38 = .ok (.imul, 1) := by decide +kernel
theorem dX3_setZone_39 : decode cX3_setZone 39 = .ok (.iload_n 2, 1) := by decide +kernel
theorem dX3_setZone_40 : decode cX3_setZone 40 = .ok (.iadd, 1) := by decide +kernel
theorem dX3_setZone_41 : decode cX3_setZone 41 = .ok (.iload_n 3, 1) := by decide +kernel
theorem dX3_setZone_42 : decode cX3_setZone 42 = .ok (.iastore, 1) := by decide +kernel
theorem dX3_setZone_43 : decode cX3_setZone 43 = .ok (.iinc 4 1, 3) := by decide +kernel
theorem dX3_setZone_46 : decode cX3_setZone 46 = .ok (.goto (-33), 3) := by decide +kernel
theorem dX3_setZone_49 : decode cX3_setZone 49 = .ok (.return_, 1) := by decide +kernel
theorem dX3_zonesClash_0 : decode cX3_zonesClash 0 = .ok (.iconst 0, 1) := by decide +kernel
theorem dX3_zonesClash_1 : decode cX3_zonesClash 1 = .ok (.istore_n 3, 1) := by decide +kernel
theorem dX3_zonesClash_2 : decode cX3_zonesClash 2 = .ok (.iload_n 3, 1) := by decide +kernel
theorem dX3_zonesClash_3 : decode cX3_zonesClash 3 = .ok (.iconst 4, 1) := by decide +kernel
theorem dX3_zonesClash_4 : decode cX3_zonesClash 4 = .ok (.if_icmp .ge 44, 3) := by decide +kernel
theorem dX3_zonesClash_7 : decode cX3_zonesClash 7 = .ok (.aload_n 0, 1) := by decide +kernel
theorem dX3_zonesClash_8 : decode cX3_zonesClash 8 = .ok (.iload_n 1, 1) := by decide +kernel
theorem dX3_zonesClash_9 : decode cX3_zonesClash 9 = .ok (.iload_n 3, 1) := by decide +kernel
theorem dX3_zonesClash_10 : decode cX3_zonesClash 10 = .ok (.invokevirtual 119, 3) := by decide +kernel
theorem dX3_zonesClash_13 : decode cX3_zonesClash 13 = .ok (.istore 4, 2) := by decide +kernel
theorem dX3_zonesClash_15 : decode cX3_zonesClash 15 = .ok (.aload_n 0, 1) := by decide +kernel
theorem dX3_zonesClash_16 : decode cX3_zonesClash 16 = .ok (.iload_n 2, 1) := by decide +kernel
theorem dX3_zonesClash_17 : decode cX3_zonesClash 17 = .ok (.iload_n 3, 1) := by decide +kernel
theorem dX3_zonesClash_18 : decode cX3_zonesClash 18 = .ok (.invokevirtual 119, 3) := by decide +kernel
theorem dX3_zonesClash_21 : decode cX3_zonesClash 21 = .ok (.istore 5, 2) := by decide +kernel
theorem dX3_zonesClash_23 : decode cX3_zonesClash 23 = .ok (.iload 4, 2) := by decide +kernel
theorem dX3_zonesClash_25 : decode cX3_zonesClash 25 = .ok (.ifCond .eq 17, 3) := by decide +kernel
theorem dX3_zonesClash_28 : decode cX3_zonesClash 28 = .ok (.iload 5, 2) := by decide +kernel
theorem dX3_zonesClash_30 : decode cX3_zonesClash 30 = .ok (.ifCond .eq 12, 3) := by decide +kernel
theorem dX3_zonesClash_33 : decode cX3_zonesClash 33 = .ok (.iload 4, 2) := by decide +kernel
theorem dX3_zonesClash_35 : decode cX3_zonesClash 35 = .ok (.iload 5, 2) := by decide +kernel
theorem dX3_zonesClash_37 : decode cX3_zonesClash 37 = .ok (.if_icmp .eq 5, 3) := by decide +kernel
theorem dX3_zonesClash_40 : decode cX3_zonesClash 40 = .ok (.iconst 1, 1) := by decide +kernel
theorem dX3_zonesClash_41 : decode cX3_zonesClash 41 = .ok (.ireturn, 1) := by decide +kernel
theorem dX3_zonesClash_42 : decode cX3_zonesClash 42 = .ok (.iinc 3 1, 3) := by decide +kernel
theorem dX3_zonesClash_45 : decode cX3_zonesClash 45 = .ok (.goto (-43), 3) := by decide +kernel
theorem dX3_zonesClash_48 : decode cX3_zonesClash 48 = .ok (.iconst 0, 1) := by decide +kernel
theorem dX3_zonesClash_49 : decode cX3_zonesClash 49 = .ok (.ireturn, 1) := by decide +kernel
theorem dX3_outcomeOf_0 : decode cX3_outcomeOf 0 = .ok (.aload_n 0, 1) := by decide +kernel
theorem dX3_outcomeOf_1 : decode cX3_outcomeOf 1 = .ok (.iload_n 1, 1) := by decide +kernel
theorem dX3_outcomeOf_2 : decode cX3_outcomeOf 2 = .ok (.invokevirtual 88, 3) := by decide +kernel
theorem dX3_outcomeOf_5 : decode cX3_outcomeOf 5 = .ok (.istore_n 3, 1) := by decide +kernel
theorem dX3_outcomeOf_6 : decode cX3_outcomeOf 6 = .ok (.iload_n 3, 1) := by decide +kernel
theorem dX3_outcomeOf_7 : decode cX3_outcomeOf 7 = .ok (.iload_n 2, 1) := by decide +kernel
theorem dX3_outcomeOf_8 : decode cX3_outcomeOf 8 = .ok (.invokestatic 72, 3) := by decide +kernel
theorem dX3_outcomeOf_11 : decode cX3_outcomeOf 11 = .ok (.ifCond .eq 5, 3) := by decide +kernel
theorem dX3_outcomeOf_14 : decode cX3_outcomeOf 14 = .ok (.iconst 0, 1) := by decide +kernel
theorem dX3_outcomeOf_15 : decode cX3_outcomeOf 15 = .ok (.ireturn, 1) := by decide +kernel
theorem dX3_outcomeOf_16 : decode cX3_outcomeOf 16 = .ok (.aload_n 0, 1) := by decide +kernel
theorem dX3_outcomeOf_17 : decode cX3_outcomeOf 17 = .ok (.iload_n 3, 1) := by decide +kernel
theorem dX3_outcomeOf_18 : decode cX3_outcomeOf 18 = .ok (.invokevirtual 122, 3) := by decide +kernel
theorem dX3_outcomeOf_21 : decode cX3_outcomeOf 21 = .ok (.aload_n 0, 1) := by decide +kernel
theorem dX3_outcomeOf_22 : decode cX3_outcomeOf 22 = .ok (.aload_n 0, 1) := by decide +kernel
theorem dX3_outcomeOf_23 : decode cX3_outcomeOf 23 = .ok (.iload_n 2, 1) := by decide +kernel
theorem dX3_outcomeOf_24 : decode cX3_outcomeOf 24 = .ok (.invokevirtual 88, 3) := by decide +kernel
theorem dX3_outcomeOf_27 : decode cX3_outcomeOf 27 = .ok (.invokevirtual 122, 3) := by decide +kernel
theorem dX3_outcomeOf_30 : decode cX3_outcomeOf 30 = .ok (.iand, 1) := by decide +kernel
theorem dX3_outcomeOf_31 : decode cX3_outcomeOf 31 = .ok (.ifCond .eq 7, 3) := by decide +kernel
theorem dX3_outcomeOf_34 : decode cX3_outcomeOf 34 = .ok (.iconst 1, 1) := by decide +kernel
theorem dX3_outcomeOf_35 : decode cX3_outcomeOf 35 = .ok (.goto 4, 3) := by decide +kernel
theorem dX3_outcomeOf_38 : decode cX3_outcomeOf 38 = .ok (.iconst 0, 1) := by decide +kernel
theorem dX3_outcomeOf_39 : decode cX3_outcomeOf 39 = .ok (.istore 4, 2) := by decide +kernel
theorem dX3_outcomeOf_41 : decode cX3_outcomeOf 41 = .ok (.aload_n 0, 1) := by decide +kernel
theorem dX3_outcomeOf_42 : decode cX3_outcomeOf 42 = .ok (.iload_n 1, 1) := by decide +kernel
theorem dX3_outcomeOf_43 : decode cX3_outcomeOf 43 = .ok (.iload_n 2, 1) := by decide +kernel
theorem dX3_outcomeOf_44 : decode cX3_outcomeOf 44 = .ok (.invokevirtual 125, 3) := by decide +kernel
theorem dX3_outcomeOf_47 : decode cX3_outcomeOf 47 = .ok (.ifCond .eq 14, 3) := by decide +kernel
theorem dX3_outcomeOf_50 : decode cX3_outcomeOf 50 = .ok (.iload 4, 2) := by decide +kernel
theorem dX3_outcomeOf_52 : decode cX3_outcomeOf 52 = .ok (.ifCond .eq 7, 3) := by decide +kernel
theorem dX3_outcomeOf_55 : decode cX3_outcomeOf 55 = .ok (.iconst 5, 1) := by decide +kernel
theorem dX3_outcomeOf_56 : decode cX3_outcomeOf 56 = .ok (.goto 4, 3) := by decide +kernel
theorem dX3_outcomeOf_59 : decode cX3_outcomeOf 59 = .ok (.iconst 4, 1) := by decide +kernel
theorem dX3_outcomeOf_60 : decode cX3_outcomeOf 60 = .ok (.ireturn, 1) := by decide +kernel
theorem dX3_outcomeOf_61 : decode cX3_outcomeOf 61 = .ok (.iload 4, 2) := by decide +kernel
theorem dX3_outcomeOf_63 : decode cX3_outcomeOf 63 = .ok (.ifCond .eq 16, 3) := by decide +kernel
theorem dX3_outcomeOf_66 : decode cX3_outcomeOf 66 = .ok (.aload_n 0, 1) := by decide +kernel
theorem dX3_outcomeOf_67 : decode cX3_outcomeOf 67 = .ok (.getfield 49, 3) := by decide +kernel
theorem dX3_outcomeOf_70 : decode cX3_outcomeOf 70 = .ok (.ifCond .eq 7, 3) := by decide +kernel
theorem dX3_outcomeOf_73 : decode cX3_outcomeOf 73 = .ok (.iconst 2, 1) := by decide +kernel
theorem dX3_outcomeOf_74 : decode cX3_outcomeOf 74 = .ok (.goto 4, 3) := by decide +kernel
theorem dX3_outcomeOf_77 : decode cX3_outcomeOf 77 = .ok (.iconst 3, 1) := by decide +kernel
theorem dX3_outcomeOf_78 : decode cX3_outcomeOf 78 = .ok (.ireturn, 1) := by decide +kernel
theorem dX3_outcomeOf_79 : decode cX3_outcomeOf 79 = .ok (.iconst 1, 1) := by decide +kernel
theorem dX3_outcomeOf_80 : decode cX3_outcomeOf 80 = .ok (.ireturn, 1) := by decide +kernel
theorem dX3_join_0 : decode cX3_join 0 = .ok (.aload_n 0, 1) := by decide +kernel
theorem dX3_join_1 : decode cX3_join 1 = .ok (.iload_n 1, 1) := by decide +kernel
theorem dX3_join_2 : decode cX3_join 2 = .ok (.iload_n 2, 1) := by decide +kernel
theorem dX3_join_3 : decode cX3_join 3 = .ok (.invokevirtual 128, 3) := by decide +kernel
theorem dX3_join_6 : decode cX3_join 6 = .ok (.istore_n 3, 1) := by decide +kernel
theorem dX3_join_7 : decode cX3_join 7 = .ok (.iload_n 3, 1) := by decide +kernel
theorem dX3_join_8 : decode cX3_join 8 = .ok (.iconst 3, 1) := by decide +kernel
theorem dX3_join_9 : decode cX3_join 9 = .ok (.if_icmp .lt 12, 3) := by decide +kernel
theorem dX3_join_12 : decode cX3_join 12 = .ok (.aload_n 0, 1) := by decide +kernel
theorem dX3_join_13 : decode cX3_join 13 = .ok (.iload_n 1, 1) := by decide +kernel
theorem dX3_join_14 : decode cX3_join 14 = .ok (.iload_n 2, 1) := by decide +kernel
theorem dX3_join_15 : decode cX3_join 15 = .ok (.iconst 2, 1) := by decide +kernel
theorem dX3_join_16 : decode cX3_join 16 = .ok (.invokevirtual 131, 3) := by decide +kernel
theorem dX3_join_19 : decode cX3_join 19 = .ok (.iconst 0, 1) := by decide +kernel
theorem dX3_join_20 : decode cX3_join 20 = .ok (.ireturn, 1) := by decide +kernel
theorem dX3_join_21 : decode cX3_join 21 = .ok (.aload_n 0, 1) := by decide +kernel
theorem dX3_join_22 : decode cX3_join 22 = .ok (.iload_n 1, 1) := by decide +kernel
theorem dX3_join_23 : decode cX3_join 23 = .ok (.iload_n 2, 1) := by decide +kernel
theorem dX3_join_24 : decode cX3_join 24 = .ok (.iconst 1, 1) := by decide +kernel
theorem dX3_join_25 : decode cX3_join 25 = .ok (.invokevirtual 131, 3) := by decide +kernel
theorem dX3_join_28 : decode cX3_join 28 = .ok (.iload_n 3, 1) := by decide +kernel
theorem dX3_join_29 : decode cX3_join 29 = .ok (.ifCond .eq 9, 3) := by decide +kernel
theorem dX3_join_32 : decode cX3_join 32 = .ok (.aload_n 0, 1) := by decide +kernel
theorem dX3_join_33 : decode cX3_join 33 = .ok (.iload_n 1, 1) := by decide +kernel
theorem dX3_join_34 : decode cX3_join 34 = .ok (.iload_n 2, 1) := by decide +kernel
theorem dX3_join_35 : decode cX3_join 35 = .ok (.invokevirtual 134, 3) := by decide +kernel
theorem dX3_join_38 : decode cX3_join 38 = .ok (.iload_n 3, 1) := by decide +kernel
theorem dX3_join_39 : decode cX3_join 39 = .ok (.iconst 2, 1) := by decide +kernel
theorem dX3_join_40 : decode cX3_join 40 = .ok (.if_icmp .ne 13, 3) := by decide +kernel
theorem dX3_join_43 : decode cX3_join 43 = .ok (.aload_n 0, 1) := by decide +kernel
theorem dX3_join_44 : decode cX3_join 44 = .ok (.aload_n 0, 1) := by decide +kernel
theorem dX3_join_45 : decode cX3_join 45 = .ok (.iload_n 1, 1) := by decide +kernel
theorem dX3_join_46 : decode cX3_join 46 = .ok (.invokevirtual 88, 3) := by decide +kernel
theorem dX3_join_49 : decode cX3_join 49 = .ok (.invokevirtual 137, 3) := by decide +kernel
theorem dX3_join_52 : decode cX3_join 52 = .ok (.pop, 1) := by decide +kernel
theorem dX3_join_53 : decode cX3_join 53 = .ok (.iconst 1, 1) := by decide +kernel
theorem dX3_join_54 : decode cX3_join 54 = .ok (.ireturn, 1) := by decide +kernel
theorem dX3_shareZones_0 : decode cX3_shareZones 0 = .ok (.aload_n 0, 1) := by decide +kernel
theorem dX3_shareZones_1 : decode cX3_shareZones 1 = .ok (.iload_n 1, 1) := by decide +kernel
theorem dX3_shareZones_2 : decode cX3_shareZones 2 = .ok (.invokevirtual 88, 3) := by decide +kernel
theorem dX3_shareZones_5 : decode cX3_shareZones 5 = .ok (.istore_n 3, 1) := by decide +kernel
theorem dX3_shareZones_6 : decode cX3_shareZones 6 = .ok (.iconst 0, 1) := by decide +kernel
theorem dX3_shareZones_7 : decode cX3_shareZones 7 = .ok (.istore 4, 2) := by decide +kernel
theorem dX3_shareZones_9 : decode cX3_shareZones 9 = .ok (.iload 4, 2) := by decide +kernel
theorem dX3_shareZones_11 : decode cX3_shareZones 11 = .ok (.iconst 4, 1) := by decide +kernel
theorem dX3_shareZones_12 : decode cX3_shareZones 12 = .ok (.if_icmp .ge 31, 3) := by decide +kernel
theorem dX3_shareZones_15 : decode cX3_shareZones 15 = .ok (.aload_n 0, 1) := by decide +kernel
theorem dX3_shareZones_16 : decode cX3_shareZones 16 = .ok (.iload_n 3, 1) := by decide +kernel
theorem dX3_shareZones_17 : decode cX3_shareZones 17 = .ok (.iload 4, 2) := by decide +kernel
theorem dX3_shareZones_19 : decode cX3_shareZones 19 = .ok (.aload_n 0, 1) := by decide +kernel
theorem dX3_shareZones_20 : decode cX3_shareZones 20 = .ok (.iload_n 1, 1) := by decide +kernel
theorem dX3_shareZones_21 : decode cX3_shareZones 21 = .ok (.iload 4, 2) := by decide +kernel
theorem dX3_shareZones_23 : decode cX3_shareZones 23 = .ok (.invokevirtual 119, 3) := by decide +kernel
theorem dX3_shareZones_26 : decode cX3_shareZones 26 = .ok (.aload_n 0, 1) := by decide +kernel
theorem dX3_shareZones_27 : decode cX3_shareZones 27 = .ok (.iload_n 2, 1) := by decide +kernel
theorem dX3_shareZones_28 : decode cX3_shareZones 28 = .ok (.iload 4, 2) := by decide +kernel
theorem dX3_shareZones_30 : decode cX3_shareZones 30 = .ok (.invokevirtual 119, 3) := by decide +kernel
theorem dX3_shareZones_33 : decode cX3_shareZones 33 = .ok (.ior, 1) := by decide +kernel
theorem dX3_shareZones_34 : decode cX3_shareZones 34 = .ok (.invokevirtual 140, 3) := by decide +kernel
theorem dX3_shareZones_37 : decode cX3_shareZones 37 = .ok (.iinc 4 1, 3) := by decide +kernel
theorem dX3_shareZones_40 : decode cX3_shareZones 40 = .ok (.goto (-31), 3) := by decide +kernel
theorem dX3_shareZones_43 : decode cX3_shareZones 43 = .ok (.return_, 1) := by decide +kernel
theorem dX3_hostsAt_0 : decode cX3_hostsAt 0 = .ok (.iconst 0, 1) := by decide +kernel
theorem dX3_hostsAt_1 : decode cX3_hostsAt 1 = .ok (.istore_n 2, 1) := by decide +kernel
theorem dX3_hostsAt_2 : decode cX3_hostsAt 2 = .ok (.iconst 0, 1) := by decide +kernel
theorem dX3_hostsAt_3 : decode cX3_hostsAt 3 = .ok (.istore_n 3, 1) := by decide +kernel
theorem dX3_hostsAt_4 : decode cX3_hostsAt 4 = .ok (.iload_n 3, 1) := by decide +kernel
theorem dX3_hostsAt_5 : decode cX3_hostsAt 5 = .ok (.aload_n 0, 1) := by decide +kernel
theorem dX3_hostsAt_6 : decode cX3_hostsAt 6 = .ok (.getfield 46, 3) := by decide +kernel
theorem dX3_hostsAt_9 : decode cX3_hostsAt 9 = .ok (.if_icmp .ge 39, 3) := by decide +kernel
theorem dX3_hostsAt_12 : decode cX3_hostsAt 12 = .ok (.aload_n 0, 1) := by decide +kernel
theorem dX3_hostsAt_13 : decode cX3_hostsAt 13 = .ok (.getfield 33, 3) := by decide +kernel
theorem dX3_hostsAt_16 : decode cX3_hostsAt 16 = .ok (.iload_n 3, 1) := by decide +kernel
theorem dX3_hostsAt_17 : decode cX3_hostsAt 17 = .ok (.iaload, 1) := by decide +kernel
theorem dX3_hostsAt_18 : decode cX3_hostsAt 18 = .ok (.bipush (-9), 2) := by decide +kernel
theorem dX3_hostsAt_20 : decode cX3_hostsAt 20 = .ok (.if_icmp .eq 22, 3) := by decide +kernel
theorem dX3_hostsAt_23 : decode cX3_hostsAt 23 = .ok (.iload_n 1, 1) := by decide +kernel
theorem dX3_hostsAt_24 : decode cX3_hostsAt 24 = .ok (.aload_n 0, 1) := by decide +kernel
theorem dX3_hostsAt_25 : decode cX3_hostsAt 25 = .ok (.getfield 33, 3) := by decide +kernel
theorem dX3_hostsAt_28 : decode cX3_hostsAt 28 = .ok (.iload_n 3, 1) := by decide +kernel
theorem dX3_hostsAt_29 : decode cX3_hostsAt 29 = .ok (.iaload, 1) := by decide +kernel
theorem dX3_hostsAt_30 : decode cX3_hostsAt 30 = .ok (.invokestatic 72, 3) := by decide +kernel
theorem dX3_hostsAt_33 : decode cX3_hostsAt 33 = .ok (.ifCond .eq 9, 3) := by decide +kernel
theorem dX3_hostsAt_36 : decode cX3_hostsAt 36 = .ok (.iload_n 2, 1) := by decide +kernel
theorem dX3_hostsAt_37 : decode cX3_hostsAt 37 = .ok (.iconst 1, 1) := by decide +kernel
theorem dX3_hostsAt_38 : decode cX3_hostsAt 38 = .ok (.iload_n 3, 1) := by decide +kernel
theorem dX3_hostsAt_39 : decode cX3_hostsAt 39 = .ok (.ishl, 1) := by decide +kernel
theorem dX3_hostsAt_40 : decode cX3_hostsAt 40 = .ok (.ior, 1) := by decide +kernel
theorem dX3_hostsAt_41 : decode cX3_hostsAt 41 = .ok (.istore_n 2, 1) := by decide +kernel
theorem dX3_hostsAt_42 : decode cX3_hostsAt 42 = .ok (.iinc 3 1, 3) := by decide +kernel
theorem dX3_hostsAt_45 : decode cX3_hostsAt 45 = .ok (.goto (-41), 3) := by decide +kernel
theorem dX3_hostsAt_48 : decode cX3_hostsAt 48 = .ok (.iload_n 2, 1) := by decide +kernel
theorem dX3_hostsAt_49 : decode cX3_hostsAt 49 = .ok (.ireturn, 1) := by decide +kernel
theorem dX3_view_0 : decode cX3_view 0 = .ok (.lconst 0, 1) := by decide +kernel
theorem dX3_view_1 : decode cX3_view 1 = .ok (.lstore_n 1, 1) := by decide +kernel
theorem dX3_view_2 : decode cX3_view 2 = .ok (.iconst 0, 1) := by decide +kernel
theorem dX3_view_3 : decode cX3_view 3 = .ok (.istore_n 3, 1) := by decide +kernel
theorem dX3_view_4 : decode cX3_view 4 = .ok (.iconst 0, 1) := by decide +kernel
theorem dX3_view_5 : decode cX3_view 5 = .ok (.istore 4, 2) := by decide +kernel
theorem dX3_view_7 : decode cX3_view 7 = .ok (.iload 4, 2) := by decide +kernel
theorem dX3_view_9 : decode cX3_view 9 = .ok (.aload_n 0, 1) := by decide +kernel
theorem dX3_view_10 : decode cX3_view 10 = .ok (.getfield 42, 3) := by decide +kernel
theorem dX3_view_13 : decode cX3_view 13 = .ok (.if_icmp .ge 46, 3) := by decide +kernel
theorem dX3_view_16 : decode cX3_view 16 = .ok (.iload_n 3, 1) := by decide +kernel
theorem dX3_view_17 : decode cX3_view 17 = .ok (.iload 4, 2) := by decide +kernel
theorem dX3_view_19 : decode cX3_view 19 = .ok (.invokestatic 72, 3) := by decide +kernel
theorem dX3_view_22 : decode cX3_view 22 = .ok (.ifCond .ne 31, 3) := by decide +kernel
theorem dX3_view_25 : decode cX3_view 25 = .ok (.aload_n 0, 1) := by decide +kernel
theorem dX3_view_26 : decode cX3_view 26 = .ok (.iload 4, 2) := by decide +kernel
theorem dX3_view_28 : decode cX3_view 28 = .ok (.invokevirtual 88, 3) := by decide +kernel
theorem dX3_view_31 : decode cX3_view 31 = .ok (.istore 5, 2) := by decide +kernel
theorem dX3_view_33 : decode cX3_view 33 = .ok (.iload_n 3, 1) := by decide +kernel
theorem dX3_view_34 : decode cX3_view 34 = .ok (.iload 5, 2) := by decide +kernel
theorem dX3_view_36 : decode cX3_view 36 = .ok (.ior, 1) := by decide +kernel
theorem dX3_view_37 : decode cX3_view 37 = .ok (.istore_n 3, 1) := by decide +kernel
theorem dX3_view_38 : decode cX3_view 38 = .ok (.lload_n 1, 1) := by decide +kernel
theorem dX3_view_39 : decode cX3_view 39 = .ok (.aload_n 0, 1) := by decide +kernel
theorem dX3_view_40 : decode cX3_view 40 = .ok (.iload 4, 2) := by decide +kernel
theorem dX3_view_42 : decode cX3_view 42 = .ok (.aload_n 0, 1) := by decide +kernel
theorem dX3_view_43 : decode cX3_view 43 = .ok (.iload 5, 2) := by decide +kernel
theorem dX3_view_45 : decode cX3_view 45 = .ok (.invokevirtual 143, 3) := by decide +kernel
theorem dX3_view_48 : decode cX3_view 48 = .ok (.invokevirtual 146, 3) := by decide +kernel
theorem dX3_view_51 : decode cX3_view 51 = .ok (.lor, 1) := by decide +kernel
theorem dX3_view_52 : decode cX3_view 52 = .ok (.lstore_n 1, 1) := by decide +kernel
theorem dX3_view_53 : decode cX3_view 53 = .ok (.iinc 4 1, 3) := by decide +kernel
theorem dX3_view_56 : decode cX3_view 56 = .ok (.goto (-49), 3) := by decide +kernel
theorem dX3_view_59 : decode cX3_view 59 = .ok (.lload_n 1, 1) := by decide +kernel
theorem dX3_view_60 : decode cX3_view 60 = .ok (.lreturn, 1) := by decide +kernel
theorem dX3_viewWithin_0 : decode cX3_viewWithin 0 = .ok (.lconst 0, 1) := by decide +kernel
theorem dX3_viewWithin_1 : decode cX3_viewWithin 1 = .ok (.lstore_n 3, 1) := by decide +kernel
theorem dX3_viewWithin_2 : decode cX3_viewWithin 2 = .ok (.aload_n 0, 1) := by decide +kernel
theorem dX3_viewWithin_3 : decode cX3_viewWithin 3 = .ok (.iload_n 1, 1) := by decide +kernel
theorem dX3_viewWithin_4 : decode cX3_viewWithin 4 = .ok (.invokevirtual 150, 3) := by decide +kernel
theorem dX3_viewWithin_7 : decode cX3_viewWithin 7 = .ok (.istore 5, 2) := by decide +kernel
theorem dX3_viewWithin_9 : decode cX3_viewWithin 9 = .ok (.iconst 0, 1) := by decide +kernel
theorem dX3_viewWithin_10 : decode cX3_viewWithin 10 = .ok (.istore 6, 2) := by decide +kernel
theorem dX3_viewWithin_12 : decode cX3_viewWithin 12 = .ok (.iload 6, 2) := by decide +kernel
theorem dX3_viewWithin_14 : decode cX3_viewWithin 14 = .ok (.aload_n 0, 1) := by decide +kernel
theorem dX3_viewWithin_15 : decode cX3_viewWithin 15 = .ok (.getfield 46, 3) := by decide +kernel
theorem dX3_viewWithin_18 : decode cX3_viewWithin 18 = .ok (.if_icmp .ge 57, 3) := by decide +kernel
theorem dX3_viewWithin_21 : decode cX3_viewWithin 21 = .ok (.iload_n 2, 1) := by decide +kernel
theorem dX3_viewWithin_22 : decode cX3_viewWithin 22 = .ok (.iload 6, 2) := by decide +kernel
theorem dX3_viewWithin_24 : decode cX3_viewWithin 24 = .ok (.invokestatic 72, 3) := by decide +kernel
theorem dX3_viewWithin_27 : decode cX3_viewWithin 27 = .ok (.ifCond .eq 42, 3) := by decide +kernel
theorem dX3_viewWithin_30 : decode cX3_viewWithin 30 = .ok (.iload 5, 2) := by decide +kernel
theorem dX3_viewWithin_32 : decode cX3_viewWithin 32 = .ok (.ifCond .eq 7, 3) := by decide +kernel
theorem dX3_viewWithin_35 : decode cX3_viewWithin 35 = .ok (.iload_n 2, 1) := by decide +kernel
theorem dX3_viewWithin_36 : decode cX3_viewWithin 36 = .ok (.goto 12, 3) := by decide +kernel
theorem dX3_viewWithin_39 : decode cX3_viewWithin 39 = .ok (.iload_n 2, 1) := by decide +kernel
theorem dX3_viewWithin_40 : decode cX3_viewWithin 40 = .ok (.aload_n 0, 1) := by decide +kernel
theorem dX3_viewWithin_41 : decode cX3_viewWithin 41 = .ok (.iload_n 1, 1) := by decide +kernel
theorem dX3_viewWithin_42 : decode cX3_viewWithin 42 = .ok (.iload 6, 2) := by decide +kernel
theorem dX3_viewWithin_44 : decode cX3_viewWithin 44 = .ok (.invokevirtual 153, 3) := by decide +kernel
theorem dX3_viewWithin_47 : decode cX3_viewWithin 47 = .ok (.iand, 1) := by decide +kernel
theorem dX3_viewWithin_48 : decode cX3_viewWithin 48 = .ok (.istore 7, 2) := by decide +kernel
theorem dX3_viewWithin_50 : decode cX3_viewWithin 50 = .ok (.lload_n 3, 1) := by decide +kernel
theorem dX3_viewWithin_51 : decode cX3_viewWithin 51 = .ok (.iload 7, 2) := by decide +kernel
theorem dX3_viewWithin_53 : decode cX3_viewWithin 53 = .ok (.iconst 1, 1) := by decide +kernel
theorem dX3_viewWithin_54 : decode cX3_viewWithin 54 = .ok (.iload 6, 2) := by decide +kernel
theorem dX3_viewWithin_56 : decode cX3_viewWithin 56 = .ok (.ishl, 1) := by decide +kernel
theorem dX3_viewWithin_57 : decode cX3_viewWithin 57 = .ok (.iconst (-1), 1) := by decide +kernel
theorem dX3_viewWithin_58 : decode cX3_viewWithin 58 = .ok (.ixor, 1) := by decide +kernel
theorem dX3_viewWithin_59 : decode cX3_viewWithin 59 = .ok (.iand, 1) := by decide +kernel
theorem dX3_viewWithin_60 : decode cX3_viewWithin 60 = .ok (.i2l, 1) := by decide +kernel
theorem dX3_viewWithin_61 : decode cX3_viewWithin 61 = .ok (.bipush 8, 2) := by decide +kernel
theorem dX3_viewWithin_63 : decode cX3_viewWithin 63 = .ok (.iload 6, 2) := by decide +kernel
theorem dX3_viewWithin_65 : decode cX3_viewWithin 65 = .ok (.imul, 1) := by decide +kernel
theorem dX3_viewWithin_66 : decode cX3_viewWithin 66 = .ok (.lshl, 1) := by decide +kernel
theorem dX3_viewWithin_67 : decode cX3_viewWithin 67 = .ok (.lor, 1) := by decide +kernel
theorem dX3_viewWithin_68 : decode cX3_viewWithin 68 = .ok (.lstore_n 3, 1) := by decide +kernel
theorem dX3_viewWithin_69 : decode cX3_viewWithin 69 = .ok (.iinc 6 1, 3) := by decide +kernel
theorem dX3_viewWithin_72 : decode cX3_viewWithin 72 = .ok (.goto (-60), 3) := by decide +kernel
theorem dX3_viewWithin_75 : decode cX3_viewWithin 75 = .ok (.lload_n 3, 1) := by decide +kernel
theorem dX3_viewWithin_76 : decode cX3_viewWithin 76 = .ok (.lreturn, 1) := by decide +kernel
theorem dX3_zonesEmpty_0 : decode cX3_zonesEmpty 0 = .ok (.iconst 0, 1) := by decide +kernel
theorem dX3_zonesEmpty_1 : decode cX3_zonesEmpty 1 = .ok (.istore_n 2, 1) := by decide +kernel
theorem dX3_zonesEmpty_2 : decode cX3_zonesEmpty 2 = .ok (.iconst 0, 1) := by decide +kernel
theorem dX3_zonesEmpty_3 : decode cX3_zonesEmpty 3 = .ok (.istore_n 3, 1) := by decide +kernel
theorem dX3_zonesEmpty_4 : decode cX3_zonesEmpty 4 = .ok (.iload_n 3, 1) := by decide +kernel
theorem dX3_zonesEmpty_5 : decode cX3_zonesEmpty 5 = .ok (.iconst 4, 1) := by decide +kernel
theorem dX3_zonesEmpty_6 : decode cX3_zonesEmpty 6 = .ok (.if_icmp .ge 18, 3) := by decide +kernel
theorem dX3_zonesEmpty_9 : decode cX3_zonesEmpty 9 = .ok (.iload_n 2, 1) := by decide +kernel
theorem dX3_zonesEmpty_10 : decode cX3_zonesEmpty 10 = .ok (.aload_n 0, 1) := by decide +kernel
theorem dX3_zonesEmpty_11 : decode cX3_zonesEmpty 11 = .ok (.iload_n 1, 1) := by decide +kernel
theorem dX3_zonesEmpty_12 : decode cX3_zonesEmpty 12 = .ok (.iload_n 3, 1) := by decide +kernel
theorem dX3_zonesEmpty_13 : decode cX3_zonesEmpty 13 = .ok (.invokevirtual 119, 3) := by decide +kernel
theorem dX3_zonesEmpty_16 : decode cX3_zonesEmpty 16 = .ok (.ior, 1) := by decide +kernel
theorem dX3_zonesEmpty_17 : decode cX3_zonesEmpty 17 = .ok (.istore_n 2, 1) := by decide +kernel
theorem dX3_zonesEmpty_18 : decode cX3_zonesEmpty 18 = .ok (.iinc 3 1, 3) := by decide +kernel
theorem dX3_zonesEmpty_21 : decode cX3_zonesEmpty 21 = .ok (.goto (-17), 3) := by decide +kernel
theorem dX3_zonesEmpty_24 : decode cX3_zonesEmpty 24 = .ok (.iload_n 2, 1) := by decide +kernel
theorem dX3_zonesEmpty_25 : decode cX3_zonesEmpty 25 = .ok (.ifCond .ne 7, 3) := by decide +kernel
theorem dX3_zonesEmpty_28 : decode cX3_zonesEmpty 28 = .ok (.iconst 1, 1) := by decide +kernel
theorem dX3_zonesEmpty_29 : decode cX3_zonesEmpty 29 = .ok (.goto 4, 3) := by decide +kernel
theorem dX3_zonesEmpty_32 : decode cX3_zonesEmpty 32 = .ok (.iconst 0, 1) := by decide +kernel
theorem dX3_zonesEmpty_33 : decode cX3_zonesEmpty 33 = .ok (.ireturn, 1) := by decide +kernel
theorem dX3_sharingZone_0 : decode cX3_sharingZone 0 = .ok (.iconst 0, 1) := by decide +kernel
theorem dX3_sharingZone_1 : decode cX3_sharingZone 1 = .ok (.istore_n 3, 1) := by decide +kernel
theorem dX3_sharingZone_2 : decode cX3_sharingZone 2 = .ok (.iconst 0, 1) := by decide +kernel
theorem dX3_sharingZone_3 : decode cX3_sharingZone 3 = .ok (.istore 4, 2) := by decide +kernel
theorem dX3_sharingZone_5 : decode cX3_sharingZone 5 = .ok (.iload 4, 2) := by decide +kernel
theorem dX3_sharingZone_7 : decode cX3_sharingZone 7 = .ok (.iconst 4, 1) := by decide +kernel
theorem dX3_sharingZone_8 : decode cX3_sharingZone 8 = .ok (.if_icmp .ge 33, 3) := by decide +kernel
theorem dX3_sharingZone_11 : decode cX3_sharingZone 11 = .ok (.aload_n 0, 1) := by decide +kernel
theorem dX3_sharingZone_12 : decode cX3_sharingZone 12 = .ok (.iload_n 1, 1) := by decide +kernel
theorem dX3_sharingZone_13 : decode cX3_sharingZone 13 = .ok (.iload 4, 2) := by decide +kernel
theorem dX3_sharingZone_15 : decode cX3_sharingZone 15 = .ok (.invokevirtual 119, 3) := by decide +kernel
theorem dX3_sharingZone_18 : decode cX3_sharingZone 18 = .ok (.iload_n 2, 1) := by decide +kernel
theorem dX3_sharingZone_19 : decode cX3_sharingZone 19 = .ok (.invokestatic 72, 3) := by decide +kernel
theorem dX3_sharingZone_22 : decode cX3_sharingZone 22 = .ok (.ifCond .eq 13, 3) := by decide +kernel
theorem dX3_sharingZone_25 : decode cX3_sharingZone 25 = .ok (.iload_n 3, 1) := by decide +kernel
theorem dX3_sharingZone_26 : decode cX3_sharingZone 26 = .ok (.aload_n 0, 1) := by decide +kernel
theorem dX3_sharingZone_27 : decode cX3_sharingZone 27 = .ok (.iload_n 1, 1) := by decide +kernel
theorem dX3_sharingZone_28 : decode cX3_sharingZone 28 = .ok (.iload 4, 2) := by decide +kernel
theorem dX3_sharingZone_30 : decode cX3_sharingZone 30 = .ok (.invokevirtual 119, 3) := by decide +kernel
theorem dX3_sharingZone_33 : decode cX3_sharingZone 33 = .ok (.ior, 1) := by decide +kernel
theorem dX3_sharingZone_34 : decode cX3_sharingZone 34 = .ok (.istore_n 3, 1) := by decide +kernel
theorem dX3_sharingZone_35 : decode cX3_sharingZone 35 = .ok (.iinc 4 1, 3) := by decide +kernel
theorem dX3_sharingZone_38 : decode cX3_sharingZone 38 = .ok (.goto (-33), 3) := by decide +kernel
theorem dX3_sharingZone_41 : decode cX3_sharingZone 41 = .ok (.iload_n 3, 1) := by decide +kernel
theorem dX3_sharingZone_42 : decode cX3_sharingZone 42 = .ok (.ireturn, 1) := by decide +kernel
theorem dX3_viewWithout_0 : decode cX3_viewWithout 0 = .ok (.aload_n 0, 1) := by decide +kernel
theorem dX3_viewWithout_1 : decode cX3_viewWithout 1 = .ok (.iload_n 1, 1) := by decide +kernel
theorem dX3_viewWithout_2 : decode cX3_viewWithout 2 = .ok (.iload_n 2, 1) := by decide +kernel
theorem dX3_viewWithout_3 : decode cX3_viewWithout 3 = .ok (.iconst 0, 1) := by decide +kernel
theorem dX3_viewWithout_4 : decode cX3_viewWithout 4 = .ok (.invokevirtual 131, 3) := by decide +kernel
theorem dX3_viewWithout_7 : decode cX3_viewWithout 7 = .ok (.aload_n 0, 1) := by decide +kernel
theorem dX3_viewWithout_8 : decode cX3_viewWithout 8 = .ok (.invokevirtual 156, 3) := by decide +kernel
theorem dX3_viewWithout_11 : decode cX3_viewWithout 11 = .ok (.lstore_n 3, 1) := by decide +kernel
theorem dX3_viewWithout_12 : decode cX3_viewWithout 12 = .ok (.aload_n 0, 1) := by decide +kernel
theorem dX3_viewWithout_13 : decode cX3_viewWithout 13 = .ok (.iload_n 1, 1) := by decide +kernel
theorem dX3_viewWithout_14 : decode cX3_viewWithout 14 = .ok (.iload_n 2, 1) := by decide +kernel
theorem dX3_viewWithout_15 : decode cX3_viewWithout 15 = .ok (.iconst 1, 1) := by decide +kernel
theorem dX3_viewWithout_16 : decode cX3_viewWithout 16 = .ok (.invokevirtual 131, 3) := by decide +kernel
theorem dX3_viewWithout_19 : decode cX3_viewWithout 19 = .ok (.lload_n 3, 1) := by decide +kernel
theorem dX3_viewWithout_20 : decode cX3_viewWithout 20 = .ok (.lreturn, 1) := by decide +kernel
theorem dX3_noticeSince_0 : decode cX3_noticeSince 0 = .ok (.lload_n 1, 1) := by decide +kernel
theorem dX3_noticeSince_1 : decode cX3_noticeSince 1 = .ok (.aload_n 0, 1) := by decide +kernel
theorem dX3_noticeSince_2 : decode cX3_noticeSince 2 = .ok (.invokevirtual 156, 3) := by decide +kernel
theorem dX3_noticeSince_5 : decode cX3_noticeSince 5 = .ok (.lxor, 1) := by decide +kernel
theorem dX3_noticeSince_6 : decode cX3_noticeSince 6 = .ok (.lstore_n 3, 1) := by decide +kernel
theorem dX3_noticeSince_7 : decode cX3_noticeSince 7 = .ok (.iconst 0, 1) := by decide +kernel
theorem dX3_noticeSince_8 : decode cX3_noticeSince 8 = .ok (.istore 5, 2) := by decide +kernel
theorem dX3_noticeSince_10 : decode cX3_noticeSince 10 = .ok (.iload 5, 2) := by decide +kernel
theorem dX3_noticeSince_12 : decode cX3_noticeSince 12 = .ok (.aload_n 0, 1) := by decide +kernel
theorem dX3_noticeSince_13 : decode cX3_noticeSince 13 = .ok (.getfield 46, 3) := by decide +kernel
theorem dX3_noticeSince_16 : decode cX3_noticeSince 16 = .ok (.if_icmp .ge 42, 3) := by decide +kernel
theorem dX3_noticeSince_19 : decode cX3_noticeSince 19 = .ok (.lload_n 3, 1) := by decide +kernel
theorem dX3_noticeSince_20 : decode cX3_noticeSince 20 = .ok (.iload 5, 2) := by decide +kernel
theorem dX3_noticeSince_22 : decode cX3_noticeSince 22 = .ok (.invokestatic 160, 3) := by decide +kernel
theorem dX3_noticeSince_25 : decode cX3_noticeSince 25 = .ok (.istore 6, 2) := by decide +kernel
theorem dX3_noticeSince_27 : decode cX3_noticeSince 27 = .ok (.iload 6, 2) := by decide +kernel
theorem dX3_noticeSince_29 : decode cX3_noticeSince 29 = .ok (.ifCond .eq 23, 3) := by decide +kernel
theorem dX3_noticeSince_32 : decode cX3_noticeSince 32 = .ok (.aload_n 0, 1) := by decide +kernel
theorem dX3_noticeSince_33 : decode cX3_noticeSince 33 = .ok (.getfield 36, 3) := by decide +kernel
theorem dX3_noticeSince_36 : decode cX3_noticeSince 36 = .ok (.iload 5, 2) := by decide +kernel
theorem dX3_noticeSince_38 : decode cX3_noticeSince 38 = .ok (.dup2, 1) := by decide +kernel
theorem dX3_noticeSince_39 : decode cX3_noticeSince 39 = .ok (.iaload, 1) := by decide +kernel
theorem dX3_noticeSince_40 : decode cX3_noticeSince 40 = .ok (.iconst 1, 1) := by decide +kernel
theorem dX3_noticeSince_41 : decode cX3_noticeSince 41 = .ok (.iadd, 1) := by decide +kernel
theorem dX3_noticeSince_42 : decode cX3_noticeSince 42 = .ok (.iastore, 1) := by decide +kernel
theorem dX3_noticeSince_43 : decode cX3_noticeSince 43 = .ok (.aload_n 0, 1) := by decide +kernel
theorem dX3_noticeSince_44 : decode cX3_noticeSince 44 = .ok (.getfield 39, 3) := by decide +kernel
theorem dX3_noticeSince_47 : decode cX3_noticeSince 47 = .ok (.iload 5, 2) := by decide +kernel
theorem dX3_noticeSince_49 : decode cX3_noticeSince 49 = .ok (.iload 6, 2) := by decide +kernel
theorem dX3_noticeSince_51 : decode cX3_noticeSince 51 = .ok (.iastore, 1) := by decide +kernel
theorem dX3_noticeSince_52 : decode cX3_noticeSince 52 = .ok (.iinc 5 1, 3) := by decide +kernel
theorem dX3_noticeSince_55 : decode cX3_noticeSince 55 = .ok (.goto (-45), 3) := by decide +kernel
theorem dX3_noticeSince_58 : decode cX3_noticeSince 58 = .ok (.return_, 1) := by decide +kernel
end
section
theorem dX7_init_0 : decode cX7_init 0 = .ok (.aload_n 0, 1) := by decide +kernel
theorem dX7_init_1 : decode cX7_init 1 = .ok (.invokespecial 3, 3) := by decide +kernel
theorem dX7_init_4 : decode cX7_init 4 = .ok (.aload_n 0, 1) := by decide +kernel
theorem dX7_init_5 : decode cX7_init 5 = .ok (.new 9, 3) := by decide +kernel
theorem dX7_init_8 : decode cX7_init 8 = .ok (.dup, 1) := by decide +kernel
theorem dX7_init_9 : decode cX7_init 9 = .ok (.invokespecial 11, 3) := by decide +kernel
theorem dX7_init_12 : decode cX7_init 12 = .ok (.putfield 12, 3) := by decide +kernel
theorem dX7_init_15 : decode cX7_init 15 = .ok (.aload_n 0, 1) := by decide +kernel
theorem dX7_init_16 : decode cX7_init 16 = .ok (.new 16, 3) := by decide +kernel
theorem dX7_init_19 : decode cX7_init 19 = .ok (.dup, 1) := by decide +kernel
theorem dX7_init_20 : decode cX7_init 20 = .ok (.invokespecial 18, 3) := by decide +kernel
theorem dX7_init_23 : decode cX7_init 23 = .ok (.putfield 19, 3) := by decide +kernel
theorem dX7_init_26 : decode cX7_init 26 = .ok (.aload_n 0, 1) := by decide +kernel
theorem dX7_init_27 : decode cX7_init 27 = .ok (.new 23, 3) := by decide +kernel
theorem dX7_init_30 : decode cX7_init 30 = .ok (.dup, 1) := by decide +kernel
theorem dX7_init_31 : decode cX7_init 31 = .ok (.invokespecial 25, 3) := by decide +kernel
theorem dX7_init_34 : decode cX7_init 34 = .ok (.putfield 26, 3) := by decide +kernel
theorem dX7_init_37 : decode cX7_init 37 = .ok (.aload_n 0, 1) := by decide +kernel
theorem dX7_init_38 : decode cX7_init 38 = .ok (.getfield 26, 3) := by decide +kernel
theorem dX7_init_41 : decode cX7_init 41 = .ok (.iconst 5, 1) := by decide +kernel
theorem dX7_init_42 : decode cX7_init 42 = .ok (.iconst 0, 1) := by decide +kernel
theorem dX7_init_43 : decode cX7_init 43 = .ok (.iconst 0, 1) := by decide +kernel
theorem dX7_init_44 : decode cX7_init 44 = .ok (.invokevirtual 30, 3) := by decide +kernel
theorem dX7_init_47 : decode cX7_init 47 = .ok (.aload_n 0, 1) := by decide +kernel
theorem dX7_init_48 : decode cX7_init 48 = .ok (.new 34, 3) := by decide +kernel
theorem dX7_init_51 : decode cX7_init 51 = .ok (.dup, 1) := by decide +kernel
theorem dX7_init_52 : decode cX7_init 52 = .ok (.invokespecial 36, 3) := by decide +kernel
theorem dX7_init_55 : decode cX7_init 55 = .ok (.putfield 37, 3) := by decide +kernel
theorem dX7_init_58 : decode cX7_init 58 = .ok (.aload_n 0, 1) := by decide +kernel
theorem dX7_init_59 : decode cX7_init 59 = .ok (.new 41, 3) := by decide +kernel
theorem dX7_init_62 : decode cX7_init 62 = .ok (.dup, 1) := by decide +kernel
theorem dX7_init_63 : decode cX7_init 63 = .ok (.invokespecial 43, 3) := by decide +kernel
theorem dX7_init_66 : decode cX7_init 66 = .ok (.putfield 44, 3) := by decide +kernel
theorem dX7_init_69 : decode cX7_init 69 = .ok (.aload_n 0, 1) := by decide +kernel
theorem dX7_init_70 : decode cX7_init 70 = .ok (.new 48, 3) := by decide +kernel
theorem dX7_init_73 : decode cX7_init 73 = .ok (.dup, 1) := by decide +kernel
theorem dX7_init_74 : decode cX7_init 74 = .ok (.invokespecial 50, 3) := by decide +kernel
theorem dX7_init_77 : decode cX7_init 77 = .ok (.putfield 51, 3) := by decide +kernel
theorem dX7_init_80 : decode cX7_init 80 = .ok (.aload_n 0, 1) := by decide +kernel
theorem dX7_init_81 : decode cX7_init 81 = .ok (.new 55, 3) := by decide +kernel
theorem dX7_init_84 : decode cX7_init 84 = .ok (.dup, 1) := by decide +kernel
theorem dX7_init_85 : decode cX7_init 85 = .ok (.invokespecial 57, 3) := by decide +kernel
theorem dX7_init_88 : decode cX7_init 88 = .ok (.putfield 58, 3) := by decide +kernel
theorem dX7_init_91 : decode cX7_init 91 = .ok (.return_, 1) := by decide +kernel
theorem dX7_type_0 : decode cX7_type 0 = .ok (.iload_n 1, 1) := by decide +kernel
theorem dX7_type_1 : decode cX7_type 1 = .ok (.ifCond .lt 10, 3) := by decide +kernel
theorem dX7_type_4 : decode cX7_type 4 = .ok (.iload_n 1, 1) := by decide +kernel
theorem dX7_type_5 : decode cX7_type 5 = .ok (.sipush 255, 3) := by decide +kernel
theorem dX7_type_8 : decode cX7_type 8 = .ok (.if_icmp .le 5, 3) := by decide +kernel
theorem dX7_type_11 : decode cX7_type 11 = .ok (.iconst (-1), 1) := by decide +kernel
theorem dX7_type_12 : decode cX7_type 12 = .ok (.ireturn, 1) := by decide +kernel
theorem dX7_type_13 : decode cX7_type 13 = .ok (.aload_n 0, 1) := by decide +kernel
theorem dX7_type_14 : decode cX7_type 14 = .ok (.getfield 12, 3) := by decide +kernel
theorem dX7_type_17 : decode cX7_type 17 = .ok (.iload_n 1, 1) := by decide +kernel
theorem dX7_type_18 : decode cX7_type 18 = .ok (.invokevirtual 62, 3) := by decide +kernel
theorem dX7_type_21 : decode cX7_type 21 = .ok (.ifCond .eq 13, 3) := by decide +kernel
theorem dX7_type_24 : decode cX7_type 24 = .ok (.aload_n 0, 1) := by decide +kernel
theorem dX7_type_25 : decode cX7_type 25 = .ok (.getfield 12, 3) := by decide +kernel
theorem dX7_type_28 : decode cX7_type 28 = .ok (.invokevirtual 66, 3) := by decide +kernel
theorem dX7_type_31 : decode cX7_type 31 = .ok (.goto 5, 3) := by decide +kernel
theorem dX7_type_34 : decode cX7_type 34 = .ok (.bipush (-3), 2) := by decide +kernel
theorem dX7_type_36 : decode cX7_type 36 = .ok (.ireturn, 1) := by decide +kernel
theorem dX7_clear_0 : decode cX7_clear 0 = .ok (.aload_n 0, 1) := by decide +kernel
theorem dX7_clear_1 : decode cX7_clear 1 = .ok (.getfield 12, 3) := by decide +kernel
theorem dX7_clear_4 : decode cX7_clear 4 = .ok (.invokevirtual 66, 3) := by decide +kernel
theorem dX7_clear_7 : decode cX7_clear 7 = .ok (.istore_n 1, 1) := by decide +kernel
theorem dX7_clear_8 : decode cX7_clear 8 = .ok (.aload_n 0, 1) := by decide +kernel
theorem dX7_clear_9 : decode cX7_clear 9 = .ok (.getfield 12, 3) := by decide +kernel
theorem dX7_clear_12 : decode cX7_clear 12 = .ok (.invokevirtual 70, 3) := by decide +kernel
theorem dX7_clear_15 : decode cX7_clear 15 = .ok (.iload_n 1, 1) := by decide +kernel
theorem dX7_clear_16 : decode cX7_clear 16 = .ok (.ireturn, 1) := by decide +kernel
theorem dX7_tells_0 : decode cX7_tells 0 = .ok (.aload_n 0, 1) := by decide +kernel
theorem dX7_tells_1 : decode cX7_tells 1 = .ok (.getfield 19, 3) := by decide +kernel
theorem dX7_tells_4 : decode cX7_tells 4 = .ok (.aload_n 0, 1) := by decide +kernel
theorem dX7_tells_5 : decode cX7_tells 5 = .ok (.getfield 12, 3) := by decide +kernel
theorem dX7_tells_8 : decode cX7_tells 8 = .ok (.invokevirtual 73, 3) := by decide +kernel
theorem dX7_tells_11 : decode cX7_tells 11 = .ok (.istore_n 1, 1) := by decide +kernel
theorem dX7_tells_12 : decode cX7_tells 12 = .ok (.iload_n 1, 1) := by decide +kernel
theorem dX7_tells_13 : decode cX7_tells 13 = .ok (.bipush (-9), 2) := by decide +kernel
theorem dX7_tells_15 : decode cX7_tells 15 = .ok (.if_icmp .eq 8, 3) := by decide +kernel
theorem dX7_tells_18 : decode cX7_tells 18 = .ok (.bipush (-10), 2) := by decide +kernel
theorem dX7_tells_20 : decode cX7_tells 20 = .ok (.iload_n 1, 1) := by decide +kernel
theorem dX7_tells_21 : decode cX7_tells 21 = .ok (.isub, 1) := by decide +kernel
theorem dX7_tells_22 : decode cX7_tells 22 = .ok (.ireturn, 1) := by decide +kernel
theorem dX7_tells_23 : decode cX7_tells 23 = .ok (.aload_n 0, 1) := by decide +kernel
theorem dX7_tells_24 : decode cX7_tells 24 = .ok (.getfield 37, 3) := by decide +kernel
theorem dX7_tells_27 : decode cX7_tells 27 = .ok (.aload_n 0, 1) := by decide +kernel
theorem dX7_tells_28 : decode cX7_tells 28 = .ok (.getfield 26, 3) := by decide +kernel
theorem dX7_tells_31 : decode cX7_tells 31 = .ok (.invokevirtual 77, 3) := by decide +kernel
theorem dX7_tells_34 : decode cX7_tells 34 = .ok (.aload_n 0, 1) := by decide +kernel
theorem dX7_tells_35 : decode cX7_tells 35 = .ok (.getfield 26, 3) := by decide +kernel
theorem dX7_tells_38 : decode cX7_tells 38 = .ok (.aload_n 0, 1) := by decide +kernel
theorem dX7_tells_39 : decode cX7_tells 39 = .ok (.getfield 19, 3) := by decide +kernel
theorem dX7_tells_42 : decode cX7_tells 42 = .ok (.invokevirtual 81, 3) := by decide +kernel
theorem dX7_tells_45 : decode cX7_tells 45 = .ok (.invokevirtual 85, 3) := by decide +kernel
theorem dX7_tells_48 : decode cX7_tells 48 = .ok (.aload_n 0, 1) := by decide +kernel
theorem dX7_tells_49 : decode cX7_tells 49 = .ok (.getfield 12, 3) := by decide +kernel
theorem dX7_tells_52 : decode cX7_tells 52 = .ok (.invokevirtual 70, 3) := by decide +kernel
theorem dX7_tells_55 : decode cX7_tells 55 = .ok (.aload_n 0, 1) := by decide +kernel
theorem dX7_tells_56 : decode cX7_tells 56 = .ok (.getfield 51, 3) := by decide +kernel
theorem dX7_tells_59 : decode cX7_tells 59 = .ok (.invokevirtual 88, 3) := by decide +kernel
theorem dX7_tells_62 : decode cX7_tells 62 = .ok (.aload_n 0, 1) := by decide +kernel
theorem dX7_tells_63 : decode cX7_tells 63 = .ok (.getfield 44, 3) := by decide +kernel
theorem dX7_tells_66 : decode cX7_tells 66 = .ok (.invokevirtual 89, 3) := by decide +kernel
theorem dX7_tells_69 : decode cX7_tells 69 = .ok (.aload_n 0, 1) := by decide +kernel
theorem dX7_tells_70 : decode cX7_tells 70 = .ok (.getfield 26, 3) := by decide +kernel
theorem dX7_tells_73 : decode cX7_tells 73 = .ok (.invokevirtual 90, 3) := by decide +kernel
theorem dX7_tells_76 : decode cX7_tells 76 = .ok (.aload_n 0, 1) := by decide +kernel
theorem dX7_tells_77 : decode cX7_tells 77 = .ok (.getfield 26, 3) := by decide +kernel
theorem dX7_tells_80 : decode cX7_tells 80 = .ok (.invokevirtual 93, 3) := by decide +kernel
theorem dX7_tells_83 : decode cX7_tells 83 = .ok (.iadd, 1) := by decide +kernel
theorem dX7_tells_84 : decode cX7_tells 84 = .ok (.ireturn, 1) := by decide +kernel
theorem dX7_joins_0 : decode cX7_joins 0 = .ok (.aload_n 0, 1) := by decide +kernel
theorem dX7_joins_1 : decode cX7_joins 1 = .ok (.getfield 26, 3) := by decide +kernel
theorem dX7_joins_4 : decode cX7_joins 4 = .ok (.iload_n 1, 1) := by decide +kernel
theorem dX7_joins_5 : decode cX7_joins 5 = .ok (.iload_n 2, 1) := by decide +kernel
theorem dX7_joins_6 : decode cX7_joins 6 = .ok (.invokevirtual 96, 3) := by decide +kernel
theorem dX7_joins_9 : decode cX7_joins 9 = .ok (.ifCond .ne 5, 3) := by decide +kernel
theorem dX7_joins_12 : decode cX7_joins 12 = .ok (.iconst (-1), 1) := by decide +kernel
theorem dX7_joins_13 : decode cX7_joins 13 = .ok (.ireturn, 1) := by decide +kernel
theorem dX7_joins_14 : decode cX7_joins 14 = .ok (.aload_n 0, 1) := by decide +kernel
theorem dX7_joins_15 : decode cX7_joins 15 = .ok (.getfield 26, 3) := by decide +kernel
theorem dX7_joins_18 : decode cX7_joins 18 = .ok (.iload_n 1, 1) := by decide +kernel
theorem dX7_joins_19 : decode cX7_joins 19 = .ok (.iload_n 2, 1) := by decide +kernel
theorem dX7_joins_20 : decode cX7_joins 20 = .ok (.invokevirtual 100, 3) := by decide +kernel
theorem dX7_joins_23 : decode cX7_joins 23 = .ok (.ifCond .eq 6, 3) := by decide +kernel
theorem dX7_joins_26 : decode cX7_joins 26 = .ok (.bipush (-2), 2) := by decide +kernel
theorem dX7_joins_28 : decode cX7_joins 28 = .ok (.ireturn, 1) := by decide +kernel
theorem dX7_joins_29 : decode cX7_joins 29 = .ok (.aload_n 0, 1) := by decide +kernel
theorem dX7_joins_30 : decode cX7_joins 30 = .ok (.invokevirtual 103, 3) := by decide +kernel
theorem dX7_joins_33 : decode cX7_joins 33 = .ok (.lstore_n 3, 1) := by decide +kernel
theorem dX7_joins_34 : decode cX7_joins 34 = .ok (.aload_n 0, 1) := by decide +kernel
theorem dX7_joins_35 : decode cX7_joins 35 = .ok (.getfield 26, 3) := by decide +kernel
theorem dX7_joins_38 : decode cX7_joins 38 = .ok (.iload_n 1, 1) := by decide +kernel
theorem dX7_joins_39 : decode cX7_joins 39 = .ok (.iload_n 2, 1) := by decide +kernel
theorem dX7_joins_40 : decode cX7_joins 40 = .ok (.invokevirtual 107, 3) := by decide +kernel
theorem dX7_joins_43 : decode cX7_joins 43 = .ok (.istore 5, 2) := by decide +kernel
theorem dX7_joins_45 : decode cX7_joins 45 = .ok (.aload_n 0, 1) := by decide +kernel
theorem dX7_joins_46 : decode cX7_joins 46 = .ok (.getfield 26, 3) := by decide +kernel
theorem dX7_joins_49 : decode cX7_joins 49 = .ok (.lload_n 3, 1) := by decide +kernel
theorem dX7_joins_50 : decode cX7_joins 50 = .ok (.invokevirtual 110, 3) := by decide +kernel
theorem dX7_joins_53 : decode cX7_joins 53 = .ok (.iload 5, 2) := by decide +kernel
theorem dX7_joins_55 : decode cX7_joins 55 = .ok (.ifCond .eq 7, 3) := by decide +kernel
theorem dX7_joins_58 : decode cX7_joins 58 = .ok (.iconst 1, 1) := by decide +kernel
theorem dX7_joins_59 : decode cX7_joins 59 = .ok (.goto 4, 3) := by decide +kernel
theorem dX7_joins_62 : decode cX7_joins 62 = .ok (.iconst 0, 1) := by decide +kernel
theorem dX7_joins_63 : decode cX7_joins 63 = .ok (.ireturn, 1) := by decide +kernel
theorem dX7_cuts_0 : decode cX7_cuts 0 = .ok (.aload_n 0, 1) := by decide +kernel
theorem dX7_cuts_1 : decode cX7_cuts 1 = .ok (.getfield 26, 3) := by decide +kernel
theorem dX7_cuts_4 : decode cX7_cuts 4 = .ok (.iload_n 1, 1) := by decide +kernel
theorem dX7_cuts_5 : decode cX7_cuts 5 = .ok (.iload_n 2, 1) := by decide +kernel
theorem dX7_cuts_6 : decode cX7_cuts 6 = .ok (.invokevirtual 96, 3) := by decide +kernel
theorem dX7_cuts_9 : decode cX7_cuts 9 = .ok (.ifCond .ne 5, 3) := by decide +kernel
theorem dX7_cuts_12 : decode cX7_cuts 12 = .ok (.iconst (-1), 1) := by decide +kernel
theorem dX7_cuts_13 : decode cX7_cuts 13 = .ok (.ireturn, 1) := by decide +kernel
theorem dX7_cuts_14 : decode cX7_cuts 14 = .ok (.aload_n 0, 1) := by decide +kernel
theorem dX7_cuts_15 : decode cX7_cuts 15 = .ok (.getfield 26, 3) := by decide +kernel
theorem dX7_cuts_18 : decode cX7_cuts 18 = .ok (.iload_n 1, 1) := by decide +kernel
theorem dX7_cuts_19 : decode cX7_cuts 19 = .ok (.iload_n 2, 1) := by decide +kernel
theorem dX7_cuts_20 : decode cX7_cuts 20 = .ok (.invokevirtual 114, 3) := by decide +kernel
theorem dX7_cuts_23 : decode cX7_cuts 23 = .ok (.ifCond .ne 6, 3) := by decide +kernel
theorem dX7_cuts_26 : decode cX7_cuts 26 = .ok (.bipush (-2), 2) := by decide +kernel
theorem dX7_cuts_28 : decode cX7_cuts 28 = .ok (.ireturn, 1) := by decide +kernel
theorem dX7_cuts_29 : decode cX7_cuts 29 = .ok (.aload_n 0, 1) := by decide +kernel
theorem dX7_cuts_30 : decode cX7_cuts 30 = .ok (.invokevirtual 103, 3) := by decide +kernel
theorem dX7_cuts_33 : decode cX7_cuts 33 = .ok (.lstore_n 3, 1) := by decide +kernel
theorem dX7_cuts_34 : decode cX7_cuts 34 = .ok (.aload_n 0, 1) := by decide +kernel
theorem dX7_cuts_35 : decode cX7_cuts 35 = .ok (.getfield 26, 3) := by decide +kernel
theorem dX7_cuts_38 : decode cX7_cuts 38 = .ok (.iload_n 1, 1) := by decide +kernel
theorem dX7_cuts_39 : decode cX7_cuts 39 = .ok (.iload_n 2, 1) := by decide +kernel
theorem dX7_cuts_40 : decode cX7_cuts 40 = .ok (.iconst 0, 1) := by decide +kernel
theorem dX7_cuts_41 : decode cX7_cuts 41 = .ok (.invokevirtual 118, 3) := by decide +kernel
theorem dX7_cuts_44 : decode cX7_cuts 44 = .ok (.aload_n 0, 1) := by decide +kernel
theorem dX7_cuts_45 : decode cX7_cuts 45 = .ok (.getfield 26, 3) := by decide +kernel
theorem dX7_cuts_48 : decode cX7_cuts 48 = .ok (.lload_n 3, 1) := by decide +kernel
theorem dX7_cuts_49 : decode cX7_cuts 49 = .ok (.invokevirtual 110, 3) := by decide +kernel
theorem dX7_cuts_52 : decode cX7_cuts 52 = .ok (.aload_n 0, 1) := by decide +kernel
theorem dX7_cuts_53 : decode cX7_cuts 53 = .ok (.getfield 26, 3) := by decide +kernel
theorem dX7_cuts_56 : decode cX7_cuts 56 = .ok (.invokevirtual 121, 3) := by decide +kernel
theorem dX7_cuts_59 : decode cX7_cuts 59 = .ok (.ireturn, 1) := by decide +kernel
theorem dX7_zones_0 : decode cX7_zones 0 = .ok (.aload_n 0, 1) := by decide +kernel
theorem dX7_zones_1 : decode cX7_zones 1 = .ok (.getfield 26, 3) := by decide +kernel
theorem dX7_zones_4 : decode cX7_zones 4 = .ok (.iload_n 1, 1) := by decide +kernel
theorem dX7_zones_5 : decode cX7_zones 5 = .ok (.invokevirtual 124, 3) := by decide +kernel
theorem dX7_zones_8 : decode cX7_zones 8 = .ok (.ifCond .eq 27, 3) := by decide +kernel
theorem dX7_zones_11 : decode cX7_zones 11 = .ok (.iload_n 2, 1) := by decide +kernel
theorem dX7_zones_12 : decode cX7_zones 12 = .ok (.ifCond .lt 23, 3) := by decide +kernel
theorem dX7_zones_15 : decode cX7_zones 15 = .ok (.iload_n 2, 1) := by decide +kernel
theorem dX7_zones_16 : decode cX7_zones 16 = .ok (.iconst 4, 1) := by decide +kernel
theorem dX7_zones_17 : decode cX7_zones 17 = .ok (.if_icmp .ge 18, 3) := by decide +kernel
theorem dX7_zones_20 : decode cX7_zones 20 = .ok (.iload_n 3, 1) := by decide +kernel
theorem dX7_zones_21 : decode cX7_zones 21 = .ok (.ifCond .lt 14, 3) := by decide +kernel
theorem dX7_zones_24 : decode cX7_zones 24 = .ok (.iload_n 3, 1) := by decide +kernel
theorem dX7_zones_25 : decode cX7_zones 25 = .ok (.aload_n 0, 1) := by decide +kernel
theorem dX7_zones_26 : decode cX7_zones 26 = .ok (.getfield 26, 3) := by decide +kernel
theorem dX7_zones_29 : decode cX7_zones 29 = .ok (.invokevirtual 127, 3) := by decide +kernel
theorem dX7_zones_32 : decode cX7_zones 32 = .ok (.if_icmp .le 5, 3) := by decide +kernel
theorem dX7_zones_35 : decode cX7_zones 35 = .ok (.iconst (-1), 1) := by decide +kernel
theorem dX7_zones_36 : decode cX7_zones 36 = .ok (.ireturn, 1) := by decide +kernel
theorem dX7_zones_37 : decode cX7_zones 37 = .ok (.aload_n 0, 1) := by decide +kernel
theorem dX7_zones_38 : decode cX7_zones 38 = .ok (.getfield 26, 3) := by decide +kernel
theorem dX7_zones_41 : decode cX7_zones 41 = .ok (.iload_n 1, 1) := by decide +kernel
theorem dX7_zones_42 : decode cX7_zones 42 = .ok (.iload_n 2, 1) := by decide +kernel
theorem dX7_zones_43 : decode cX7_zones 43 = .ok (.invokevirtual 130, 3) := by decide +kernel
theorem dX7_zones_46 : decode cX7_zones 46 = .ok (.istore 4, 2) := by decide +kernel
theorem dX7_zones_48 : decode cX7_zones 48 = .ok (.iload 4, 2) := by decide +kernel
theorem dX7_zones_50 : decode cX7_zones 50 = .ok (.iload_n 3, 1) := by decide +kernel
theorem dX7_zones_51 : decode cX7_zones 51 = .ok (.if_icmp .ne 6, 3) := by decide +kernel
theorem dX7_zones_54 : decode cX7_zones 54 = .ok (.bipush (-2), 2) := by decide +kernel
theorem dX7_zones_56 : decode cX7_zones 56 = .ok (.ireturn, 1) := by decide +kernel
theorem dX7_zones_57 : decode cX7_zones 57 = .ok (.aload_n 0, 1) := by decide +kernel
theorem dX7_zones_58 : decode cX7_zones 58 = .ok (.invokevirtual 103, 3) := by decide +kernel
theorem dX7_zones_61 : decode cX7_zones 61 = .ok (.lstore 5, 2) := by decide +kernel
theorem dX7_zones_63 : decode cX7_zones 63 = .ok (.aload_n 0, 1) := by decide +kernel
theorem dX7_zones_64 : decode cX7_zones 64 = .ok (.getfield 26, 3) := by decide +kernel
theorem dX7_zones_67 : decode cX7_zones 67 = .ok (.aload_n 0, 1) := by decide +kernel
theorem dX7_zones_68 : decode cX7_zones 68 = .ok (.getfield 26, 3) := by decide +kernel
theorem dX7_zones_71 : decode cX7_zones 71 = .ok (.iload_n 1, 1) := by decide +kernel
theorem dX7_zones_72 : decode cX7_zones 72 = .ok (.invokevirtual 133, 3) := by decide +kernel
theorem dX7_zones_75 : decode cX7_zones 75 = .ok (.iload_n 2, 1) := by decide +kernel
theorem dX7_zones_76 : decode cX7_zones 76 = .ok (.iload_n 3, 1) := by decide +kernel
theorem dX7_zones_77 : decode cX7_zones 77 = .ok (.invokevirtual 137, 3) := by decide +kernel
theorem dX7_zones_80 : decode cX7_zones 80 = .ok (.aload_n 0, 1) := by decide +kernel
theorem dX7_zones_81 : decode cX7_zones 81 = .ok (.getfield 26, 3) := by decide +kernel
theorem dX7_zones_84 : decode cX7_zones 84 = .ok (.lload 5, 2) := by decide +kernel
theorem dX7_zones_86 : decode cX7_zones 86 = .ok (.invokevirtual 110, 3) := by decide +kernel
theorem dX7_zones_89 : decode cX7_zones 89 = .ok (.iload 4, 2) := by decide +kernel
theorem dX7_zones_91 : decode cX7_zones 91 = .ok (.ireturn, 1) := by decide +kernel
theorem dX7_moves_0 : decode cX7_moves 0 = .ok (.aload_n 0, 1) := by decide +kernel
theorem dX7_moves_1 : decode cX7_moves 1 = .ok (.getfield 26, 3) := by decide +kernel
theorem dX7_moves_4 : decode cX7_moves 4 = .ok (.iload_n 1, 1) := by decide +kernel
theorem dX7_moves_5 : decode cX7_moves 5 = .ok (.invokevirtual 140, 3) := by decide +kernel
theorem dX7_moves_8 : decode cX7_moves 8 = .ok (.ifCond .eq 20, 3) := by decide +kernel
theorem dX7_moves_11 : decode cX7_moves 11 = .ok (.iload_n 2, 1) := by decide +kernel
theorem dX7_moves_12 : decode cX7_moves 12 = .ok (.bipush (-9), 2) := by decide +kernel
theorem dX7_moves_14 : decode cX7_moves 14 = .ok (.if_icmp .eq 16, 3) := by decide +kernel
theorem dX7_moves_17 : decode cX7_moves 17 = .ok (.aload_n 0, 1) := by decide +kernel
theorem dX7_moves_18 : decode cX7_moves 18 = .ok (.getfield 26, 3) := by decide +kernel
theorem dX7_moves_21 : decode cX7_moves 21 = .ok (.iload_n 2, 1) := by decide +kernel
theorem dX7_moves_22 : decode cX7_moves 22 = .ok (.invokevirtual 124, 3) := by decide +kernel
theorem dX7_moves_25 : decode cX7_moves 25 = .ok (.ifCond .ne 5, 3) := by decide +kernel
theorem dX7_moves_28 : decode cX7_moves 28 = .ok (.iconst (-1), 1) := by decide +kernel
theorem dX7_moves_29 : decode cX7_moves 29 = .ok (.ireturn, 1) := by decide +kernel
theorem dX7_moves_30 : decode cX7_moves 30 = .ok (.aload_n 0, 1) := by decide +kernel
theorem dX7_moves_31 : decode cX7_moves 31 = .ok (.getfield 26, 3) := by decide +kernel
theorem dX7_moves_34 : decode cX7_moves 34 = .ok (.iload_n 1, 1) := by decide +kernel
theorem dX7_moves_35 : decode cX7_moves 35 = .ok (.invokevirtual 143, 3) := by decide +kernel
theorem dX7_moves_38 : decode cX7_moves 38 = .ok (.istore_n 3, 1) := by decide +kernel
theorem dX7_moves_39 : decode cX7_moves 39 = .ok (.iload_n 3, 1) := by decide +kernel
theorem dX7_moves_40 : decode cX7_moves 40 = .ok (.iload_n 2, 1) := by decide +kernel
theorem dX7_moves_41 : decode cX7_moves 41 = .ok (.if_icmp .ne 6, 3) := by decide +kernel
theorem dX7_moves_44 : decode cX7_moves 44 = .ok (.bipush (-2), 2) := by decide +kernel
theorem dX7_moves_46 : decode cX7_moves 46 = .ok (.ireturn, 1) := by decide +kernel
theorem dX7_moves_47 : decode cX7_moves 47 = .ok (.aload_n 0, 1) := by decide +kernel
theorem dX7_moves_48 : decode cX7_moves 48 = .ok (.invokevirtual 103, 3) := by decide +kernel
theorem dX7_moves_51 : decode cX7_moves 51 = .ok (.lstore 4, 2) := by decide +kernel
theorem dX7_moves_53 : decode cX7_moves 53 = .ok (.aload_n 0, 1) := by decide +kernel
theorem dX7_moves_54 : decode cX7_moves 54 = .ok (.getfield 26, 3) := by decide +kernel
theorem dX7_moves_57 : decode cX7_moves 57 = .ok (.iload_n 1, 1) := by decide +kernel
theorem dX7_moves_58 : decode cX7_moves 58 = .ok (.iload_n 2, 1) := by decide +kernel
theorem dX7_moves_59 : decode cX7_moves 59 = .ok (.invokevirtual 146, 3) := by decide +kernel
theorem dX7_moves_62 : decode cX7_moves 62 = .ok (.aload_n 0, 1) := by decide +kernel
theorem dX7_moves_63 : decode cX7_moves 63 = .ok (.getfield 26, 3) := by decide +kernel
theorem dX7_moves_66 : decode cX7_moves 66 = .ok (.lload 4, 2) := by decide +kernel
theorem dX7_moves_68 : decode cX7_moves 68 = .ok (.invokevirtual 110, 3) := by decide +kernel
theorem dX7_moves_71 : decode cX7_moves 71 = .ok (.iload_n 3, 1) := by decide +kernel
theorem dX7_moves_72 : decode cX7_moves 72 = .ok (.ireturn, 1) := by decide +kernel
theorem dX7_ranks_0 : decode cX7_ranks 0 = .ok (.aload_n 0, 1) := by decide +kernel
theorem dX7_ranks_1 : decode cX7_ranks 1 = .ok (.getfield 26, 3) := by decide +kernel
theorem dX7_ranks_4 : decode cX7_ranks 4 = .ok (.iload_n 1, 1) := by decide +kernel
theorem dX7_ranks_5 : decode cX7_ranks 5 = .ok (.invokevirtual 124, 3) := by decide +kernel
theorem dX7_ranks_8 : decode cX7_ranks 8 = .ok (.ifCond .eq 14, 3) := by decide +kernel
theorem dX7_ranks_11 : decode cX7_ranks 11 = .ok (.iload_n 2, 1) := by decide +kernel
theorem dX7_ranks_12 : decode cX7_ranks 12 = .ok (.iconst 1, 1) := by decide +kernel
theorem dX7_ranks_13 : decode cX7_ranks 13 = .ok (.if_icmp .lt 9, 3) := by decide +kernel
theorem dX7_ranks_16 : decode cX7_ranks 16 = .ok (.iload_n 2, 1) := by decide +kernel
theorem dX7_ranks_17 : decode cX7_ranks 17 = .ok (.bipush 9, 2) := by decide +kernel
theorem dX7_ranks_19 : decode cX7_ranks 19 = .ok (.if_icmp .le 5, 3) := by decide +kernel
theorem dX7_ranks_22 : decode cX7_ranks 22 = .ok (.iconst (-1), 1) := by decide +kernel
theorem dX7_ranks_23 : decode cX7_ranks 23 = .ok (.ireturn, 1) := by decide +kernel
theorem dX7_ranks_24 : decode cX7_ranks 24 = .ok (.aload_n 0, 1) := by decide +kernel
theorem dX7_ranks_25 : decode cX7_ranks 25 = .ok (.getfield 26, 3) := by decide +kernel
theorem dX7_ranks_28 : decode cX7_ranks 28 = .ok (.iload_n 1, 1) := by decide +kernel
theorem dX7_ranks_29 : decode cX7_ranks 29 = .ok (.invokevirtual 150, 3) := by decide +kernel
theorem dX7_ranks_32 : decode cX7_ranks 32 = .ok (.istore_n 3, 1) := by decide +kernel
theorem dX7_ranks_33 : decode cX7_ranks 33 = .ok (.iload_n 3, 1) := by decide +kernel
theorem dX7_ranks_34 : decode cX7_ranks 34 = .ok (.iload_n 2, 1) := by decide +kernel
theorem dX7_ranks_35 : decode cX7_ranks 35 = .ok (.if_icmp .ne 6, 3) := by decide +kernel
theorem dX7_ranks_38 : decode cX7_ranks 38 = .ok (.bipush (-2), 2) := by decide +kernel
theorem dX7_ranks_40 : decode cX7_ranks 40 = .ok (.ireturn, 1) := by decide +kernel
theorem dX7_ranks_41 : decode cX7_ranks 41 = .ok (.aload_n 0, 1) := by decide +kernel
theorem dX7_ranks_42 : decode cX7_ranks 42 = .ok (.getfield 37, 3) := by decide +kernel
theorem dX7_ranks_45 : decode cX7_ranks 45 = .ok (.aload_n 0, 1) := by decide +kernel
theorem dX7_ranks_46 : decode cX7_ranks 46 = .ok (.getfield 26, 3) := by decide +kernel
theorem dX7_ranks_49 : decode cX7_ranks 49 = .ok (.invokevirtual 77, 3) := by decide +kernel
theorem dX7_ranks_52 : decode cX7_ranks 52 = .ok (.aload_n 0, 1) := by decide +kernel
theorem dX7_ranks_53 : decode cX7_ranks 53 = .ok (.getfield 26, 3) := by decide +kernel
theorem dX7_ranks_56 : decode cX7_ranks 56 = .ok (.iload_n 1, 1) := by decide +kernel
theorem dX7_ranks_57 : decode cX7_ranks 57 = .ok (.iload_n 2, 1) := by decide +kernel
theorem dX7_ranks_58 : decode cX7_ranks 58 = .ok (.invokevirtual 153, 3) := by decide +kernel
theorem dX7_ranks_61 : decode cX7_ranks 61 = .ok (.iload_n 3, 1) := by decide +kernel
theorem dX7_ranks_62 : decode cX7_ranks 62 = .ok (.ireturn, 1) := by decide +kernel
theorem dX7_renews_0 : decode cX7_renews 0 = .ok (.aload_n 0, 1) := by decide +kernel
theorem dX7_renews_1 : decode cX7_renews 1 = .ok (.getfield 26, 3) := by decide +kernel
theorem dX7_renews_4 : decode cX7_renews 4 = .ok (.iload_n 1, 1) := by decide +kernel
theorem dX7_renews_5 : decode cX7_renews 5 = .ok (.invokevirtual 124, 3) := by decide +kernel
theorem dX7_renews_8 : decode cX7_renews 8 = .ok (.ifCond .ne 5, 3) := by decide +kernel
theorem dX7_renews_11 : decode cX7_renews 11 = .ok (.iconst (-1), 1) := by decide +kernel
theorem dX7_renews_12 : decode cX7_renews 12 = .ok (.ireturn, 1) := by decide +kernel
theorem dX7_renews_13 : decode cX7_renews 13 = .ok (.aload_n 0, 1) := by decide +kernel
theorem dX7_renews_14 : decode cX7_renews 14 = .ok (.getfield 37, 3) := by decide +kernel
theorem dX7_renews_17 : decode cX7_renews 17 = .ok (.aload_n 0, 1) := by decide +kernel
theorem dX7_renews_18 : decode cX7_renews 18 = .ok (.getfield 26, 3) := by decide +kernel
theorem dX7_renews_21 : decode cX7_renews 21 = .ok (.invokevirtual 77, 3) := by decide +kernel
theorem dX7_renews_24 : decode cX7_renews 24 = .ok (.aload_n 0, 1) := by decide +kernel
theorem dX7_renews_25 : decode cX7_renews 25 = .ok (.getfield 26, 3) := by decide +kernel
theorem dX7_renews_28 : decode cX7_renews 28 = .ok (.aload_n 0, 1) := by decide +kernel
theorem dX7_renews_29 : decode cX7_renews 29 = .ok (.getfield 26, 3) := by decide +kernel
theorem dX7_renews_32 : decode cX7_renews 32 = .ok (.iload_n 1, 1) := by decide +kernel
theorem dX7_renews_33 : decode cX7_renews 33 = .ok (.invokevirtual 133, 3) := by decide +kernel
theorem dX7_renews_36 : decode cX7_renews 36 = .ok (.invokevirtual 156, 3) := by decide +kernel
theorem dX7_renews_39 : decode cX7_renews 39 = .ok (.ireturn, 1) := by decide +kernel
theorem dX7_allows_0 : decode cX7_allows 0 = .ok (.iload_n 1, 1) := by decide +kernel
theorem dX7_allows_1 : decode cX7_allows 1 = .ok (.ifCond .lt 8, 3) := by decide +kernel
theorem dX7_allows_4 : decode cX7_allows 4 = .ok (.iload_n 1, 1) := by decide +kernel
theorem dX7_allows_5 : decode cX7_allows 5 = .ok (.iconst 1, 1) := by decide +kernel
theorem dX7_allows_6 : decode cX7_allows 6 = .ok (.if_icmp .le 5, 3) := by decide +kernel
theorem dX7_allows_9 : decode cX7_allows 9 = .ok (.iconst (-1), 1) := by decide +kernel
theorem dX7_allows_10 : decode cX7_allows 10 = .ok (.ireturn, 1) := by decide +kernel
theorem dX7_allows_11 : decode cX7_allows 11 = .ok (.aload_n 0, 1) := by decide +kernel
theorem dX7_allows_12 : decode cX7_allows 12 = .ok (.getfield 26, 3) := by decide +kernel
theorem dX7_allows_15 : decode cX7_allows 15 = .ok (.invokevirtual 159, 3) := by decide +kernel
theorem dX7_allows_18 : decode cX7_allows 18 = .ok (.iload_n 1, 1) := by decide +kernel
theorem dX7_allows_19 : decode cX7_allows 19 = .ok (.iconst 1, 1) := by decide +kernel
theorem dX7_allows_20 : decode cX7_allows 20 = .ok (.if_icmp .ne 7, 3) := by decide +kernel
theorem dX7_allows_23 : decode cX7_allows 23 = .ok (.iconst 1, 1) := by decide +kernel
theorem dX7_allows_24 : decode cX7_allows 24 = .ok (.goto 4, 3) := by decide +kernel
theorem dX7_allows_27 : decode cX7_allows 27 = .ok (.iconst 0, 1) := by decide +kernel
theorem dX7_allows_28 : decode cX7_allows 28 = .ok (.if_icmp .ne 6, 3) := by decide +kernel
theorem dX7_allows_31 : decode cX7_allows 31 = .ok (.bipush (-2), 2) := by decide +kernel
theorem dX7_allows_33 : decode cX7_allows 33 = .ok (.ireturn, 1) := by decide +kernel
theorem dX7_allows_34 : decode cX7_allows 34 = .ok (.aload_n 0, 1) := by decide +kernel
theorem dX7_allows_35 : decode cX7_allows 35 = .ok (.getfield 37, 3) := by decide +kernel
theorem dX7_allows_38 : decode cX7_allows 38 = .ok (.aload_n 0, 1) := by decide +kernel
theorem dX7_allows_39 : decode cX7_allows 39 = .ok (.getfield 26, 3) := by decide +kernel
theorem dX7_allows_42 : decode cX7_allows 42 = .ok (.invokevirtual 77, 3) := by decide +kernel
theorem dX7_allows_45 : decode cX7_allows 45 = .ok (.aload_n 0, 1) := by decide +kernel
theorem dX7_allows_46 : decode cX7_allows 46 = .ok (.getfield 26, 3) := by decide +kernel
theorem dX7_allows_49 : decode cX7_allows 49 = .ok (.iload_n 1, 1) := by decide +kernel
theorem dX7_allows_50 : decode cX7_allows 50 = .ok (.iconst 1, 1) := by decide +kernel
theorem dX7_allows_51 : decode cX7_allows 51 = .ok (.if_icmp .ne 7, 3) := by decide +kernel
theorem dX7_allows_54 : decode cX7_allows 54 = .ok (.iconst 1, 1) := by decide +kernel
theorem dX7_allows_55 : decode cX7_allows 55 = .ok (.goto 4, 3) := by decide +kernel
theorem dX7_allows_58 : decode cX7_allows 58 = .ok (.iconst 0, 1) := by decide +kernel
theorem dX7_allows_59 : decode cX7_allows 59 = .ok (.invokevirtual 163, 3) := by decide +kernel
theorem dX7_allows_62 : decode cX7_allows 62 = .ok (.iconst 1, 1) := by decide +kernel
theorem dX7_allows_63 : decode cX7_allows 63 = .ok (.ireturn, 1) := by decide +kernel
theorem dX7_undo_0 : decode cX7_undo 0 = .ok (.aload_n 0, 1) := by decide +kernel
theorem dX7_undo_1 : decode cX7_undo 1 = .ok (.getfield 37, 3) := by decide +kernel
theorem dX7_undo_4 : decode cX7_undo 4 = .ok (.invokevirtual 167, 3) := by decide +kernel
theorem dX7_undo_7 : decode cX7_undo 7 = .ok (.ifCond .ne 6, 3) := by decide +kernel
theorem dX7_undo_10 : decode cX7_undo 10 = .ok (.bipush (-2), 2) := by decide +kernel
theorem dX7_undo_12 : decode cX7_undo 12 = .ok (.ireturn, 1) := by decide +kernel
theorem dX7_undo_13 : decode cX7_undo 13 = .ok (.aload_n 0, 1) := by decide +kernel
theorem dX7_undo_14 : decode cX7_undo 14 = .ok (.getfield 37, 3) := by decide +kernel
theorem dX7_undo_17 : decode cX7_undo 17 = .ok (.aload_n 0, 1) := by decide +kernel
theorem dX7_undo_18 : decode cX7_undo 18 = .ok (.getfield 26, 3) := by decide +kernel
theorem dX7_undo_21 : decode cX7_undo 21 = .ok (.invokevirtual 168, 3) := by decide +kernel
theorem dX7_undo_24 : decode cX7_undo 24 = .ok (.aload_n 0, 1) := by decide +kernel
theorem dX7_undo_25 : decode cX7_undo 25 = .ok (.getfield 37, 3) := by decide +kernel
theorem dX7_undo_28 : decode cX7_undo 28 = .ok (.invokevirtual 167, 3) := by decide +kernel
theorem dX7_undo_31 : decode cX7_undo 31 = .ok (.ireturn, 1) := by decide +kernel
theorem dX7_device_0 : decode cX7_device 0 = .ok (.aload_n 0, 1) := by decide +kernel
theorem dX7_device_1 : decode cX7_device 1 = .ok (.getfield 26, 3) := by decide +kernel
theorem dX7_device_4 : decode cX7_device 4 = .ok (.iload_n 1, 1) := by decide +kernel
theorem dX7_device_5 : decode cX7_device 5 = .ok (.invokevirtual 124, 3) := by decide +kernel
theorem dX7_device_8 : decode cX7_device 8 = .ok (.ifCond .ne 5, 3) := by decide +kernel
theorem dX7_device_11 : decode cX7_device 11 = .ok (.iconst (-1), 1) := by decide +kernel
theorem dX7_device_12 : decode cX7_device 12 = .ok (.ireturn, 1) := by decide +kernel
theorem dX7_device_13 : decode cX7_device 13 = .ok (.iload_n 2, 1) := by decide +kernel
theorem dX7_device_14 : decode cX7_device 14 = .ok (.tableswitch 127 0 7 #[46, 55, 64, 73, 82, 98, 107, 116], 46) := by decide +kernel
theorem dX7_device_60 : decode cX7_device 60 = .ok (.aload_n 0, 1) := by decide +kernel
theorem dX7_device_61 : decode cX7_device 61 = .ok (.getfield 26, 3) := by decide +kernel
theorem dX7_device_64 : decode cX7_device 64 = .ok (.iload_n 1, 1) := by decide +kernel
theorem dX7_device_65 : decode cX7_device 65 = .ok (.invokevirtual 150, 3) := by decide +kernel
theorem dX7_device_68 : decode cX7_device 68 = .ok (.ireturn, 1) := by decide +kernel
theorem dX7_device_69 : decode cX7_device 69 = .ok (.aload_n 0, 1) := by decide +kernel
theorem dX7_device_70 : decode cX7_device 70 = .ok (.getfield 26, 3) := by decide +kernel
theorem dX7_device_73 : decode cX7_device 73 = .ok (.iload_n 1, 1) := by decide +kernel
theorem dX7_device_74 : decode cX7_device 74 = .ok (.invokevirtual 171, 3) := by decide +kernel
theorem dX7_device_77 : decode cX7_device 77 = .ok (.ireturn, 1) := by decide +kernel
theorem dX7_device_78 : decode cX7_device 78 = .ok (.aload_n 0, 1) := by decide +kernel
theorem dX7_device_79 : decode cX7_device 79 = .ok (.getfield 26, 3) := by decide +kernel
theorem dX7_device_82 : decode cX7_device 82 = .ok (.iload_n 1, 1) := by decide +kernel
theorem dX7_device_83 : decode cX7_device 83 = .ok (.invokevirtual 174, 3) := by decide +kernel
theorem dX7_device_86 : decode cX7_device 86 = .ok (.ireturn, 1) := by decide +kernel
theorem dX7_device_87 : decode cX7_device 87 = .ok (.aload_n 0, 1) := by decide +kernel
theorem dX7_device_88 : decode cX7_device 88 = .ok (.getfield 26, 3) := by decide +kernel
theorem dX7_device_91 : decode cX7_device 91 = .ok (.iload_n 1, 1) := by decide +kernel
theorem dX7_device_92 : decode cX7_device 92 = .ok (.invokevirtual 177, 3) := by decide +kernel
theorem dX7_device_95 : decode cX7_device 95 = .ok (.ireturn, 1) := by decide +kernel
theorem dX7_device_96 : decode cX7_device 96 = .ok (.aload_n 0, 1) := by decide +kernel
theorem dX7_device_97 : decode cX7_device 97 = .ok (.getfield 26, 3) := by decide +kernel
theorem dX7_device_100 : decode cX7_device 100 = .ok (.aload_n 0, 1) := by decide +kernel
theorem dX7_device_101 : decode cX7_device 101 = .ok (.getfield 26, 3) := by decide +kernel
theorem dX7_device_104 : decode cX7_device 104 = .ok (.iload_n 1, 1) := by decide +kernel
theorem dX7_device_105 : decode cX7_device 105 = .ok (.invokevirtual 133, 3) := by decide +kernel
theorem dX7_device_108 : decode cX7_device 108 = .ok (.invokevirtual 180, 3) := by decide +kernel
theorem dX7_device_111 : decode cX7_device 111 = .ok (.ireturn, 1) := by decide +kernel
theorem dX7_device_112 : decode cX7_device 112 = .ok (.aload_n 0, 1) := by decide +kernel
theorem dX7_device_113 : decode cX7_device 113 = .ok (.getfield 26, 3) := by decide +kernel
theorem dX7_device_116 : decode cX7_device 116 = .ok (.iload_n 1, 1) := by decide +kernel
theorem dX7_device_117 : decode cX7_device 117 = .ok (.invokevirtual 183, 3) := by decide +kernel
theorem dX7_device_120 : decode cX7_device 120 = .ok (.ireturn, 1) := by decide +kernel
theorem dX7_device_121 : decode cX7_device 121 = .ok (.aload_n 0, 1) := by decide +kernel
theorem dX7_device_122 : decode cX7_device 122 = .ok (.getfield 26, 3) := by decide +kernel
theorem dX7_device_125 : decode cX7_device 125 = .ok (.iload_n 1, 1) := by decide +kernel
theorem dX7_device_126 : decode cX7_device 126 = .ok (.invokevirtual 133, 3) := by decide +kernel
theorem dX7_device_129 : decode cX7_device 129 = .ok (.ireturn, 1) := by decide +kernel
theorem dX7_device_130 : decode cX7_device 130 = .ok (.aload_n 0, 1) := by decide +kernel
theorem dX7_device_131 : decode cX7_device 131 = .ok (.getfield 26, 3) := by decide +kernel
theorem dX7_device_134 : decode cX7_device 134 = .ok (.iconst 1, 1) := by decide +kernel
theorem dX7_device_135 : decode cX7_device 135 = .ok (.iload_n 1, 1) := by decide +kernel
theorem dX7_device_136 : decode cX7_device 136 = .ok (.ishl, 1) := by decide +kernel
theorem dX7_device_137 : decode cX7_device 137 = .ok (.invokevirtual 186, 3) := by decide +kernel
theorem dX7_device_140 : decode cX7_device 140 = .ok (.ireturn, 1) := by decide +kernel
theorem dX7_device_141 : decode cX7_device 141 = .ok (.iconst (-1), 1) := by decide +kernel
theorem dX7_device_142 : decode cX7_device 142 = .ok (.ireturn, 1) := by decide +kernel
theorem dX7_link_0 : decode cX7_link 0 = .ok (.aload_n 0, 1) := by decide +kernel
theorem dX7_link_1 : decode cX7_link 1 = .ok (.getfield 26, 3) := by decide +kernel
theorem dX7_link_4 : decode cX7_link 4 = .ok (.iload_n 1, 1) := by decide +kernel
theorem dX7_link_5 : decode cX7_link 5 = .ok (.iload_n 2, 1) := by decide +kernel
theorem dX7_link_6 : decode cX7_link 6 = .ok (.invokevirtual 96, 3) := by decide +kernel
theorem dX7_link_9 : decode cX7_link 9 = .ok (.ifCond .eq 15, 3) := by decide +kernel
theorem dX7_link_12 : decode cX7_link 12 = .ok (.aload_n 0, 1) := by decide +kernel
theorem dX7_link_13 : decode cX7_link 13 = .ok (.getfield 26, 3) := by decide +kernel
theorem dX7_link_16 : decode cX7_link 16 = .ok (.iload_n 1, 1) := by decide +kernel
theorem dX7_link_17 : decode cX7_link 17 = .ok (.iload_n 2, 1) := by decide +kernel
theorem dX7_link_18 : decode cX7_link 18 = .ok (.invokevirtual 114, 3) := by decide +kernel
theorem dX7_link_21 : decode cX7_link 21 = .ok (.goto 4, 3) := by decide +kernel
theorem dX7_link_24 : decode cX7_link 24 = .ok (.iconst (-1), 1) := by decide +kernel
theorem dX7_link_25 : decode cX7_link 25 = .ok (.ireturn, 1) := by decide +kernel
theorem dX7_zone_0 : decode cX7_zone 0 = .ok (.aload_n 0, 1) := by decide +kernel
theorem dX7_zone_1 : decode cX7_zone 1 = .ok (.getfield 26, 3) := by decide +kernel
theorem dX7_zone_4 : decode cX7_zone 4 = .ok (.iload_n 1, 1) := by decide +kernel
theorem dX7_zone_5 : decode cX7_zone 5 = .ok (.invokevirtual 124, 3) := by decide +kernel
theorem dX7_zone_8 : decode cX7_zone 8 = .ok (.ifCond .eq 12, 3) := by decide +kernel
theorem dX7_zone_11 : decode cX7_zone 11 = .ok (.iload_n 2, 1) := by decide +kernel
theorem dX7_zone_12 : decode cX7_zone 12 = .ok (.ifCond .lt 8, 3) := by decide +kernel
theorem dX7_zone_15 : decode cX7_zone 15 = .ok (.iload_n 2, 1) := by decide +kernel
theorem dX7_zone_16 : decode cX7_zone 16 = .ok (.iconst 4, 1) := by decide +kernel
theorem dX7_zone_17 : decode cX7_zone 17 = .ok (.if_icmp .lt 5, 3) := by decide +kernel
theorem dX7_zone_20 : decode cX7_zone 20 = .ok (.iconst (-1), 1) := by decide +kernel
theorem dX7_zone_21 : decode cX7_zone 21 = .ok (.ireturn, 1) := by decide +kernel
theorem dX7_zone_22 : decode cX7_zone 22 = .ok (.aload_n 0, 1) := by decide +kernel
theorem dX7_zone_23 : decode cX7_zone 23 = .ok (.getfield 26, 3) := by decide +kernel
theorem dX7_zone_26 : decode cX7_zone 26 = .ok (.iload_n 1, 1) := by decide +kernel
theorem dX7_zone_27 : decode cX7_zone 27 = .ok (.iload_n 2, 1) := by decide +kernel
theorem dX7_zone_28 : decode cX7_zone 28 = .ok (.invokevirtual 130, 3) := by decide +kernel
theorem dX7_zone_31 : decode cX7_zone 31 = .ok (.ireturn, 1) := by decide +kernel
theorem dX7_host_0 : decode cX7_host 0 = .ok (.aload_n 0, 1) := by decide +kernel
theorem dX7_host_1 : decode cX7_host 1 = .ok (.getfield 26, 3) := by decide +kernel
theorem dX7_host_4 : decode cX7_host 4 = .ok (.iload_n 1, 1) := by decide +kernel
theorem dX7_host_5 : decode cX7_host 5 = .ok (.invokevirtual 140, 3) := by decide +kernel
theorem dX7_host_8 : decode cX7_host 8 = .ok (.ifCond .ne 5, 3) := by decide +kernel
theorem dX7_host_11 : decode cX7_host 11 = .ok (.iconst (-1), 1) := by decide +kernel
theorem dX7_host_12 : decode cX7_host 12 = .ok (.ireturn, 1) := by decide +kernel
theorem dX7_host_13 : decode cX7_host 13 = .ok (.iload_n 2, 1) := by decide +kernel
theorem dX7_host_14 : decode cX7_host 14 = .ok (.tableswitch 69 0 3 #[30, 39, 51, 60], 30) := by decide +kernel
theorem dX7_host_44 : decode cX7_host 44 = .ok (.aload_n 0, 1) := by decide +kernel
theorem dX7_host_45 : decode cX7_host 45 = .ok (.getfield 26, 3) := by decide +kernel
theorem dX7_host_48 : decode cX7_host 48 = .ok (.iload_n 1, 1) := by decide +kernel
theorem dX7_host_49 : decode cX7_host 49 = .ok (.invokevirtual 143, 3) := by decide +kernel
theorem dX7_host_52 : decode cX7_host 52 = .ok (.ireturn, 1) := by decide +kernel
theorem dX7_host_53 : decode cX7_host 53 = .ok (.aload_n 0, 1) := by decide +kernel
theorem dX7_host_54 : decode cX7_host 54 = .ok (.getfield 26, 3) := by decide +kernel
theorem dX7_host_57 : decode cX7_host 57 = .ok (.invokevirtual 189, 3) := by decide +kernel
theorem dX7_host_60 : decode cX7_host 60 = .ok (.iload_n 1, 1) := by decide +kernel
theorem dX7_host_61 : decode cX7_host 61 = .ok (.invokestatic 192, 3) := by decide +kernel
theorem dX7_host_64 : decode cX7_host 64 = .ok (.ireturn, 1) := by decide +kernel
theorem dX7_host_65 : decode cX7_host 65 = .ok (.aload_n 0, 1) := by decide +kernel
theorem dX7_host_66 : decode cX7_host 66 = .ok (.getfield 26, 3) := by decide +kernel
theorem dX7_host_69 : decode cX7_host 69 = .ok (.iload_n 1, 1) := by decide +kernel
theorem dX7_host_70 : decode cX7_host 70 = .ok (.invokevirtual 196, 3) := by decide +kernel
theorem dX7_host_73 : decode cX7_host 73 = .ok (.ireturn, 1) := by decide +kernel
theorem dX7_host_74 : decode cX7_host 74 = .ok (.aload_n 0, 1) := by decide +kernel
theorem dX7_host_75 : decode cX7_host 75 = .ok (.getfield 26, 3) := by decide +kernel
theorem dX7_host_78 : decode cX7_host 78 = .ok (.iload_n 1, 1) := by decide +kernel
theorem dX7_host_79 : decode cX7_host 79 = .ok (.invokevirtual 199, 3) := by decide +kernel
theorem dX7_host_82 : decode cX7_host 82 = .ok (.ireturn, 1) := by decide +kernel
theorem dX7_host_83 : decode cX7_host 83 = .ok (.iconst (-1), 1) := by decide +kernel
theorem dX7_host_84 : decode cX7_host 84 = .ok (.ireturn, 1) := by decide +kernel
theorem dX7_would_0 : decode cX7_would 0 = .ok (.aload_n 0, 1) := by decide +kernel
theorem dX7_would_1 : decode cX7_would 1 = .ok (.getfield 26, 3) := by decide +kernel
theorem dX7_would_4 : decode cX7_would 4 = .ok (.iload_n 1, 1) := by decide +kernel
theorem dX7_would_5 : decode cX7_would 5 = .ok (.iload_n 2, 1) := by decide +kernel
theorem dX7_would_6 : decode cX7_would 6 = .ok (.invokevirtual 96, 3) := by decide +kernel
theorem dX7_would_9 : decode cX7_would 9 = .ok (.ifCond .ne 5, 3) := by decide +kernel
theorem dX7_would_12 : decode cX7_would 12 = .ok (.iconst (-1), 1) := by decide +kernel
theorem dX7_would_13 : decode cX7_would 13 = .ok (.ireturn, 1) := by decide +kernel
theorem dX7_would_14 : decode cX7_would 14 = .ok (.aload_n 0, 1) := by decide +kernel
theorem dX7_would_15 : decode cX7_would 15 = .ok (.getfield 26, 3) := by decide +kernel
theorem dX7_would_18 : decode cX7_would 18 = .ok (.iload_n 1, 1) := by decide +kernel
theorem dX7_would_19 : decode cX7_would 19 = .ok (.iload_n 2, 1) := by decide +kernel
theorem dX7_would_20 : decode cX7_would 20 = .ok (.invokevirtual 100, 3) := by decide +kernel
theorem dX7_would_23 : decode cX7_would 23 = .ok (.ifCond .eq 8, 3) := by decide +kernel
theorem dX7_would_26 : decode cX7_would 26 = .ok (.bipush (-2), 2) := by decide +kernel
theorem dX7_would_28 : decode cX7_would 28 = .ok (.goto 12, 3) := by decide +kernel
theorem dX7_would_31 : decode cX7_would 31 = .ok (.aload_n 0, 1) := by decide +kernel
theorem dX7_would_32 : decode cX7_would 32 = .ok (.getfield 26, 3) := by decide +kernel
theorem dX7_would_35 : decode cX7_would 35 = .ok (.iload_n 1, 1) := by decide +kernel
theorem dX7_would_36 : decode cX7_would 36 = .ok (.iload_n 2, 1) := by decide +kernel
theorem dX7_would_37 : decode cX7_would 37 = .ok (.invokevirtual 202, 3) := by decide +kernel
theorem dX7_would_40 : decode cX7_would 40 = .ok (.ireturn, 1) := by decide +kernel
theorem dX7_weakest_0 : decode cX7_weakest 0 = .ok (.iload_n 1, 1) := by decide +kernel
theorem dX7_weakest_1 : decode cX7_weakest 1 = .ok (.ifCond .lt 8, 3) := by decide +kernel
theorem dX7_weakest_4 : decode cX7_weakest 4 = .ok (.iload_n 1, 1) := by decide +kernel
theorem dX7_weakest_5 : decode cX7_weakest 5 = .ok (.iconst 1, 1) := by decide +kernel
theorem dX7_weakest_6 : decode cX7_weakest 6 = .ok (.if_icmp .le 5, 3) := by decide +kernel
theorem dX7_weakest_9 : decode cX7_weakest 9 = .ok (.iconst (-1), 1) := by decide +kernel
theorem dX7_weakest_10 : decode cX7_weakest 10 = .ok (.ireturn, 1) := by decide +kernel
theorem dX7_weakest_11 : decode cX7_weakest 11 = .ok (.aload_n 0, 1) := by decide +kernel
theorem dX7_weakest_12 : decode cX7_weakest 12 = .ok (.getfield 58, 3) := by decide +kernel
theorem dX7_weakest_15 : decode cX7_weakest 15 = .ok (.aload_n 0, 1) := by decide +kernel
theorem dX7_weakest_16 : decode cX7_weakest 16 = .ok (.getfield 26, 3) := by decide +kernel
theorem dX7_weakest_19 : decode cX7_weakest 19 = .ok (.invokevirtual 205, 3) := by decide +kernel
theorem dX7_weakest_22 : decode cX7_weakest 22 = .ok (.aload_n 0, 1) := by decide +kernel
theorem dX7_weakest_23 : decode cX7_weakest 23 = .ok (.getfield 58, 3) := by decide +kernel
theorem dX7_weakest_26 : decode cX7_weakest 26 = .ok (.invokevirtual 208, 3) := by decide +kernel
theorem dX7_weakest_29 : decode cX7_weakest 29 = .ok (.ifCond .ne 6, 3) := by decide +kernel
theorem dX7_weakest_32 : decode cX7_weakest 32 = .ok (.bipush (-9), 2) := by decide +kernel
theorem dX7_weakest_34 : decode cX7_weakest 34 = .ok (.ireturn, 1) := by decide +kernel
theorem dX7_weakest_35 : decode cX7_weakest 35 = .ok (.aload_n 0, 1) := by decide +kernel
theorem dX7_weakest_36 : decode cX7_weakest 36 = .ok (.getfield 26, 3) := by decide +kernel
theorem dX7_weakest_39 : decode cX7_weakest 39 = .ok (.invokevirtual 189, 3) := by decide +kernel
theorem dX7_weakest_42 : decode cX7_weakest 42 = .ok (.lstore_n 2, 1) := by decide +kernel
theorem dX7_weakest_43 : decode cX7_weakest 43 = .ok (.aload_n 0, 1) := by decide +kernel
theorem dX7_weakest_44 : decode cX7_weakest 44 = .ok (.getfield 58, 3) := by decide +kernel
theorem dX7_weakest_47 : decode cX7_weakest 47 = .ok (.lload_n 2, 1) := by decide +kernel
theorem dX7_weakest_48 : decode cX7_weakest 48 = .ok (.invokevirtual 209, 3) := by decide +kernel
theorem dX7_weakest_51 : decode cX7_weakest 51 = .ok (.istore 4, 2) := by decide +kernel
theorem dX7_weakest_53 : decode cX7_weakest 53 = .ok (.iload_n 1, 1) := by decide +kernel
theorem dX7_weakest_54 : decode cX7_weakest 54 = .ok (.ifCond .ne 15, 3) := by decide +kernel
theorem dX7_weakest_57 : decode cX7_weakest 57 = .ok (.aload_n 0, 1) := by decide +kernel
theorem dX7_weakest_58 : decode cX7_weakest 58 = .ok (.getfield 58, 3) := by decide +kernel
theorem dX7_weakest_61 : decode cX7_weakest 61 = .ok (.iload 4, 2) := by decide +kernel
theorem dX7_weakest_63 : decode cX7_weakest 63 = .ok (.invokevirtual 213, 3) := by decide +kernel
theorem dX7_weakest_66 : decode cX7_weakest 66 = .ok (.goto 13, 3) := by decide +kernel
theorem dX7_weakest_69 : decode cX7_weakest 69 = .ok (.aload_n 0, 1) := by decide +kernel
theorem dX7_weakest_70 : decode cX7_weakest 70 = .ok (.getfield 58, 3) := by decide +kernel
theorem dX7_weakest_73 : decode cX7_weakest 73 = .ok (.iload 4, 2) := by decide +kernel
theorem dX7_weakest_75 : decode cX7_weakest 75 = .ok (.lload_n 2, 1) := by decide +kernel
theorem dX7_weakest_76 : decode cX7_weakest 76 = .ok (.invokevirtual 216, 3) := by decide +kernel
theorem dX7_weakest_79 : decode cX7_weakest 79 = .ok (.ireturn, 1) := by decide +kernel
theorem dX7_sees_0 : decode cX7_sees 0 = .ok (.iload_n 1, 1) := by decide +kernel
theorem dX7_sees_1 : decode cX7_sees 1 = .ok (.ifCond .lt 33, 3) := by decide +kernel
theorem dX7_sees_4 : decode cX7_sees 4 = .ok (.iload_n 1, 1) := by decide +kernel
theorem dX7_sees_5 : decode cX7_sees 5 = .ok (.bipush 8, 2) := by decide +kernel
theorem dX7_sees_7 : decode cX7_sees 7 = .ok (.if_icmp .ge 27, 3) := by decide +kernel
theorem dX7_sees_10 : decode cX7_sees 10 = .ok (.iload_n 2, 1) := by decide +kernel
theorem dX7_sees_11 : decode cX7_sees 11 = .ok (.ifCond .lt 23, 3) := by decide +kernel
theorem dX7_sees_14 : decode cX7_sees 14 = .ok (.iload_n 2, 1) := by decide +kernel
theorem dX7_sees_15 : decode cX7_sees 15 = .ok (.bipush 8, 2) := by decide +kernel
theorem dX7_sees_17 : decode cX7_sees 17 = .ok (.if_icmp .ge 17, 3) := by decide +kernel
theorem dX7_sees_20 : decode cX7_sees 20 = .ok (.iload_n 1, 1) := by decide +kernel
theorem dX7_sees_21 : decode cX7_sees 21 = .ok (.iload_n 2, 1) := by decide +kernel
theorem dX7_sees_22 : decode cX7_sees 22 = .ok (.if_icmp .eq 12, 3) := by decide +kernel
theorem dX7_sees_25 : decode cX7_sees 25 = .ok (.iload_n 3, 1) := by decide +kernel
theorem dX7_sees_26 : decode cX7_sees 26 = .ok (.ifCond .lt 8, 3) := by decide +kernel
theorem dX7_sees_29 : decode cX7_sees 29 = .ok (.iload_n 3, 1) := by decide +kernel
theorem dX7_sees_30 : decode cX7_sees 30 = .ok (.iconst 1, 1) := by decide +kernel
theorem dX7_sees_31 : decode cX7_sees 31 = .ok (.if_icmp .le 5, 3) := by decide +kernel
theorem dX7_sees_34 : decode cX7_sees 34 = .ok (.iconst (-1), 1) := by decide +kernel
theorem dX7_sees_35 : decode cX7_sees 35 = .ok (.ireturn, 1) := by decide +kernel
theorem dX7_sees_36 : decode cX7_sees 36 = .ok (.aload_n 0, 1) := by decide +kernel
theorem dX7_sees_37 : decode cX7_sees 37 = .ok (.getfield 51, 3) := by decide +kernel
theorem dX7_sees_40 : decode cX7_sees 40 = .ok (.iload_n 1, 1) := by decide +kernel
theorem dX7_sees_41 : decode cX7_sees 41 = .ok (.iload_n 2, 1) := by decide +kernel
theorem dX7_sees_42 : decode cX7_sees 42 = .ok (.iload_n 3, 1) := by decide +kernel
theorem dX7_sees_43 : decode cX7_sees 43 = .ok (.iconst 1, 1) := by decide +kernel
theorem dX7_sees_44 : decode cX7_sees 44 = .ok (.if_icmp .ne 7, 3) := by decide +kernel
theorem dX7_sees_47 : decode cX7_sees 47 = .ok (.iconst 1, 1) := by decide +kernel
theorem dX7_sees_48 : decode cX7_sees 48 = .ok (.goto 4, 3) := by decide +kernel
theorem dX7_sees_51 : decode cX7_sees 51 = .ok (.iconst 0, 1) := by decide +kernel
theorem dX7_sees_52 : decode cX7_sees 52 = .ok (.invokevirtual 220, 3) := by decide +kernel
theorem dX7_sees_55 : decode cX7_sees 55 = .ok (.ifCond .eq 13, 3) := by decide +kernel
theorem dX7_sees_58 : decode cX7_sees 58 = .ok (.aload_n 0, 1) := by decide +kernel
theorem dX7_sees_59 : decode cX7_sees 59 = .ok (.getfield 51, 3) := by decide +kernel
theorem dX7_sees_62 : decode cX7_sees 62 = .ok (.invokevirtual 223, 3) := by decide +kernel
theorem dX7_sees_65 : decode cX7_sees 65 = .ok (.goto 5, 3) := by decide +kernel
theorem dX7_sees_68 : decode cX7_sees 68 = .ok (.bipush (-3), 2) := by decide +kernel
theorem dX7_sees_70 : decode cX7_sees 70 = .ok (.ireturn, 1) := by decide +kernel
theorem dX7_forget_0 : decode cX7_forget 0 = .ok (.aload_n 0, 1) := by decide +kernel
theorem dX7_forget_1 : decode cX7_forget 1 = .ok (.getfield 51, 3) := by decide +kernel
theorem dX7_forget_4 : decode cX7_forget 4 = .ok (.invokevirtual 223, 3) := by decide +kernel
theorem dX7_forget_7 : decode cX7_forget 7 = .ok (.istore_n 1, 1) := by decide +kernel
theorem dX7_forget_8 : decode cX7_forget 8 = .ok (.aload_n 0, 1) := by decide +kernel
theorem dX7_forget_9 : decode cX7_forget 9 = .ok (.getfield 51, 3) := by decide +kernel
theorem dX7_forget_12 : decode cX7_forget 12 = .ok (.invokevirtual 88, 3) := by decide +kernel
theorem dX7_forget_15 : decode cX7_forget 15 = .ok (.iload_n 1, 1) := by decide +kernel
theorem dX7_forget_16 : decode cX7_forget 16 = .ok (.ireturn, 1) := by decide +kernel
theorem dX7_which_0 : decode cX7_which 0 = .ok (.iload_n 1, 1) := by decide +kernel
theorem dX7_which_1 : decode cX7_which 1 = .ok (.ifCond .lt 8, 3) := by decide +kernel
theorem dX7_which_4 : decode cX7_which 4 = .ok (.iload_n 1, 1) := by decide +kernel
theorem dX7_which_5 : decode cX7_which 5 = .ok (.iconst 1, 1) := by decide +kernel
theorem dX7_which_6 : decode cX7_which 6 = .ok (.if_icmp .le 5, 3) := by decide +kernel
theorem dX7_which_9 : decode cX7_which 9 = .ok (.iconst (-1), 1) := by decide +kernel
theorem dX7_which_10 : decode cX7_which 10 = .ok (.ireturn, 1) := by decide +kernel
theorem dX7_which_11 : decode cX7_which 11 = .ok (.aload_n 0, 1) := by decide +kernel
theorem dX7_which_12 : decode cX7_which 12 = .ok (.getfield 58, 3) := by decide +kernel
theorem dX7_which_15 : decode cX7_which 15 = .ok (.aload_n 0, 1) := by decide +kernel
theorem dX7_which_16 : decode cX7_which 16 = .ok (.getfield 26, 3) := by decide +kernel
theorem dX7_which_19 : decode cX7_which 19 = .ok (.invokevirtual 205, 3) := by decide +kernel
theorem dX7_which_22 : decode cX7_which 22 = .ok (.aload_n 0, 1) := by decide +kernel
theorem dX7_which_23 : decode cX7_which 23 = .ok (.getfield 58, 3) := by decide +kernel
theorem dX7_which_26 : decode cX7_which 26 = .ok (.aload_n 0, 1) := by decide +kernel
theorem dX7_which_27 : decode cX7_which 27 = .ok (.getfield 51, 3) := by decide +kernel
theorem dX7_which_30 : decode cX7_which 30 = .ok (.aload_n 0, 1) := by decide +kernel
theorem dX7_which_31 : decode cX7_which 31 = .ok (.getfield 26, 3) := by decide +kernel
theorem dX7_which_34 : decode cX7_which 34 = .ok (.invokevirtual 127, 3) := by decide +kernel
theorem dX7_which_37 : decode cX7_which 37 = .ok (.invokevirtual 224, 3) := by decide +kernel
theorem dX7_which_40 : decode cX7_which 40 = .ok (.iload_n 1, 1) := by decide +kernel
theorem dX7_which_41 : decode cX7_which 41 = .ok (.ifCond .ne 11, 3) := by decide +kernel
theorem dX7_which_44 : decode cX7_which 44 = .ok (.aload_n 0, 1) := by decide +kernel
theorem dX7_which_45 : decode cX7_which 45 = .ok (.getfield 58, 3) := by decide +kernel
theorem dX7_which_48 : decode cX7_which 48 = .ok (.invokevirtual 208, 3) := by decide +kernel
theorem dX7_which_51 : decode cX7_which 51 = .ok (.ireturn, 1) := by decide +kernel
theorem dX7_which_52 : decode cX7_which 52 = .ok (.aload_n 0, 1) := by decide +kernel
theorem dX7_which_53 : decode cX7_which 53 = .ok (.getfield 58, 3) := by decide +kernel
theorem dX7_which_56 : decode cX7_which 56 = .ok (.invokevirtual 208, 3) := by decide +kernel
theorem dX7_which_59 : decode cX7_which 59 = .ok (.ifCond .ne 8, 3) := by decide +kernel
theorem dX7_which_62 : decode cX7_which 62 = .ok (.bipush (-9), 2) := by decide +kernel
theorem dX7_which_64 : decode cX7_which 64 = .ok (.goto 11, 3) := by decide +kernel
theorem dX7_which_67 : decode cX7_which 67 = .ok (.aload_n 0, 1) := by decide +kernel
theorem dX7_which_68 : decode cX7_which 68 = .ok (.getfield 58, 3) := by decide +kernel
theorem dX7_which_71 : decode cX7_which 71 = .ok (.iconst 0, 1) := by decide +kernel
theorem dX7_which_72 : decode cX7_which 72 = .ok (.invokevirtual 213, 3) := by decide +kernel
theorem dX7_which_75 : decode cX7_which 75 = .ok (.ireturn, 1) := by decide +kernel
theorem dX7_ask_0 : decode cX7_ask 0 = .ok (.aload_n 0, 1) := by decide +kernel
theorem dX7_ask_1 : decode cX7_ask 1 = .ok (.getfield 58, 3) := by decide +kernel
theorem dX7_ask_4 : decode cX7_ask 4 = .ok (.aload_n 0, 1) := by decide +kernel
theorem dX7_ask_5 : decode cX7_ask 5 = .ok (.getfield 26, 3) := by decide +kernel
theorem dX7_ask_8 : decode cX7_ask 8 = .ok (.invokevirtual 205, 3) := by decide +kernel
theorem dX7_ask_11 : decode cX7_ask 11 = .ok (.aload_n 0, 1) := by decide +kernel
theorem dX7_ask_12 : decode cX7_ask 12 = .ok (.getfield 58, 3) := by decide +kernel
theorem dX7_ask_15 : decode cX7_ask 15 = .ok (.aload_n 0, 1) := by decide +kernel
theorem dX7_ask_16 : decode cX7_ask 16 = .ok (.getfield 51, 3) := by decide +kernel
theorem dX7_ask_19 : decode cX7_ask 19 = .ok (.aload_n 0, 1) := by decide +kernel
theorem dX7_ask_20 : decode cX7_ask 20 = .ok (.getfield 26, 3) := by decide +kernel
theorem dX7_ask_23 : decode cX7_ask 23 = .ok (.invokevirtual 127, 3) := by decide +kernel
theorem dX7_ask_26 : decode cX7_ask 26 = .ok (.invokevirtual 224, 3) := by decide +kernel
theorem dX7_ask_29 : decode cX7_ask 29 = .ok (.aload_n 0, 1) := by decide +kernel
theorem dX7_ask_30 : decode cX7_ask 30 = .ok (.getfield 58, 3) := by decide +kernel
theorem dX7_ask_33 : decode cX7_ask 33 = .ok (.invokevirtual 208, 3) := by decide +kernel
theorem dX7_ask_36 : decode cX7_ask 36 = .ok (.iconst 2, 1) := by decide +kernel
theorem dX7_ask_37 : decode cX7_ask 37 = .ok (.if_icmp .ge 8, 3) := by decide +kernel
theorem dX7_ask_40 : decode cX7_ask 40 = .ok (.bipush (-9), 2) := by decide +kernel
theorem dX7_ask_42 : decode cX7_ask 42 = .ok (.goto 17, 3) := by decide +kernel
theorem dX7_ask_45 : decode cX7_ask 45 = .ok (.aload_n 0, 1) := by decide +kernel
theorem dX7_ask_46 : decode cX7_ask 46 = .ok (.getfield 58, 3) := by decide +kernel
theorem dX7_ask_49 : decode cX7_ask 49 = .ok (.aload_n 0, 1) := by decide +kernel
theorem dX7_ask_50 : decode cX7_ask 50 = .ok (.getfield 26, 3) := by decide +kernel
theorem dX7_ask_53 : decode cX7_ask 53 = .ok (.invokevirtual 93, 3) := by decide +kernel
theorem dX7_ask_56 : decode cX7_ask 56 = .ok (.invokevirtual 228, 3) := by decide +kernel
theorem dX7_ask_59 : decode cX7_ask 59 = .ok (.ireturn, 1) := by decide +kernel
theorem dX7_keep_0 : decode cX7_keep 0 = .ok (.iload_n 1, 1) := by decide +kernel
theorem dX7_keep_1 : decode cX7_keep 1 = .ok (.ifCond .lt 8, 3) := by decide +kernel
theorem dX7_keep_4 : decode cX7_keep 4 = .ok (.iload_n 1, 1) := by decide +kernel
theorem dX7_keep_5 : decode cX7_keep 5 = .ok (.iconst 2, 1) := by decide +kernel
theorem dX7_keep_6 : decode cX7_keep 6 = .ok (.if_icmp .lt 5, 3) := by decide +kernel
theorem dX7_keep_9 : decode cX7_keep 9 = .ok (.iconst (-1), 1) := by decide +kernel
theorem dX7_keep_10 : decode cX7_keep 10 = .ok (.ireturn, 1) := by decide +kernel
theorem dX7_keep_11 : decode cX7_keep 11 = .ok (.aload_n 0, 1) := by decide +kernel
theorem dX7_keep_12 : decode cX7_keep 12 = .ok (.getfield 44, 3) := by decide +kernel
theorem dX7_keep_15 : decode cX7_keep 15 = .ok (.iload_n 1, 1) := by decide +kernel
theorem dX7_keep_16 : decode cX7_keep 16 = .ok (.aload_n 0, 1) := by decide +kernel
theorem dX7_keep_17 : decode cX7_keep 17 = .ok (.getfield 26, 3) := by decide +kernel
theorem dX7_keep_20 : decode cX7_keep 20 = .ok (.invokevirtual 231, 3) := by decide +kernel
theorem dX7_keep_23 : decode cX7_keep 23 = .ok (.aload_n 0, 1) := by decide +kernel
theorem dX7_keep_24 : decode cX7_keep 24 = .ok (.getfield 26, 3) := by decide +kernel
theorem dX7_keep_27 : decode cX7_keep 27 = .ok (.invokevirtual 121, 3) := by decide +kernel
theorem dX7_keep_30 : decode cX7_keep 30 = .ok (.ireturn, 1) := by decide +kernel
theorem dX7_back_0 : decode cX7_back 0 = .ok (.iload_n 1, 1) := by decide +kernel
theorem dX7_back_1 : decode cX7_back 1 = .ok (.ifCond .lt 8, 3) := by decide +kernel
theorem dX7_back_4 : decode cX7_back 4 = .ok (.iload_n 1, 1) := by decide +kernel
theorem dX7_back_5 : decode cX7_back 5 = .ok (.iconst 2, 1) := by decide +kernel
theorem dX7_back_6 : decode cX7_back 6 = .ok (.if_icmp .lt 5, 3) := by decide +kernel
theorem dX7_back_9 : decode cX7_back 9 = .ok (.iconst (-1), 1) := by decide +kernel
theorem dX7_back_10 : decode cX7_back 10 = .ok (.ireturn, 1) := by decide +kernel
theorem dX7_back_11 : decode cX7_back 11 = .ok (.aload_n 0, 1) := by decide +kernel
theorem dX7_back_12 : decode cX7_back 12 = .ok (.getfield 44, 3) := by decide +kernel
theorem dX7_back_15 : decode cX7_back 15 = .ok (.iload_n 1, 1) := by decide +kernel
theorem dX7_back_16 : decode cX7_back 16 = .ok (.invokevirtual 235, 3) := by decide +kernel
theorem dX7_back_19 : decode cX7_back 19 = .ok (.ifCond .ne 6, 3) := by decide +kernel
theorem dX7_back_22 : decode cX7_back 22 = .ok (.bipush (-2), 2) := by decide +kernel
theorem dX7_back_24 : decode cX7_back 24 = .ok (.ireturn, 1) := by decide +kernel
theorem dX7_back_25 : decode cX7_back 25 = .ok (.aload_n 0, 1) := by decide +kernel
theorem dX7_back_26 : decode cX7_back 26 = .ok (.getfield 44, 3) := by decide +kernel
theorem dX7_back_29 : decode cX7_back 29 = .ok (.iload_n 1, 1) := by decide +kernel
theorem dX7_back_30 : decode cX7_back 30 = .ok (.aload_n 0, 1) := by decide +kernel
theorem dX7_back_31 : decode cX7_back 31 = .ok (.getfield 26, 3) := by decide +kernel
theorem dX7_back_34 : decode cX7_back 34 = .ok (.invokevirtual 238, 3) := by decide +kernel
theorem dX7_back_37 : decode cX7_back 37 = .ok (.aload_n 0, 1) := by decide +kernel
theorem dX7_back_38 : decode cX7_back 38 = .ok (.getfield 37, 3) := by decide +kernel
theorem dX7_back_41 : decode cX7_back 41 = .ok (.invokevirtual 240, 3) := by decide +kernel
theorem dX7_back_44 : decode cX7_back 44 = .ok (.aload_n 0, 1) := by decide +kernel
theorem dX7_back_45 : decode cX7_back 45 = .ok (.getfield 26, 3) := by decide +kernel
theorem dX7_back_48 : decode cX7_back 48 = .ok (.invokevirtual 121, 3) := by decide +kernel
theorem dX7_back_51 : decode cX7_back 51 = .ok (.ireturn, 1) := by decide +kernel
theorem dX7_count_0 : decode cX7_count 0 = .ok (.iload_n 1, 1) := by decide +kernel
theorem dX7_count_1 : decode cX7_count 1 = .ok (.tableswitch 160 0 10 #[59, 67, 75, 83, 92, 101, 117, 125, 136, 144, 152], 59) := by decide +kernel
theorem dX7_count_60 : decode cX7_count 60 = .ok (.aload_n 0, 1) := by decide +kernel
theorem dX7_count_61 : decode cX7_count 61 = .ok (.getfield 26, 3) := by decide +kernel
theorem dX7_count_64 : decode cX7_count 64 = .ok (.invokevirtual 90, 3) := by decide +kernel
theorem dX7_count_67 : decode cX7_count 67 = .ok (.ireturn, 1) := by decide +kernel
theorem dX7_count_68 : decode cX7_count 68 = .ok (.aload_n 0, 1) := by decide +kernel
theorem dX7_count_69 : decode cX7_count 69 = .ok (.getfield 26, 3) := by decide +kernel
theorem dX7_count_72 : decode cX7_count 72 = .ok (.invokevirtual 93, 3) := by decide +kernel
theorem dX7_count_75 : decode cX7_count 75 = .ok (.ireturn, 1) := by decide +kernel
theorem dX7_count_76 : decode cX7_count 76 = .ok (.aload_n 0, 1) := by decide +kernel
theorem dX7_count_77 : decode cX7_count 77 = .ok (.getfield 26, 3) := by decide +kernel
theorem dX7_count_80 : decode cX7_count 80 = .ok (.invokevirtual 121, 3) := by decide +kernel
theorem dX7_count_83 : decode cX7_count 83 = .ok (.ireturn, 1) := by decide +kernel
theorem dX7_count_84 : decode cX7_count 84 = .ok (.aload_n 0, 1) := by decide +kernel
theorem dX7_count_85 : decode cX7_count 85 = .ok (.getfield 26, 3) := by decide +kernel
theorem dX7_count_88 : decode cX7_count 88 = .ok (.iconst 1, 1) := by decide +kernel
theorem dX7_count_89 : decode cX7_count 89 = .ok (.invokevirtual 241, 3) := by decide +kernel
theorem dX7_count_92 : decode cX7_count 92 = .ok (.ireturn, 1) := by decide +kernel
theorem dX7_count_93 : decode cX7_count 93 = .ok (.aload_n 0, 1) := by decide +kernel
theorem dX7_count_94 : decode cX7_count 94 = .ok (.getfield 26, 3) := by decide +kernel
theorem dX7_count_97 : decode cX7_count 97 = .ok (.iconst 2, 1) := by decide +kernel
theorem dX7_count_98 : decode cX7_count 98 = .ok (.invokevirtual 241, 3) := by decide +kernel
theorem dX7_count_101 : decode cX7_count 101 = .ok (.ireturn, 1) := by decide +kernel
theorem dX7_count_102 : decode cX7_count 102 = .ok (.aload_n 0, 1) := by decide +kernel
theorem dX7_count_103 : decode cX7_count 103 = .ok (.getfield 26, 3) := by decide +kernel
theorem dX7_count_106 : decode cX7_count 106 = .ok (.invokevirtual 159, 3) := by decide +kernel
theorem dX7_count_109 : decode cX7_count 109 = .ok (.ifCond .eq 7, 3) := by decide +kernel
theorem dX7_count_112 : decode cX7_count 112 = .ok (.iconst 1, 1) := by decide +kernel
theorem dX7_count_113 : decode cX7_count 113 = .ok (.goto 4, 3) := by decide +kernel
theorem dX7_count_116 : decode cX7_count 116 = .ok (.iconst 0, 1) := by decide +kernel
theorem dX7_count_117 : decode cX7_count 117 = .ok (.ireturn, 1) := by decide +kernel
theorem dX7_count_118 : decode cX7_count 118 = .ok (.aload_n 0, 1) := by decide +kernel
theorem dX7_count_119 : decode cX7_count 119 = .ok (.getfield 26, 3) := by decide +kernel
theorem dX7_count_122 : decode cX7_count 122 = .ok (.invokevirtual 244, 3) := by decide +kernel
theorem dX7_count_125 : decode cX7_count 125 = .ok (.ireturn, 1) := by decide +kernel
theorem dX7_count_126 : decode cX7_count 126 = .ok (.aload_n 0, 1) := by decide +kernel
theorem dX7_count_127 : decode cX7_count 127 = .ok (.getfield 26, 3) := by decide +kernel
theorem dX7_count_130 : decode cX7_count 130 = .ok (.invokevirtual 189, 3) := by decide +kernel
theorem dX7_count_133 : decode cX7_count 133 = .ok (.invokestatic 247, 3) := by decide +kernel
theorem dX7_count_136 : decode cX7_count 136 = .ok (.ireturn, 1) := by decide +kernel
theorem dX7_count_137 : decode cX7_count 137 = .ok (.aload_n 0, 1) := by decide +kernel
theorem dX7_count_138 : decode cX7_count 138 = .ok (.getfield 51, 3) := by decide +kernel
theorem dX7_count_141 : decode cX7_count 141 = .ok (.invokevirtual 223, 3) := by decide +kernel
theorem dX7_count_144 : decode cX7_count 144 = .ok (.ireturn, 1) := by decide +kernel
theorem dX7_count_145 : decode cX7_count 145 = .ok (.aload_n 0, 1) := by decide +kernel
theorem dX7_count_146 : decode cX7_count 146 = .ok (.getfield 12, 3) := by decide +kernel
theorem dX7_count_149 : decode cX7_count 149 = .ok (.invokevirtual 66, 3) := by decide +kernel
theorem dX7_count_152 : decode cX7_count 152 = .ok (.ireturn, 1) := by decide +kernel
theorem dX7_count_153 : decode cX7_count 153 = .ok (.aload_n 0, 1) := by decide +kernel
theorem dX7_count_154 : decode cX7_count 154 = .ok (.getfield 37, 3) := by decide +kernel
theorem dX7_count_157 : decode cX7_count 157 = .ok (.invokevirtual 167, 3) := by decide +kernel
theorem dX7_count_160 : decode cX7_count 160 = .ok (.ireturn, 1) := by decide +kernel
theorem dX7_count_161 : decode cX7_count 161 = .ok (.iconst (-1), 1) := by decide +kernel
theorem dX7_count_162 : decode cX7_count 162 = .ok (.ireturn, 1) := by decide +kernel
theorem dX7_rememberView_0 : decode cX7_rememberView 0 = .ok (.aload_n 0, 1) := by decide +kernel
theorem dX7_rememberView_1 : decode cX7_rememberView 1 = .ok (.getfield 37, 3) := by decide +kernel
theorem dX7_rememberView_4 : decode cX7_rememberView 4 = .ok (.aload_n 0, 1) := by decide +kernel
theorem dX7_rememberView_5 : decode cX7_rememberView 5 = .ok (.getfield 26, 3) := by decide +kernel
theorem dX7_rememberView_8 : decode cX7_rememberView 8 = .ok (.invokevirtual 77, 3) := by decide +kernel
theorem dX7_rememberView_11 : decode cX7_rememberView 11 = .ok (.aload_n 0, 1) := by decide +kernel
theorem dX7_rememberView_12 : decode cX7_rememberView 12 = .ok (.getfield 26, 3) := by decide +kernel
theorem dX7_rememberView_15 : decode cX7_rememberView 15 = .ok (.invokevirtual 189, 3) := by decide +kernel
theorem dX7_rememberView_18 : decode cX7_rememberView 18 = .ok (.lreturn, 1) := by decide +kernel
theorem dX7_viewBit_0 : decode cX7_viewBit 0 = .ok (.lconst 1, 1) := by decide +kernel
theorem dX7_viewBit_1 : decode cX7_viewBit 1 = .ok (.bipush 8, 2) := by decide +kernel
theorem dX7_viewBit_3 : decode cX7_viewBit 3 = .ok (.iload_n 0, 1) := by decide +kernel
theorem dX7_viewBit_4 : decode cX7_viewBit 4 = .ok (.imul, 1) := by decide +kernel
theorem dX7_viewBit_5 : decode cX7_viewBit 5 = .ok (.iload_n 1, 1) := by decide +kernel
theorem dX7_viewBit_6 : decode cX7_viewBit 6 = .ok (.iadd, 1) := by decide +kernel
theorem dX7_viewBit_7 : decode cX7_viewBit 7 = .ok (.lshl, 1) := by decide +kernel
theorem dX7_viewBit_8 : decode cX7_viewBit 8 = .ok (.lreturn, 1) := by decide +kernel
theorem dX7_rowOf_0 : decode cX7_rowOf 0 = .ok (.lload_n 0, 1) := by decide +kernel
theorem dX7_rowOf_1 : decode cX7_rowOf 1 = .ok (.bipush 8, 2) := by decide +kernel
theorem dX7_rowOf_3 : decode cX7_rowOf 3 = .ok (.iload_n 2, 1) := by decide +kernel
theorem dX7_rowOf_4 : decode cX7_rowOf 4 = .ok (.imul, 1) := by decide +kernel
theorem dX7_rowOf_5 : decode cX7_rowOf 5 = .ok (.lushr, 1) := by decide +kernel
theorem dX7_rowOf_6 : decode cX7_rowOf 6 = .ok (.l2i, 1) := by decide +kernel
theorem dX7_rowOf_7 : decode cX7_rowOf 7 = .ok (.sipush 255, 3) := by decide +kernel
theorem dX7_rowOf_10 : decode cX7_rowOf 10 = .ok (.iand, 1) := by decide +kernel
theorem dX7_rowOf_11 : decode cX7_rowOf 11 = .ok (.ireturn, 1) := by decide +kernel
theorem dX7_twosOf_0 : decode cX7_twosOf 0 = .ok (.lload_n 0, 1) := by decide +kernel
theorem dX7_twosOf_1 : decode cX7_twosOf 1 = .ok (.invokestatic 250, 3) := by decide +kernel
theorem dX7_twosOf_4 : decode cX7_twosOf 4 = .ok (.iconst 2, 1) := by decide +kernel
theorem dX7_twosOf_5 : decode cX7_twosOf 5 = .ok (.idiv, 1) := by decide +kernel
theorem dX7_twosOf_6 : decode cX7_twosOf 6 = .ok (.ireturn, 1) := by decide +kernel
theorem dX7_has_0 : decode cX7_has 0 = .ok (.iload_n 0, 1) := by decide +kernel
theorem dX7_has_1 : decode cX7_has 1 = .ok (.iload_n 1, 1) := by decide +kernel
theorem dX7_has_2 : decode cX7_has 2 = .ok (.ishr, 1) := by decide +kernel
theorem dX7_has_3 : decode cX7_has 3 = .ok (.iconst 1, 1) := by decide +kernel
theorem dX7_has_4 : decode cX7_has 4 = .ok (.iand, 1) := by decide +kernel
theorem dX7_has_5 : decode cX7_has 5 = .ok (.ifCond .eq 7, 3) := by decide +kernel
theorem dX7_has_8 : decode cX7_has 8 = .ok (.iconst 1, 1) := by decide +kernel
theorem dX7_has_9 : decode cX7_has 9 = .ok (.goto 4, 3) := by decide +kernel
theorem dX7_has_12 : decode cX7_has 12 = .ok (.iconst 0, 1) := by decide +kernel
theorem dX7_has_13 : decode cX7_has 13 = .ok (.ireturn, 1) := by decide +kernel
end
section
theorem dX8_init_0 : decode cX8_init 0 = .ok (.aload_n 0, 1) := by decide +kernel
theorem dX8_init_1 : decode cX8_init 1 = .ok (.invokespecial 1, 3) := by decide +kernel
theorem dX8_init_4 : decode cX8_init 4 = .ok (.aload_n 0, 1) := by decide +kernel
theorem dX8_init_5 : decode cX8_init 5 = .ok (.bipush 87, 2) := by decide +kernel
theorem dX8_init_7 : decode cX8_init 7 = .ok (.newarray .int, 2) := by decide +kernel
theorem dX8_init_9 : decode cX8_init 9 = .ok (.putfield 7, 3) := by decide +kernel
theorem dX8_init_12 : decode cX8_init 12 = .ok (.aload_n 0, 1) := by decide +kernel
theorem dX8_init_13 : decode cX8_init 13 = .ok (.bipush 87, 2) := by decide +kernel
theorem dX8_init_15 : decode cX8_init 15 = .ok (.newarray .int, 2) := by decide +kernel
theorem dX8_init_17 : decode cX8_init 17 = .ok (.putfield 13, 3) := by decide +kernel
theorem dX8_init_20 : decode cX8_init 20 = .ok (.aload_n 0, 1) := by decide +kernel
theorem dX8_init_21 : decode cX8_init 21 = .ok (.sipush 435, 3) := by decide +kernel
theorem dX8_init_24 : decode cX8_init 24 = .ok (.newarray .int, 2) := by decide +kernel
theorem dX8_init_26 : decode cX8_init 26 = .ok (.putfield 16, 3) := by decide +kernel
theorem dX8_init_29 : decode cX8_init 29 = .ok (.aload_n 0, 1) := by decide +kernel
theorem dX8_init_30 : decode cX8_init 30 = .ok (.sipush 174, 3) := by decide +kernel
theorem dX8_init_33 : decode cX8_init 33 = .ok (.newarray .int, 2) := by decide +kernel
theorem dX8_init_35 : decode cX8_init 35 = .ok (.putfield 19, 3) := by decide +kernel
theorem dX8_init_38 : decode cX8_init 38 = .ok (.aload_n 0, 1) := by decide +kernel
theorem dX8_init_39 : decode cX8_init 39 = .ok (.iconst 2, 1) := by decide +kernel
theorem dX8_init_40 : decode cX8_init 40 = .ok (.newarray .boolean, 2) := by decide +kernel
theorem dX8_init_42 : decode cX8_init 42 = .ok (.putfield 22, 3) := by decide +kernel
theorem dX8_init_45 : decode cX8_init 45 = .ok (.aload_n 0, 1) := by decide +kernel
theorem dX8_init_46 : decode cX8_init 46 = .ok (.bipush 100, 2) := by decide +kernel
theorem dX8_init_48 : decode cX8_init 48 = .ok (.newarray .int, 2) := by decide +kernel
theorem dX8_init_50 : decode cX8_init 50 = .ok (.putfield 26, 3) := by decide +kernel
theorem dX8_init_53 : decode cX8_init 53 = .ok (.aload_n 0, 1) := by decide +kernel
theorem dX8_init_54 : decode cX8_init 54 = .ok (.bipush 18, 2) := by decide +kernel
theorem dX8_init_56 : decode cX8_init 56 = .ok (.newarray .int, 2) := by decide +kernel
theorem dX8_init_58 : decode cX8_init 58 = .ok (.putfield 29, 3) := by decide +kernel
theorem dX8_init_61 : decode cX8_init 61 = .ok (.aload_n 0, 1) := by decide +kernel
theorem dX8_init_62 : decode cX8_init 62 = .ok (.bipush 8, 2) := by decide +kernel
theorem dX8_init_64 : decode cX8_init 64 = .ok (.newarray .int, 2) := by decide +kernel
theorem dX8_init_66 : decode cX8_init 66 = .ok (.putfield 32, 3) := by decide +kernel
theorem dX8_init_69 : decode cX8_init 69 = .ok (.aload_n 0, 1) := by decide +kernel
theorem dX8_init_70 : decode cX8_init 70 = .ok (.bipush 15, 2) := by decide +kernel
theorem dX8_init_72 : decode cX8_init 72 = .ok (.newarray .int, 2) := by decide +kernel
theorem dX8_init_74 : decode cX8_init 74 = .ok (.putfield 35, 3) := by decide +kernel
theorem dX8_init_77 : decode cX8_init 77 = .ok (.aload_n 0, 1) := by decide +kernel
theorem dX8_init_78 : decode cX8_init 78 = .ok (.bipush 120, 2) := by decide +kernel
theorem dX8_init_80 : decode cX8_init 80 = .ok (.newarray .int, 2) := by decide +kernel
theorem dX8_init_82 : decode cX8_init 82 = .ok (.putfield 38, 3) := by decide +kernel
theorem dX8_init_85 : decode cX8_init 85 = .ok (.aload_n 0, 1) := by decide +kernel
theorem dX8_init_86 : decode cX8_init 86 = .ok (.getfield 7, 3) := by decide +kernel
theorem dX8_init_89 : decode cX8_init 89 = .ok (.iconst 0, 1) := by decide +kernel
theorem dX8_init_90 : decode cX8_init 90 = .ok (.iconst 1, 1) := by decide +kernel
theorem dX8_init_91 : decode cX8_init 91 = .ok (.iastore, 1) := by decide +kernel
theorem dX8_init_92 : decode cX8_init 92 = .ok (.aload_n 0, 1) := by decide +kernel
theorem dX8_init_93 : decode cX8_init 93 = .ok (.getfield 7, 3) := by decide +kernel
theorem dX8_init_96 : decode cX8_init 96 = .ok (.iconst 3, 1) := by decide +kernel
theorem dX8_init_97 : decode cX8_init 97 = .ok (.iconst 5, 1) := by decide +kernel
theorem dX8_init_98 : decode cX8_init 98 = .ok (.iastore, 1) := by decide +kernel
theorem dX8_init_99 : decode cX8_init 99 = .ok (.aload_n 0, 1) := by decide +kernel
theorem dX8_init_100 : decode cX8_init 100 = .ok (.getfield 7, 3) := by decide +kernel
theorem dX8_init_103 : decode cX8_init 103 = .ok (.bipush 6, 2) := by decide +kernel
theorem dX8_init_105 : decode cX8_init 105 = .ok (.iconst 1, 1) := by decide +kernel
theorem dX8_init_106 : decode cX8_init 106 = .ok (.iastore, 1) := by decide +kernel
theorem dX8_init_107 : decode cX8_init 107 = .ok (.iconst 0, 1) := by decide +kernel
theorem dX8_init_108 : decode cX8_init 108 = .ok (.istore_n 1, 1) := by decide +kernel
theorem dX8_init_109 : decode cX8_init 109 = .ok (.iload_n 1, 1) := by decide +kernel
theorem dX8_init_110 : decode cX8_init 110 = .ok (.bipush 8, 2) := by decide +kernel
theorem dX8_init_112 : decode cX8_init 112 = .ok (.if_icmp .ge 20, 3) := by decide +kernel
theorem dX8_init_115 : decode cX8_init 115 = .ok (.aload_n 0, 1) := by decide +kernel
theorem dX8_init_116 : decode cX8_init 116 = .ok (.getfield 7, 3) := by decide +kernel
theorem dX8_init_119 : decode cX8_init 119 = .ok (.bipush 27, 2) := by decide +kernel
theorem dX8_init_121 : decode cX8_init 121 = .ok (.iload_n 1, 1) := by decide +kernel
theorem dX8_init_122 : decode cX8_init 122 = .ok (.iadd, 1) := by decide +kernel
theorem dX8_init_123 : decode cX8_init 123 = .ok (.bipush (-9), 2) := by decide +kernel
theorem dX8_init_125 : decode cX8_init 125 = .ok (.iastore, 1) := by decide +kernel
theorem dX8_init_126 : decode cX8_init 126 = .ok (.iinc 1 1, 3) := by decide +kernel
theorem dX8_init_129 : decode cX8_init 129 = .ok (.goto (-20), 3) := by decide +kernel
theorem dX8_init_132 : decode cX8_init 132 = .ok (.return_, 1) := by decide +kernel
theorem dX8_in_0 : decode cX8_in 0 = .ok (.iload_n 0, 1) := by decide +kernel
theorem dX8_in_1 : decode cX8_in 1 = .ok (.iload_n 1, 1) := by decide +kernel
theorem dX8_in_2 : decode cX8_in 2 = .ok (.if_icmp .lt 12, 3) := by decide +kernel
theorem dX8_in_5 : decode cX8_in 5 = .ok (.iload_n 0, 1) := by decide +kernel
theorem dX8_in_6 : decode cX8_in 6 = .ok (.iload_n 2, 1) := by decide +kernel
theorem dX8_in_7 : decode cX8_in 7 = .ok (.if_icmp .gt 7, 3) := by decide +kernel
theorem dX8_in_10 : decode cX8_in 10 = .ok (.iconst 1, 1) := by decide +kernel
theorem dX8_in_11 : decode cX8_in 11 = .ok (.goto 4, 3) := by decide +kernel
theorem dX8_in_14 : decode cX8_in 14 = .ok (.iconst 0, 1) := by decide +kernel
theorem dX8_in_15 : decode cX8_in 15 = .ok (.ireturn, 1) := by decide +kernel
theorem dX8_has_0 : decode cX8_has 0 = .ok (.iload_n 0, 1) := by decide +kernel
theorem dX8_has_1 : decode cX8_has 1 = .ok (.iload_n 1, 1) := by decide +kernel
theorem dX8_has_2 : decode cX8_has 2 = .ok (.ishr, 1) := by decide +kernel
theorem dX8_has_3 : decode cX8_has 3 = .ok (.iconst 1, 1) := by decide +kernel
theorem dX8_has_4 : decode cX8_has 4 = .ok (.iand, 1) := by decide +kernel
theorem dX8_has_5 : decode cX8_has 5 = .ok (.iconst 1, 1) := by decide +kernel
theorem dX8_has_6 : decode cX8_has 6 = .ok (.if_icmp .ne 7, 3) := by decide +kernel
theorem dX8_has_9 : decode cX8_has 9 = .ok (.iconst 1, 1) := by decide +kernel
theorem dX8_has_10 : decode cX8_has 10 = .ok (.goto 4, 3) := by decide +kernel
theorem dX8_has_13 : decode cX8_has 13 = .ok (.iconst 0, 1) := by decide +kernel
theorem dX8_has_14 : decode cX8_has 14 = .ok (.ireturn, 1) := by decide +kernel
theorem dX8_ones_0 : decode cX8_ones 0 = .ok (.iconst 0, 1) := by decide +kernel
theorem dX8_ones_1 : decode cX8_ones 1 = .ok (.istore_n 1, 1) := by decide +kernel
theorem dX8_ones_2 : decode cX8_ones 2 = .ok (.iconst 0, 1) := by decide +kernel
theorem dX8_ones_3 : decode cX8_ones 3 = .ok (.istore_n 2, 1) := by decide +kernel
theorem dX8_ones_4 : decode cX8_ones 4 = .ok (.iload_n 2, 1) := by decide +kernel
theorem dX8_ones_5 : decode cX8_ones 5 = .ok (.bipush 8, 2) := by decide +kernel
theorem dX8_ones_7 : decode cX8_ones 7 = .ok (.if_icmp .ge 17, 3) := by decide +kernel
theorem dX8_ones_10 : decode cX8_ones 10 = .ok (.iload_n 1, 1) := by decide +kernel
theorem dX8_ones_11 : decode cX8_ones 11 = .ok (.iload_n 0, 1) := by decide +kernel
theorem dX8_ones_12 : decode cX8_ones 12 = .ok (.iload_n 2, 1) := by decide +kernel
theorem dX8_ones_13 : decode cX8_ones 13 = .ok (.ishr, 1) := by decide +kernel
theorem dX8_ones_14 : decode cX8_ones 14 = .ok (.iconst 1, 1) := by decide +kernel
theorem dX8_ones_15 : decode cX8_ones 15 = .ok (.iand, 1) := by decide +kernel
theorem dX8_ones_16 : decode cX8_ones 16 = .ok (.iadd, 1) := by decide +kernel
theorem dX8_ones_17 : decode cX8_ones 17 = .ok (.istore_n 1, 1) := by decide +kernel
theorem dX8_ones_18 : decode cX8_ones 18 = .ok (.iinc 2 1, 3) := by decide +kernel
theorem dX8_ones_21 : decode cX8_ones 21 = .ok (.goto (-17), 3) := by decide +kernel
theorem dX8_ones_24 : decode cX8_ones 24 = .ok (.iload_n 1, 1) := by decide +kernel
theorem dX8_ones_25 : decode cX8_ones 25 = .ok (.ireturn, 1) := by decide +kernel
theorem dX8_bring_0 : decode cX8_bring 0 = .ok (.iconst 0, 1) := by decide +kernel
theorem dX8_bring_1 : decode cX8_bring 1 = .ok (.istore 4, 2) := by decide +kernel
theorem dX8_bring_3 : decode cX8_bring 3 = .ok (.iload 4, 2) := by decide +kernel
theorem dX8_bring_5 : decode cX8_bring 5 = .ok (.bipush 87, 2) := by decide +kernel
theorem dX8_bring_7 : decode cX8_bring 7 = .ok (.if_icmp .ge 21, 3) := by decide +kernel
theorem dX8_bring_10 : decode cX8_bring 10 = .ok (.aload_n 2, 1) := by decide +kernel
theorem dX8_bring_11 : decode cX8_bring 11 = .ok (.iload_n 3, 1) := by decide +kernel
theorem dX8_bring_12 : decode cX8_bring 12 = .ok (.iload 4, 2) := by decide +kernel
theorem dX8_bring_14 : decode cX8_bring 14 = .ok (.iadd, 1) := by decide +kernel
theorem dX8_bring_15 : decode cX8_bring 15 = .ok (.aload_n 0, 1) := by decide +kernel
theorem dX8_bring_16 : decode cX8_bring 16 = .ok (.iload_n 1, 1) := by decide +kernel
theorem dX8_bring_17 : decode cX8_bring 17 = .ok (.iload 4, 2) := by decide +kernel
theorem dX8_bring_19 : decode cX8_bring 19 = .ok (.iadd, 1) := by decide +kernel
theorem dX8_bring_20 : decode cX8_bring 20 = .ok (.iaload, 1) := by decide +kernel
theorem dX8_bring_21 : decode cX8_bring 21 = .ok (.iastore, 1) := by decide +kernel
theorem dX8_bring_22 : decode cX8_bring 22 = .ok (.iinc 4 1, 3) := by decide +kernel
theorem dX8_bring_25 : decode cX8_bring 25 = .ok (.goto (-22), 3) := by decide +kernel
theorem dX8_bring_28 : decode cX8_bring 28 = .ok (.return_, 1) := by decide +kernel
theorem dX8_note_0 : decode cX8_note 0 = .ok (.aload_n 0, 1) := by decide +kernel
theorem dX8_note_1 : decode cX8_note 1 = .ok (.getfield 41, 3) := by decide +kernel
theorem dX8_note_4 : decode cX8_note 4 = .ok (.iconst 5, 1) := by decide +kernel
theorem dX8_note_5 : decode cX8_note 5 = .ok (.if_icmp .ne 43, 3) := by decide +kernel
theorem dX8_note_8 : decode cX8_note 8 = .ok (.iconst 0, 1) := by decide +kernel
theorem dX8_note_9 : decode cX8_note 9 = .ok (.istore_n 1, 1) := by decide +kernel
theorem dX8_note_10 : decode cX8_note 10 = .ok (.iload_n 1, 1) := by decide +kernel
theorem dX8_note_11 : decode cX8_note 11 = .ok (.sipush 348, 3) := by decide +kernel
theorem dX8_note_14 : decode cX8_note 14 = .ok (.if_icmp .ge 24, 3) := by decide +kernel
theorem dX8_note_17 : decode cX8_note 17 = .ok (.aload_n 0, 1) := by decide +kernel
theorem dX8_note_18 : decode cX8_note 18 = .ok (.getfield 16, 3) := by decide +kernel
theorem dX8_note_21 : decode cX8_note 21 = .ok (.iload_n 1, 1) := by decide +kernel
theorem dX8_note_22 : decode cX8_note 22 = .ok (.aload_n 0, 1) := by decide +kernel
theorem dX8_note_23 : decode cX8_note 23 = .ok (.getfield 16, 3) := by decide +kernel
theorem dX8_note_26 : decode cX8_note 26 = .ok (.iload_n 1, 1) := by decide +kernel
theorem dX8_note_27 : decode cX8_note 27 = .ok (.bipush 87, 2) := by decide +kernel
theorem dX8_note_29 : decode cX8_note 29 = .ok (.iadd, 1) := by decide +kernel
theorem dX8_note_30 : decode cX8_note 30 = .ok (.iaload, 1) := by decide +kernel
theorem dX8_note_31 : decode cX8_note 31 = .ok (.iastore, 1) := by decide +kernel
theorem dX8_note_32 : decode cX8_note 32 = .ok (.iinc 1 1, 3) := by decide +kernel
theorem dX8_note_35 : decode cX8_note 35 = .ok (.goto (-25), 3) := by decide +kernel
theorem dX8_note_38 : decode cX8_note 38 = .ok (.aload_n 0, 1) := by decide +kernel
theorem dX8_note_39 : decode cX8_note 39 = .ok (.dup, 1) := by decide +kernel
theorem dX8_note_40 : decode cX8_note 40 = .ok (.getfield 41, 3) := by decide +kernel
theorem dX8_note_43 : decode cX8_note 43 = .ok (.iconst 1, 1) := by decide +kernel
theorem dX8_note_44 : decode cX8_note 44 = .ok (.isub, 1) := by decide +kernel
theorem dX8_note_45 : decode cX8_note 45 = .ok (.putfield 41, 3) := by decide +kernel
theorem dX8_note_48 : decode cX8_note 48 = .ok (.aload_n 0, 1) := by decide +kernel
theorem dX8_note_49 : decode cX8_note 49 = .ok (.getfield 7, 3) := by decide +kernel
theorem dX8_note_52 : decode cX8_note 52 = .ok (.iconst 0, 1) := by decide +kernel
theorem dX8_note_53 : decode cX8_note 53 = .ok (.aload_n 0, 1) := by decide +kernel
theorem dX8_note_54 : decode cX8_note 54 = .ok (.getfield 16, 3) := by decide +kernel
theorem dX8_note_57 : decode cX8_note 57 = .ok (.bipush 87, 2) := by decide +kernel
theorem dX8_note_59 : decode cX8_note 59 = .ok (.aload_n 0, 1) := by decide +kernel
theorem dX8_note_60 : decode cX8_note 60 = .ok (.getfield 41, 3) := by decide +kernel
theorem dX8_note_63 : decode cX8_note 63 = .ok (.imul, 1) := by decide +kernel
theorem dX8_note_64 : decode cX8_note 64 = .ok (.invokestatic 45, 3) := by decide +kernel
theorem dX8_note_67 : decode cX8_note 67 = .ok (.aload_n 0, 1) := by decide +kernel
theorem dX8_note_68 : decode cX8_note 68 = .ok (.dup, 1) := by decide +kernel
theorem dX8_note_69 : decode cX8_note 69 = .ok (.getfield 41, 3) := by decide +kernel
theorem dX8_note_72 : decode cX8_note 72 = .ok (.iconst 1, 1) := by decide +kernel
theorem dX8_note_73 : decode cX8_note 73 = .ok (.iadd, 1) := by decide +kernel
theorem dX8_note_74 : decode cX8_note 74 = .ok (.putfield 41, 3) := by decide +kernel
theorem dX8_note_77 : decode cX8_note 77 = .ok (.return_, 1) := by decide +kernel
theorem dX8_isFigure_0 : decode cX8_isFigure 0 = .ok (.aload_n 0, 1) := by decide +kernel
theorem dX8_isFigure_1 : decode cX8_isFigure 1 = .ok (.getfield 49, 3) := by decide +kernel
theorem dX8_isFigure_4 : decode cX8_isFigure 4 = .ok (.aload_n 0, 1) := by decide +kernel
theorem dX8_isFigure_5 : decode cX8_isFigure 5 = .ok (.getfield 52, 3) := by decide +kernel
theorem dX8_isFigure_8 : decode cX8_isFigure 8 = .ok (.if_icmp .ge 26, 3) := by decide +kernel
theorem dX8_isFigure_11 : decode cX8_isFigure 11 = .ok (.aload_n 0, 1) := by decide +kernel
theorem dX8_isFigure_12 : decode cX8_isFigure 12 = .ok (.getfield 26, 3) := by decide +kernel
theorem dX8_isFigure_15 : decode cX8_isFigure 15 = .ok (.aload_n 0, 1) := by decide +kernel
theorem dX8_isFigure_16 : decode cX8_isFigure 16 = .ok (.getfield 49, 3) := by decide +kernel
theorem dX8_isFigure_19 : decode cX8_isFigure 19 = .ok (.iaload, 1) := by decide +kernel
theorem dX8_isFigure_20 : decode cX8_isFigure 20 = .ok (.bipush 48, 2) := by decide +kernel
theorem dX8_isFigure_22 : decode cX8_isFigure 22 = .ok (.bipush 57, 2) := by decide +kernel
theorem dX8_isFigure_24 : decode cX8_isFigure 24 = .ok (.invokestatic 55, 3) := by decide +kernel
theorem dX8_isFigure_27 : decode cX8_isFigure 27 = .ok (.ifCond .eq 7, 3) := by decide +kernel
theorem dX8_isFigure_30 : decode cX8_isFigure 30 = .ok (.iconst 1, 1) := by decide +kernel
theorem dX8_isFigure_31 : decode cX8_isFigure 31 = .ok (.goto 4, 3) := by decide +kernel
theorem dX8_isFigure_34 : decode cX8_isFigure 34 = .ok (.iconst 0, 1) := by decide +kernel
theorem dX8_isFigure_35 : decode cX8_isFigure 35 = .ok (.ireturn, 1) := by decide +kernel
theorem dX8_next_0 : decode cX8_next 0 = .ok (.aload_n 0, 1) := by decide +kernel
theorem dX8_next_1 : decode cX8_next 1 = .ok (.getfield 49, 3) := by decide +kernel
theorem dX8_next_4 : decode cX8_next 4 = .ok (.aload_n 0, 1) := by decide +kernel
theorem dX8_next_5 : decode cX8_next 5 = .ok (.getfield 52, 3) := by decide +kernel
theorem dX8_next_8 : decode cX8_next 8 = .ok (.if_icmp .ge 30, 3) := by decide +kernel
theorem dX8_next_11 : decode cX8_next 11 = .ok (.aload_n 0, 1) := by decide +kernel
theorem dX8_next_12 : decode cX8_next 12 = .ok (.getfield 26, 3) := by decide +kernel
theorem dX8_next_15 : decode cX8_next 15 = .ok (.aload_n 0, 1) := by decide +kernel
theorem dX8_next_16 : decode cX8_next 16 = .ok (.getfield 49, 3) := by decide +kernel
theorem dX8_next_19 : decode cX8_next 19 = .ok (.iaload, 1) := by decide +kernel
theorem dX8_next_20 : decode cX8_next 20 = .ok (.bipush 32, 2) := by decide +kernel
theorem dX8_next_22 : decode cX8_next 22 = .ok (.if_icmp .ne 16, 3) := by decide +kernel
theorem dX8_next_25 : decode cX8_next 25 = .ok (.aload_n 0, 1) := by decide +kernel
theorem dX8_next_26 : decode cX8_next 26 = .ok (.dup, 1) := by decide +kernel
theorem dX8_next_27 : decode cX8_next 27 = .ok (.getfield 49, 3) := by decide +kernel
theorem dX8_next_30 : decode cX8_next 30 = .ok (.iconst 1, 1) := by decide +kernel
theorem dX8_next_31 : decode cX8_next 31 = .ok (.iadd, 1) := by decide +kernel
theorem dX8_next_32 : decode cX8_next 32 = .ok (.putfield 49, 3) := by decide +kernel
theorem dX8_next_35 : decode cX8_next 35 = .ok (.goto (-35), 3) := by decide +kernel
theorem dX8_next_38 : decode cX8_next 38 = .ok (.aload_n 0, 1) := by decide +kernel
theorem dX8_next_39 : decode cX8_next 39 = .ok (.aload_n 0, 1) := by decide +kernel
theorem dX8_next_40 : decode cX8_next 40 = .ok (.getfield 49, 3) := by decide +kernel
theorem dX8_next_43 : decode cX8_next 43 = .ok (.putfield 59, 3) := by decide +kernel
theorem dX8_next_46 : decode cX8_next 46 = .ok (.aload_n 0, 1) := by decide +kernel
theorem dX8_next_47 : decode cX8_next 47 = .ok (.getfield 49, 3) := by decide +kernel
theorem dX8_next_50 : decode cX8_next 50 = .ok (.aload_n 0, 1) := by decide +kernel
theorem dX8_next_51 : decode cX8_next 51 = .ok (.getfield 52, 3) := by decide +kernel
theorem dX8_next_54 : decode cX8_next 54 = .ok (.if_icmp .ne 11, 3) := by decide +kernel
theorem dX8_next_57 : decode cX8_next 57 = .ok (.aload_n 0, 1) := by decide +kernel
theorem dX8_next_58 : decode cX8_next 58 = .ok (.sipush 1000, 3) := by decide +kernel
theorem dX8_next_61 : decode cX8_next 61 = .ok (.putfield 62, 3) := by decide +kernel
theorem dX8_next_64 : decode cX8_next 64 = .ok (.return_, 1) := by decide +kernel
theorem dX8_next_65 : decode cX8_next 65 = .ok (.aload_n 0, 1) := by decide +kernel
theorem dX8_next_66 : decode cX8_next 66 = .ok (.invokevirtual 65, 3) := by decide +kernel
theorem dX8_next_69 : decode cX8_next 69 = .ok (.ifCond .ne 59, 3) := by decide +kernel
theorem dX8_next_72 : decode cX8_next 72 = .ok (.aload_n 0, 1) := by decide +kernel
theorem dX8_next_73 : decode cX8_next 73 = .ok (.getfield 26, 3) := by decide +kernel
theorem dX8_next_76 : decode cX8_next 76 = .ok (.aload_n 0, 1) := by decide +kernel
theorem dX8_next_77 : decode cX8_next 77 = .ok (.getfield 49, 3) := by decide +kernel
theorem dX8_next_80 : decode cX8_next 80 = .ok (.iaload, 1) := by decide +kernel
theorem dX8_next_81 : decode cX8_next 81 = .ok (.istore_n 1, 1) := by decide +kernel
theorem dX8_next_82 : decode cX8_next 82 = .ok (.aload_n 0, 1) := by decide +kernel
theorem dX8_next_83 : decode cX8_next 83 = .ok (.iload_n 1, 1) := by decide +kernel
theorem dX8_next_84 : decode cX8_next 84 = .ok (.bipush 115, 2) := by decide +kernel
theorem dX8_next_86 : decode cX8_next 86 = .ok (.if_icmp .eq 21, 3) := by decide +kernel
theorem dX8_next_89 : decode cX8_next 89 = .ok (.iload_n 1, 1) := by decide +kernel
theorem dX8_next_90 : decode cX8_next 90 = .ok (.bipush 104, 2) := by decide +kernel
theorem dX8_next_92 : decode cX8_next 92 = .ok (.if_icmp .eq 15, 3) := by decide +kernel
theorem dX8_next_95 : decode cX8_next 95 = .ok (.iload_n 1, 1) := by decide +kernel
theorem dX8_next_96 : decode cX8_next 96 = .ok (.bipush 45, 2) := by decide +kernel
theorem dX8_next_98 : decode cX8_next 98 = .ok (.if_icmp .eq 9, 3) := by decide +kernel
theorem dX8_next_101 : decode cX8_next 101 = .ok (.iload_n 1, 1) := by decide +kernel
theorem dX8_next_102 : decode cX8_next 102 = .ok (.bipush 59, 2) := by decide +kernel
theorem dX8_next_104 : decode cX8_next 104 = .ok (.if_icmp .ne 7, 3) := by decide +kernel
theorem dX8_next_107 : decode cX8_next 107 = .ok (.iload_n 1, 1) := by decide +kernel
theorem dX8_next_108 : decode cX8_next 108 = .ok (.goto 6, 3) := by decide +kernel
theorem dX8_next_111 : decode cX8_next 111 = .ok (.sipush 1002, 3) := by decide +kernel
theorem dX8_next_114 : decode cX8_next 114 = .ok (.putfield 62, 3) := by decide +kernel
theorem dX8_next_117 : decode cX8_next 117 = .ok (.aload_n 0, 1) := by decide +kernel
theorem dX8_next_118 : decode cX8_next 118 = .ok (.dup, 1) := by decide +kernel
theorem dX8_next_119 : decode cX8_next 119 = .ok (.getfield 49, 3) := by decide +kernel
theorem dX8_next_122 : decode cX8_next 122 = .ok (.iconst 1, 1) := by decide +kernel
theorem dX8_next_123 : decode cX8_next 123 = .ok (.iadd, 1) := by decide +kernel
theorem dX8_next_124 : decode cX8_next 124 = .ok (.putfield 49, 3) := by decide +kernel
theorem dX8_next_127 : decode cX8_next 127 = .ok (.return_, 1) := by decide +kernel
theorem dX8_next_128 : decode cX8_next 128 = .ok (.aload_n 0, 1) := by decide +kernel
theorem dX8_next_129 : decode cX8_next 129 = .ok (.iconst 0, 1) := by decide +kernel
theorem dX8_next_130 : decode cX8_next 130 = .ok (.putfield 69, 3) := by decide +kernel
theorem dX8_next_133 : decode cX8_next 133 = .ok (.aload_n 0, 1) := by decide +kernel
theorem dX8_next_134 : decode cX8_next 134 = .ok (.invokevirtual 65, 3) := by decide +kernel
theorem dX8_next_137 : decode cX8_next 137 = .ok (.ifCond .eq 56, 3) := by decide +kernel
theorem dX8_next_140 : decode cX8_next 140 = .ok (.aload_n 0, 1) := by decide +kernel
theorem dX8_next_141 : decode cX8_next 141 = .ok (.aload_n 0, 1) := by decide +kernel
theorem dX8_next_142 : decode cX8_next 142 = .ok (.getfield 69, 3) := by decide +kernel
theorem dX8_next_145 : decode cX8_next 145 = .ok (.bipush 99, 2) := by decide +kernel
theorem dX8_next_147 : decode cX8_next 147 = .ok (.if_icmp .le 10, 3) := by decide +kernel
theorem dX8_next_150 : decode cX8_next 150 = .ok (.aload_n 0, 1) := by decide +kernel
theorem dX8_next_151 : decode cX8_next 151 = .ok (.getfield 69, 3) := by decide +kernel
theorem dX8_next_154 : decode cX8_next 154 = .ok (.goto 23, 3) := by decide +kernel
theorem dX8_next_157 : decode cX8_next 157 = .ok (.bipush 10, 2) := by decide +kernel
theorem dX8_next_159 : decode cX8_next 159 = .ok (.aload_n 0, 1) := by decide +kernel
theorem dX8_next_160 : decode cX8_next 160 = .ok (.getfield 69, 3) := by decide +kernel
theorem dX8_next_163 : decode cX8_next 163 = .ok (.imul, 1) := by decide +kernel
theorem dX8_next_164 : decode cX8_next 164 = .ok (.aload_n 0, 1) := by decide +kernel
theorem dX8_next_165 : decode cX8_next 165 = .ok (.getfield 26, 3) := by decide +kernel
theorem dX8_next_168 : decode cX8_next 168 = .ok (.aload_n 0, 1) := by decide +kernel
theorem dX8_next_169 : decode cX8_next 169 = .ok (.getfield 49, 3) := by decide +kernel
theorem dX8_next_172 : decode cX8_next 172 = .ok (.iaload, 1) := by decide +kernel
theorem dX8_next_173 : decode cX8_next 173 = .ok (.iadd, 1) := by decide +kernel
theorem dX8_next_174 : decode cX8_next 174 = .ok (.bipush 48, 2) := by decide +kernel
theorem dX8_next_176 : decode cX8_next 176 = .ok (.isub, 1) := by decide +kernel
theorem dX8_next_177 : decode cX8_next 177 = .ok (.putfield 69, 3) := by decide +kernel
theorem dX8_next_180 : decode cX8_next 180 = .ok (.aload_n 0, 1) := by decide +kernel
theorem dX8_next_181 : decode cX8_next 181 = .ok (.dup, 1) := by decide +kernel
theorem dX8_next_182 : decode cX8_next 182 = .ok (.getfield 49, 3) := by decide +kernel
theorem dX8_next_185 : decode cX8_next 185 = .ok (.iconst 1, 1) := by decide +kernel
theorem dX8_next_186 : decode cX8_next 186 = .ok (.iadd, 1) := by decide +kernel
theorem dX8_next_187 : decode cX8_next 187 = .ok (.putfield 49, 3) := by decide +kernel
theorem dX8_next_190 : decode cX8_next 190 = .ok (.goto (-57), 3) := by decide +kernel
theorem dX8_next_193 : decode cX8_next 193 = .ok (.aload_n 0, 1) := by decide +kernel
theorem dX8_next_194 : decode cX8_next 194 = .ok (.aload_n 0, 1) := by decide +kernel
theorem dX8_next_195 : decode cX8_next 195 = .ok (.getfield 69, 3) := by decide +kernel
theorem dX8_next_198 : decode cX8_next 198 = .ok (.bipush 99, 2) := by decide +kernel
theorem dX8_next_200 : decode cX8_next 200 = .ok (.if_icmp .gt 30, 3) := by decide +kernel
theorem dX8_next_203 : decode cX8_next 203 = .ok (.aload_n 0, 1) := by decide +kernel
theorem dX8_next_204 : decode cX8_next 204 = .ok (.getfield 26, 3) := by decide +kernel
theorem dX8_next_207 : decode cX8_next 207 = .ok (.aload_n 0, 1) := by decide +kernel
theorem dX8_next_208 : decode cX8_next 208 = .ok (.getfield 59, 3) := by decide +kernel
theorem dX8_next_211 : decode cX8_next 211 = .ok (.iaload, 1) := by decide +kernel
theorem dX8_next_212 : decode cX8_next 212 = .ok (.bipush 48, 2) := by decide +kernel
theorem dX8_next_214 : decode cX8_next 214 = .ok (.if_icmp .ne 22, 3) := by decide +kernel
theorem dX8_next_217 : decode cX8_next 217 = .ok (.aload_n 0, 1) := by decide +kernel
theorem dX8_next_218 : decode cX8_next 218 = .ok (.getfield 49, 3) := by decide +kernel
theorem dX8_next_221 : decode cX8_next 221 = .ok (.aload_n 0, 1) := by decide +kernel
theorem dX8_next_222 : decode cX8_next 222 = .ok (.getfield 59, 3) := by decide +kernel
theorem dX8_next_225 : decode cX8_next 225 = .ok (.iconst 1, 1) := by decide +kernel
theorem dX8_next_226 : decode cX8_next 226 = .ok (.iadd, 1) := by decide +kernel
theorem dX8_next_227 : decode cX8_next 227 = .ok (.if_icmp .le 9, 3) := by decide +kernel
theorem dX8_next_230 : decode cX8_next 230 = .ok (.sipush 1002, 3) := by decide +kernel
theorem dX8_next_233 : decode cX8_next 233 = .ok (.goto 6, 3) := by decide +kernel
theorem dX8_next_236 : decode cX8_next 236 = .ok (.sipush 1001, 3) := by decide +kernel
theorem dX8_next_239 : decode cX8_next 239 = .ok (.putfield 62, 3) := by decide +kernel
theorem dX8_next_242 : decode cX8_next 242 = .ok (.return_, 1) := by decide +kernel
theorem dX8_isNumber_0 : decode cX8_isNumber 0 = .ok (.aload_n 0, 1) := by decide +kernel
theorem dX8_isNumber_1 : decode cX8_isNumber 1 = .ok (.getfield 62, 3) := by decide +kernel
theorem dX8_isNumber_4 : decode cX8_isNumber 4 = .ok (.sipush 1001, 3) := by decide +kernel
theorem dX8_isNumber_7 : decode cX8_isNumber 7 = .ok (.if_icmp .ne 19, 3) := by decide +kernel
theorem dX8_isNumber_10 : decode cX8_isNumber 10 = .ok (.aload_n 0, 1) := by decide +kernel
theorem dX8_isNumber_11 : decode cX8_isNumber 11 = .ok (.getfield 69, 3) := by decide +kernel
theorem dX8_isNumber_14 : decode cX8_isNumber 14 = .ok (.iload_n 1, 1) := by decide +kernel
theorem dX8_isNumber_15 : decode cX8_isNumber 15 = .ok (.iload_n 2, 1) := by decide +kernel
theorem dX8_isNumber_16 : decode cX8_isNumber 16 = .ok (.invokestatic 55, 3) := by decide +kernel
theorem dX8_isNumber_19 : decode cX8_isNumber 19 = .ok (.ifCond .eq 7, 3) := by decide +kernel
theorem dX8_isNumber_22 : decode cX8_isNumber 22 = .ok (.iconst 1, 1) := by decide +kernel
theorem dX8_isNumber_23 : decode cX8_isNumber 23 = .ok (.goto 4, 3) := by decide +kernel
theorem dX8_isNumber_26 : decode cX8_isNumber 26 = .ok (.iconst 0, 1) := by decide +kernel
theorem dX8_isNumber_27 : decode cX8_isNumber 27 = .ok (.ireturn, 1) := by decide +kernel
theorem dX8_isNamed_0 : decode cX8_isNamed 0 = .ok (.iconst 0, 1) := by decide +kernel
theorem dX8_isNamed_1 : decode cX8_isNamed 1 = .ok (.istore_n 2, 1) := by decide +kernel
theorem dX8_isNamed_2 : decode cX8_isNamed 2 = .ok (.iconst 0, 1) := by decide +kernel
theorem dX8_isNamed_3 : decode cX8_isNamed 3 = .ok (.istore_n 3, 1) := by decide +kernel
theorem dX8_isNamed_4 : decode cX8_isNamed 4 = .ok (.iload_n 3, 1) := by decide +kernel
theorem dX8_isNamed_5 : decode cX8_isNamed 5 = .ok (.aload_n 0, 1) := by decide +kernel
theorem dX8_isNamed_6 : decode cX8_isNamed 6 = .ok (.getfield 13, 3) := by decide +kernel
theorem dX8_isNamed_9 : decode cX8_isNamed 9 = .ok (.iconst 0, 1) := by decide +kernel
theorem dX8_isNamed_10 : decode cX8_isNamed 10 = .ok (.iaload, 1) := by decide +kernel
theorem dX8_isNamed_11 : decode cX8_isNamed 11 = .ok (.if_icmp .ge 35, 3) := by decide +kernel
theorem dX8_isNamed_14 : decode cX8_isNamed 14 = .ok (.iload_n 2, 1) := by decide +kernel
theorem dX8_isNamed_15 : decode cX8_isNamed 15 = .ok (.ifCond .ne 19, 3) := by decide +kernel
theorem dX8_isNamed_18 : decode cX8_isNamed 18 = .ok (.aload_n 0, 1) := by decide +kernel
theorem dX8_isNamed_19 : decode cX8_isNamed 19 = .ok (.getfield 13, 3) := by decide +kernel
theorem dX8_isNamed_22 : decode cX8_isNamed 22 = .ok (.iconst 3, 1) := by decide +kernel
theorem dX8_isNamed_23 : decode cX8_isNamed 23 = .ok (.iconst 4, 1) := by decide +kernel
theorem dX8_isNamed_24 : decode cX8_isNamed 24 = .ok (.iload_n 3, 1) := by decide +kernel
theorem dX8_isNamed_25 : decode cX8_isNamed 25 = .ok (.imul, 1) := by decide +kernel
theorem dX8_isNamed_26 : decode cX8_isNamed 26 = .ok (.iadd, 1) := by decide +kernel
theorem dX8_isNamed_27 : decode cX8_isNamed 27 = .ok (.iconst 1, 1) := by decide +kernel
theorem dX8_isNamed_28 : decode cX8_isNamed 28 = .ok (.iadd, 1) := by decide +kernel
theorem dX8_isNamed_29 : decode cX8_isNamed 29 = .ok (.iaload, 1) := by decide +kernel
theorem dX8_isNamed_30 : decode cX8_isNamed 30 = .ok (.iload_n 1, 1) := by decide +kernel
theorem dX8_isNamed_31 : decode cX8_isNamed 31 = .ok (.if_icmp .ne 7, 3) := by decide +kernel
theorem dX8_isNamed_34 : decode cX8_isNamed 34 = .ok (.iconst 1, 1) := by decide +kernel
theorem dX8_isNamed_35 : decode cX8_isNamed 35 = .ok (.goto 4, 3) := by decide +kernel
theorem dX8_isNamed_38 : decode cX8_isNamed 38 = .ok (.iconst 0, 1) := by decide +kernel
theorem dX8_isNamed_39 : decode cX8_isNamed 39 = .ok (.istore_n 2, 1) := by decide +kernel
theorem dX8_isNamed_40 : decode cX8_isNamed 40 = .ok (.iinc 3 1, 3) := by decide +kernel
theorem dX8_isNamed_43 : decode cX8_isNamed 43 = .ok (.goto (-39), 3) := by decide +kernel
theorem dX8_isNamed_46 : decode cX8_isNamed 46 = .ok (.iload_n 2, 1) := by decide +kernel
theorem dX8_isNamed_47 : decode cX8_isNamed 47 = .ok (.ireturn, 1) := by decide +kernel
theorem dX8_readSwitch_0 : decode cX8_readSwitch 0 = .ok (.aload_n 0, 1) := by decide +kernel
theorem dX8_readSwitch_1 : decode cX8_readSwitch 1 = .ok (.getfield 13, 3) := by decide +kernel
theorem dX8_readSwitch_4 : decode cX8_readSwitch 4 = .ok (.iconst 0, 1) := by decide +kernel
theorem dX8_readSwitch_5 : decode cX8_readSwitch 5 = .ok (.iaload, 1) := by decide +kernel
theorem dX8_readSwitch_6 : decode cX8_readSwitch 6 = .ok (.bipush 6, 2) := by decide +kernel
theorem dX8_readSwitch_8 : decode cX8_readSwitch 8 = .ok (.if_icmp .eq 12, 3) := by decide +kernel
theorem dX8_readSwitch_11 : decode cX8_readSwitch 11 = .ok (.aload_n 0, 1) := by decide +kernel
theorem dX8_readSwitch_12 : decode cX8_readSwitch 12 = .ok (.getfield 13, 3) := by decide +kernel
theorem dX8_readSwitch_15 : decode cX8_readSwitch 15 = .ok (.iconst 1, 1) := by decide +kernel
theorem dX8_readSwitch_16 : decode cX8_readSwitch 16 = .ok (.iaload, 1) := by decide +kernel
theorem dX8_readSwitch_17 : decode cX8_readSwitch 17 = .ok (.ifCond .le 5, 3) := by decide +kernel
theorem dX8_readSwitch_20 : decode cX8_readSwitch 20 = .ok (.iconst 0, 1) := by decide +kernel
theorem dX8_readSwitch_21 : decode cX8_readSwitch 21 = .ok (.ireturn, 1) := by decide +kernel
theorem dX8_readSwitch_22 : decode cX8_readSwitch 22 = .ok (.iconst 3, 1) := by decide +kernel
theorem dX8_readSwitch_23 : decode cX8_readSwitch 23 = .ok (.iconst 4, 1) := by decide +kernel
theorem dX8_readSwitch_24 : decode cX8_readSwitch 24 = .ok (.aload_n 0, 1) := by decide +kernel
theorem dX8_readSwitch_25 : decode cX8_readSwitch 25 = .ok (.getfield 13, 3) := by decide +kernel
theorem dX8_readSwitch_28 : decode cX8_readSwitch 28 = .ok (.iconst 0, 1) := by decide +kernel
theorem dX8_readSwitch_29 : decode cX8_readSwitch 29 = .ok (.iaload, 1) := by decide +kernel
theorem dX8_readSwitch_30 : decode cX8_readSwitch 30 = .ok (.imul, 1) := by decide +kernel
theorem dX8_readSwitch_31 : decode cX8_readSwitch 31 = .ok (.iadd, 1) := by decide +kernel
theorem dX8_readSwitch_32 : decode cX8_readSwitch 32 = .ok (.istore_n 1, 1) := by decide +kernel
theorem dX8_readSwitch_33 : decode cX8_readSwitch 33 = .ok (.aload_n 0, 1) := by decide +kernel
theorem dX8_readSwitch_34 : decode cX8_readSwitch 34 = .ok (.invokevirtual 72, 3) := by decide +kernel
theorem dX8_readSwitch_37 : decode cX8_readSwitch 37 = .ok (.aload_n 0, 1) := by decide +kernel
theorem dX8_readSwitch_38 : decode cX8_readSwitch 38 = .ok (.iconst 1, 1) := by decide +kernel
theorem dX8_readSwitch_39 : decode cX8_readSwitch 39 = .ok (.bipush 9, 2) := by decide +kernel
theorem dX8_readSwitch_41 : decode cX8_readSwitch 41 = .ok (.invokevirtual 75, 3) := by decide +kernel
theorem dX8_readSwitch_44 : decode cX8_readSwitch 44 = .ok (.ifCond .ne 5, 3) := by decide +kernel
theorem dX8_readSwitch_47 : decode cX8_readSwitch 47 = .ok (.iconst 0, 1) := by decide +kernel
theorem dX8_readSwitch_48 : decode cX8_readSwitch 48 = .ok (.ireturn, 1) := by decide +kernel
theorem dX8_readSwitch_49 : decode cX8_readSwitch 49 = .ok (.aload_n 0, 1) := by decide +kernel
theorem dX8_readSwitch_50 : decode cX8_readSwitch 50 = .ok (.getfield 13, 3) := by decide +kernel
theorem dX8_readSwitch_53 : decode cX8_readSwitch 53 = .ok (.iload_n 1, 1) := by decide +kernel
theorem dX8_readSwitch_54 : decode cX8_readSwitch 54 = .ok (.iconst 0, 1) := by decide +kernel
theorem dX8_readSwitch_55 : decode cX8_readSwitch 55 = .ok (.iadd, 1) := by decide +kernel
theorem dX8_readSwitch_56 : decode cX8_readSwitch 56 = .ok (.aload_n 0, 1) := by decide +kernel
theorem dX8_readSwitch_57 : decode cX8_readSwitch 57 = .ok (.getfield 69, 3) := by decide +kernel
theorem dX8_readSwitch_60 : decode cX8_readSwitch 60 = .ok (.iastore, 1) := by decide +kernel
theorem dX8_readSwitch_61 : decode cX8_readSwitch 61 = .ok (.aload_n 0, 1) := by decide +kernel
theorem dX8_readSwitch_62 : decode cX8_readSwitch 62 = .ok (.invokevirtual 72, 3) := by decide +kernel
theorem dX8_readSwitch_65 : decode cX8_readSwitch 65 = .ok (.aload_n 0, 1) := by decide +kernel
theorem dX8_readSwitch_66 : decode cX8_readSwitch 66 = .ok (.iconst 0, 1) := by decide +kernel
theorem dX8_readSwitch_67 : decode cX8_readSwitch 67 = .ok (.bipush 99, 2) := by decide +kernel
theorem dX8_readSwitch_69 : decode cX8_readSwitch 69 = .ok (.invokevirtual 75, 3) := by decide +kernel
theorem dX8_readSwitch_72 : decode cX8_readSwitch 72 = .ok (.ifCond .eq 14, 3) := by decide +kernel
theorem dX8_readSwitch_75 : decode cX8_readSwitch 75 = .ok (.aload_n 0, 1) := by decide +kernel
theorem dX8_readSwitch_76 : decode cX8_readSwitch 76 = .ok (.aload_n 0, 1) := by decide +kernel
theorem dX8_readSwitch_77 : decode cX8_readSwitch 77 = .ok (.getfield 69, 3) := by decide +kernel
theorem dX8_readSwitch_80 : decode cX8_readSwitch 80 = .ok (.invokevirtual 79, 3) := by decide +kernel
theorem dX8_readSwitch_83 : decode cX8_readSwitch 83 = .ok (.ifCond .eq 5, 3) := by decide +kernel
theorem dX8_readSwitch_86 : decode cX8_readSwitch 86 = .ok (.iconst 0, 1) := by decide +kernel
theorem dX8_readSwitch_87 : decode cX8_readSwitch 87 = .ok (.ireturn, 1) := by decide +kernel
theorem dX8_readSwitch_88 : decode cX8_readSwitch 88 = .ok (.aload_n 0, 1) := by decide +kernel
theorem dX8_readSwitch_89 : decode cX8_readSwitch 89 = .ok (.getfield 13, 3) := by decide +kernel
theorem dX8_readSwitch_92 : decode cX8_readSwitch 92 = .ok (.iload_n 1, 1) := by decide +kernel
theorem dX8_readSwitch_93 : decode cX8_readSwitch 93 = .ok (.iconst 1, 1) := by decide +kernel
theorem dX8_readSwitch_94 : decode cX8_readSwitch 94 = .ok (.iadd, 1) := by decide +kernel
theorem dX8_readSwitch_95 : decode cX8_readSwitch 95 = .ok (.aload_n 0, 1) := by decide +kernel
theorem dX8_readSwitch_96 : decode cX8_readSwitch 96 = .ok (.getfield 69, 3) := by decide +kernel
theorem dX8_readSwitch_99 : decode cX8_readSwitch 99 = .ok (.iastore, 1) := by decide +kernel
theorem dX8_readSwitch_100 : decode cX8_readSwitch 100 = .ok (.aload_n 0, 1) := by decide +kernel
theorem dX8_readSwitch_101 : decode cX8_readSwitch 101 = .ok (.invokevirtual 72, 3) := by decide +kernel
theorem dX8_readSwitch_104 : decode cX8_readSwitch 104 = .ok (.aload_n 0, 1) := by decide +kernel
theorem dX8_readSwitch_105 : decode cX8_readSwitch 105 = .ok (.iconst 0, 1) := by decide +kernel
theorem dX8_readSwitch_106 : decode cX8_readSwitch 106 = .ok (.bipush 8, 2) := by decide +kernel
theorem dX8_readSwitch_108 : decode cX8_readSwitch 108 = .ok (.invokevirtual 75, 3) := by decide +kernel
theorem dX8_readSwitch_111 : decode cX8_readSwitch 111 = .ok (.ifCond .ne 5, 3) := by decide +kernel
theorem dX8_readSwitch_114 : decode cX8_readSwitch 114 = .ok (.iconst 0, 1) := by decide +kernel
theorem dX8_readSwitch_115 : decode cX8_readSwitch 115 = .ok (.ireturn, 1) := by decide +kernel
theorem dX8_readSwitch_116 : decode cX8_readSwitch 116 = .ok (.aload_n 0, 1) := by decide +kernel
theorem dX8_readSwitch_117 : decode cX8_readSwitch 117 = .ok (.getfield 13, 3) := by decide +kernel
theorem dX8_readSwitch_120 : decode cX8_readSwitch 120 = .ok (.iload_n 1, 1) := by decide +kernel
theorem dX8_readSwitch_121 : decode cX8_readSwitch 121 = .ok (.iconst 2, 1) := by decide +kernel
theorem dX8_readSwitch_122 : decode cX8_readSwitch 122 = .ok (.iadd, 1) := by decide +kernel
theorem dX8_readSwitch_123 : decode cX8_readSwitch 123 = .ok (.aload_n 0, 1) := by decide +kernel
theorem dX8_readSwitch_124 : decode cX8_readSwitch 124 = .ok (.getfield 69, 3) := by decide +kernel
theorem dX8_readSwitch_127 : decode cX8_readSwitch 127 = .ok (.iastore, 1) := by decide +kernel
theorem dX8_readSwitch_128 : decode cX8_readSwitch 128 = .ok (.aload_n 0, 1) := by decide +kernel
theorem dX8_readSwitch_129 : decode cX8_readSwitch 129 = .ok (.getfield 13, 3) := by decide +kernel
theorem dX8_readSwitch_132 : decode cX8_readSwitch 132 = .ok (.iload_n 1, 1) := by decide +kernel
theorem dX8_readSwitch_133 : decode cX8_readSwitch 133 = .ok (.iconst 3, 1) := by decide +kernel
theorem dX8_readSwitch_134 : decode cX8_readSwitch 134 = .ok (.iadd, 1) := by decide +kernel
theorem dX8_readSwitch_135 : decode cX8_readSwitch 135 = .ok (.aload_n 0, 1) := by decide +kernel
theorem dX8_readSwitch_136 : decode cX8_readSwitch 136 = .ok (.getfield 69, 3) := by decide +kernel
theorem dX8_readSwitch_139 : decode cX8_readSwitch 139 = .ok (.ifCond .ne 7, 3) := by decide +kernel
theorem dX8_readSwitch_142 : decode cX8_readSwitch 142 = .ok (.iconst 1, 1) := by decide +kernel
theorem dX8_readSwitch_143 : decode cX8_readSwitch 143 = .ok (.goto 7, 3) := by decide +kernel
theorem dX8_readSwitch_146 : decode cX8_readSwitch 146 = .ok (.aload_n 0, 1) := by decide +kernel
theorem dX8_readSwitch_147 : decode cX8_readSwitch 147 = .ok (.getfield 69, 3) := by decide +kernel
theorem dX8_readSwitch_150 : decode cX8_readSwitch 150 = .ok (.iastore, 1) := by decide +kernel
theorem dX8_readSwitch_151 : decode cX8_readSwitch 151 = .ok (.aload_n 0, 1) := by decide +kernel
theorem dX8_readSwitch_152 : decode cX8_readSwitch 152 = .ok (.getfield 13, 3) := by decide +kernel
theorem dX8_readSwitch_155 : decode cX8_readSwitch 155 = .ok (.iconst 0, 1) := by decide +kernel
theorem dX8_readSwitch_156 : decode cX8_readSwitch 156 = .ok (.dup2, 1) := by decide +kernel
theorem dX8_readSwitch_157 : decode cX8_readSwitch 157 = .ok (.iaload, 1) := by decide +kernel
theorem dX8_readSwitch_158 : decode cX8_readSwitch 158 = .ok (.iconst 1, 1) := by decide +kernel
theorem dX8_readSwitch_159 : decode cX8_readSwitch 159 = .ok (.iadd, 1) := by decide +kernel
theorem dX8_readSwitch_160 : decode cX8_readSwitch 160 = .ok (.iastore, 1) := by decide +kernel
theorem dX8_readSwitch_161 : decode cX8_readSwitch 161 = .ok (.aload_n 0, 1) := by decide +kernel
theorem dX8_readSwitch_162 : decode cX8_readSwitch 162 = .ok (.invokevirtual 72, 3) := by decide +kernel
theorem dX8_readSwitch_165 : decode cX8_readSwitch 165 = .ok (.aload_n 0, 1) := by decide +kernel
theorem dX8_readSwitch_166 : decode cX8_readSwitch 166 = .ok (.getfield 62, 3) := by decide +kernel
theorem dX8_readSwitch_169 : decode cX8_readSwitch 169 = .ok (.bipush 59, 2) := by decide +kernel
theorem dX8_readSwitch_171 : decode cX8_readSwitch 171 = .ok (.if_icmp .ne 7, 3) := by decide +kernel
theorem dX8_readSwitch_174 : decode cX8_readSwitch 174 = .ok (.iconst 1, 1) := by decide +kernel
theorem dX8_readSwitch_175 : decode cX8_readSwitch 175 = .ok (.goto 4, 3) := by decide +kernel
theorem dX8_readSwitch_178 : decode cX8_readSwitch 178 = .ok (.iconst 0, 1) := by decide +kernel
theorem dX8_readSwitch_179 : decode cX8_readSwitch 179 = .ok (.ireturn, 1) := by decide +kernel
theorem dX8_readHost_0 : decode cX8_readHost 0 = .ok (.aload_n 0, 1) := by decide +kernel
theorem dX8_readHost_1 : decode cX8_readHost 1 = .ok (.getfield 13, 3) := by decide +kernel
theorem dX8_readHost_4 : decode cX8_readHost 4 = .ok (.iconst 1, 1) := by decide +kernel
theorem dX8_readHost_5 : decode cX8_readHost 5 = .ok (.iaload, 1) := by decide +kernel
theorem dX8_readHost_6 : decode cX8_readHost 6 = .ok (.bipush 8, 2) := by decide +kernel
theorem dX8_readHost_8 : decode cX8_readHost 8 = .ok (.if_icmp .eq 12, 3) := by decide +kernel
theorem dX8_readHost_11 : decode cX8_readHost 11 = .ok (.aload_n 0, 1) := by decide +kernel
theorem dX8_readHost_12 : decode cX8_readHost 12 = .ok (.getfield 13, 3) := by decide +kernel
theorem dX8_readHost_15 : decode cX8_readHost 15 = .ok (.iconst 0, 1) := by decide +kernel
theorem dX8_readHost_16 : decode cX8_readHost 16 = .ok (.iaload, 1) := by decide +kernel
theorem dX8_readHost_17 : decode cX8_readHost 17 = .ok (.ifCond .ne 5, 3) := by decide +kernel
theorem dX8_readHost_20 : decode cX8_readHost 20 = .ok (.iconst 0, 1) := by decide +kernel
theorem dX8_readHost_21 : decode cX8_readHost 21 = .ok (.ireturn, 1) := by decide +kernel
theorem dX8_readHost_22 : decode cX8_readHost 22 = .ok (.aload_n 0, 1) := by decide +kernel
theorem dX8_readHost_23 : decode cX8_readHost 23 = .ok (.invokevirtual 72, 3) := by decide +kernel
theorem dX8_readHost_26 : decode cX8_readHost 26 = .ok (.aload_n 0, 1) := by decide +kernel
theorem dX8_readHost_27 : decode cX8_readHost 27 = .ok (.getfield 62, 3) := by decide +kernel
theorem dX8_readHost_30 : decode cX8_readHost 30 = .ok (.bipush 45, 2) := by decide +kernel
theorem dX8_readHost_32 : decode cX8_readHost 32 = .ok (.if_icmp .eq 21, 3) := by decide +kernel
theorem dX8_readHost_35 : decode cX8_readHost 35 = .ok (.aload_n 0, 1) := by decide +kernel
theorem dX8_readHost_36 : decode cX8_readHost 36 = .ok (.iconst 0, 1) := by decide +kernel
theorem dX8_readHost_37 : decode cX8_readHost 37 = .ok (.aload_n 0, 1) := by decide +kernel
theorem dX8_readHost_38 : decode cX8_readHost 38 = .ok (.getfield 13, 3) := by decide +kernel
theorem dX8_readHost_41 : decode cX8_readHost 41 = .ok (.iconst 0, 1) := by decide +kernel
theorem dX8_readHost_42 : decode cX8_readHost 42 = .ok (.iaload, 1) := by decide +kernel
theorem dX8_readHost_43 : decode cX8_readHost 43 = .ok (.iconst 1, 1) := by decide +kernel
theorem dX8_readHost_44 : decode cX8_readHost 44 = .ok (.isub, 1) := by decide +kernel
theorem dX8_readHost_45 : decode cX8_readHost 45 = .ok (.invokevirtual 75, 3) := by decide +kernel
theorem dX8_readHost_48 : decode cX8_readHost 48 = .ok (.ifCond .ne 5, 3) := by decide +kernel
theorem dX8_readHost_51 : decode cX8_readHost 51 = .ok (.iconst 0, 1) := by decide +kernel
theorem dX8_readHost_52 : decode cX8_readHost 52 = .ok (.ireturn, 1) := by decide +kernel
theorem dX8_readHost_53 : decode cX8_readHost 53 = .ok (.aload_n 0, 1) := by decide +kernel
theorem dX8_readHost_54 : decode cX8_readHost 54 = .ok (.getfield 13, 3) := by decide +kernel
theorem dX8_readHost_57 : decode cX8_readHost 57 = .ok (.bipush 27, 2) := by decide +kernel
theorem dX8_readHost_59 : decode cX8_readHost 59 = .ok (.aload_n 0, 1) := by decide +kernel
theorem dX8_readHost_60 : decode cX8_readHost 60 = .ok (.getfield 13, 3) := by decide +kernel
theorem dX8_readHost_63 : decode cX8_readHost 63 = .ok (.iconst 1, 1) := by decide +kernel
theorem dX8_readHost_64 : decode cX8_readHost 64 = .ok (.iaload, 1) := by decide +kernel
theorem dX8_readHost_65 : decode cX8_readHost 65 = .ok (.iadd, 1) := by decide +kernel
theorem dX8_readHost_66 : decode cX8_readHost 66 = .ok (.aload_n 0, 1) := by decide +kernel
theorem dX8_readHost_67 : decode cX8_readHost 67 = .ok (.getfield 62, 3) := by decide +kernel
theorem dX8_readHost_70 : decode cX8_readHost 70 = .ok (.bipush 45, 2) := by decide +kernel
theorem dX8_readHost_72 : decode cX8_readHost 72 = .ok (.if_icmp .ne 8, 3) := by decide +kernel
theorem dX8_readHost_75 : decode cX8_readHost 75 = .ok (.bipush (-9), 2) := by decide +kernel
theorem dX8_readHost_77 : decode cX8_readHost 77 = .ok (.goto 7, 3) := by decide +kernel
theorem dX8_readHost_80 : decode cX8_readHost 80 = .ok (.aload_n 0, 1) := by decide +kernel
theorem dX8_readHost_81 : decode cX8_readHost 81 = .ok (.getfield 69, 3) := by decide +kernel
theorem dX8_readHost_84 : decode cX8_readHost 84 = .ok (.iastore, 1) := by decide +kernel
theorem dX8_readHost_85 : decode cX8_readHost 85 = .ok (.aload_n 0, 1) := by decide +kernel
theorem dX8_readHost_86 : decode cX8_readHost 86 = .ok (.getfield 13, 3) := by decide +kernel
theorem dX8_readHost_89 : decode cX8_readHost 89 = .ok (.iconst 1, 1) := by decide +kernel
theorem dX8_readHost_90 : decode cX8_readHost 90 = .ok (.dup2, 1) := by decide +kernel
theorem dX8_readHost_91 : decode cX8_readHost 91 = .ok (.iaload, 1) := by decide +kernel
theorem dX8_readHost_92 : decode cX8_readHost 92 = .ok (.iconst 1, 1) := by decide +kernel
theorem dX8_readHost_93 : decode cX8_readHost 93 = .ok (.iadd, 1) := by decide +kernel
theorem dX8_readHost_94 : decode cX8_readHost 94 = .ok (.iastore, 1) := by decide +kernel
theorem dX8_readHost_95 : decode cX8_readHost 95 = .ok (.aload_n 0, 1) := by decide +kernel
theorem dX8_readHost_96 : decode cX8_readHost 96 = .ok (.invokevirtual 72, 3) := by decide +kernel
theorem dX8_readHost_99 : decode cX8_readHost 99 = .ok (.aload_n 0, 1) := by decide +kernel
theorem dX8_readHost_100 : decode cX8_readHost 100 = .ok (.getfield 62, 3) := by decide +kernel
theorem dX8_readHost_103 : decode cX8_readHost 103 = .ok (.bipush 59, 2) := by decide +kernel
theorem dX8_readHost_105 : decode cX8_readHost 105 = .ok (.if_icmp .ne 7, 3) := by decide +kernel
theorem dX8_readHost_108 : decode cX8_readHost 108 = .ok (.iconst 1, 1) := by decide +kernel
theorem dX8_readHost_109 : decode cX8_readHost 109 = .ok (.goto 4, 3) := by decide +kernel
theorem dX8_readHost_112 : decode cX8_readHost 112 = .ok (.iconst 0, 1) := by decide +kernel
theorem dX8_readHost_113 : decode cX8_readHost 113 = .ok (.ireturn, 1) := by decide +kernel
theorem dX8_readText_0 : decode cX8_readText 0 = .ok (.iconst 0, 1) := by decide +kernel
theorem dX8_readText_1 : decode cX8_readText 1 = .ok (.istore_n 1, 1) := by decide +kernel
theorem dX8_readText_2 : decode cX8_readText 2 = .ok (.iload_n 1, 1) := by decide +kernel
theorem dX8_readText_3 : decode cX8_readText 3 = .ok (.bipush 87, 2) := by decide +kernel
theorem dX8_readText_5 : decode cX8_readText 5 = .ok (.if_icmp .ge 33, 3) := by decide +kernel
theorem dX8_readText_8 : decode cX8_readText 8 = .ok (.aload_n 0, 1) := by decide +kernel
theorem dX8_readText_9 : decode cX8_readText 9 = .ok (.getfield 13, 3) := by decide +kernel
theorem dX8_readText_12 : decode cX8_readText 12 = .ok (.iload_n 1, 1) := by decide +kernel
theorem dX8_readText_13 : decode cX8_readText 13 = .ok (.iload_n 1, 1) := by decide +kernel
theorem dX8_readText_14 : decode cX8_readText 14 = .ok (.bipush 27, 2) := by decide +kernel
theorem dX8_readText_16 : decode cX8_readText 16 = .ok (.if_icmp .lt 14, 3) := by decide +kernel
theorem dX8_readText_19 : decode cX8_readText 19 = .ok (.iload_n 1, 1) := by decide +kernel
theorem dX8_readText_20 : decode cX8_readText 20 = .ok (.bipush 35, 2) := by decide +kernel
theorem dX8_readText_22 : decode cX8_readText 22 = .ok (.if_icmp .ge 8, 3) := by decide +kernel
theorem dX8_readText_25 : decode cX8_readText 25 = .ok (.bipush (-9), 2) := by decide +kernel
theorem dX8_readText_27 : decode cX8_readText 27 = .ok (.goto 4, 3) := by decide +kernel
theorem dX8_readText_30 : decode cX8_readText 30 = .ok (.iconst 0, 1) := by decide +kernel
theorem dX8_readText_31 : decode cX8_readText 31 = .ok (.iastore, 1) := by decide +kernel
theorem dX8_readText_32 : decode cX8_readText 32 = .ok (.iinc 1 1, 3) := by decide +kernel
theorem dX8_readText_35 : decode cX8_readText 35 = .ok (.goto (-33), 3) := by decide +kernel
theorem dX8_readText_38 : decode cX8_readText 38 = .ok (.aload_n 0, 1) := by decide +kernel
theorem dX8_readText_39 : decode cX8_readText 39 = .ok (.iconst 0, 1) := by decide +kernel
theorem dX8_readText_40 : decode cX8_readText 40 = .ok (.putfield 49, 3) := by decide +kernel
theorem dX8_readText_43 : decode cX8_readText 43 = .ok (.aload_n 0, 1) := by decide +kernel
theorem dX8_readText_44 : decode cX8_readText 44 = .ok (.invokevirtual 72, 3) := by decide +kernel
theorem dX8_readText_47 : decode cX8_readText 47 = .ok (.aload_n 0, 1) := by decide +kernel
theorem dX8_readText_48 : decode cX8_readText 48 = .ok (.getfield 62, 3) := by decide +kernel
theorem dX8_readText_51 : decode cX8_readText 51 = .ok (.sipush 1000, 3) := by decide +kernel
theorem dX8_readText_54 : decode cX8_readText 54 = .ok (.if_icmp .eq 57, 3) := by decide +kernel
theorem dX8_readText_57 : decode cX8_readText 57 = .ok (.aload_n 0, 1) := by decide +kernel
theorem dX8_readText_58 : decode cX8_readText 58 = .ok (.getfield 62, 3) := by decide +kernel
theorem dX8_readText_61 : decode cX8_readText 61 = .ok (.bipush 115, 2) := by decide +kernel
theorem dX8_readText_63 : decode cX8_readText 63 = .ok (.if_icmp .ne 10, 3) := by decide +kernel
theorem dX8_readText_66 : decode cX8_readText 66 = .ok (.aload_n 0, 1) := by decide +kernel
theorem dX8_readText_67 : decode cX8_readText 67 = .ok (.invokevirtual 83, 3) := by decide +kernel
theorem dX8_readText_70 : decode cX8_readText 70 = .ok (.goto 24, 3) := by decide +kernel
theorem dX8_readText_73 : decode cX8_readText 73 = .ok (.aload_n 0, 1) := by decide +kernel
theorem dX8_readText_74 : decode cX8_readText 74 = .ok (.getfield 62, 3) := by decide +kernel
theorem dX8_readText_77 : decode cX8_readText 77 = .ok (.bipush 104, 2) := by decide +kernel
theorem dX8_readText_79 : decode cX8_readText 79 = .ok (.if_icmp .ne 14, 3) := by decide +kernel
theorem dX8_readText_82 : decode cX8_readText 82 = .ok (.aload_n 0, 1) := by decide +kernel
theorem dX8_readText_83 : decode cX8_readText 83 = .ok (.invokevirtual 86, 3) := by decide +kernel
theorem dX8_readText_86 : decode cX8_readText 86 = .ok (.ifCond .eq 7, 3) := by decide +kernel
theorem dX8_readText_89 : decode cX8_readText 89 = .ok (.iconst 1, 1) := by decide +kernel
theorem dX8_readText_90 : decode cX8_readText 90 = .ok (.goto 4, 3) := by decide +kernel
theorem dX8_readText_93 : decode cX8_readText 93 = .ok (.iconst 0, 1) := by decide +kernel
theorem dX8_readText_94 : decode cX8_readText 94 = .ok (.istore_n 1, 1) := by decide +kernel
theorem dX8_readText_95 : decode cX8_readText 95 = .ok (.iload_n 1, 1) := by decide +kernel
theorem dX8_readText_96 : decode cX8_readText 96 = .ok (.ifCond .ne 8, 3) := by decide +kernel
theorem dX8_readText_99 : decode cX8_readText 99 = .ok (.aload_n 0, 1) := by decide +kernel
theorem dX8_readText_100 : decode cX8_readText 100 = .ok (.getfield 59, 3) := by decide +kernel
theorem dX8_readText_103 : decode cX8_readText 103 = .ok (.ireturn, 1) := by decide +kernel
theorem dX8_readText_104 : decode cX8_readText 104 = .ok (.aload_n 0, 1) := by decide +kernel
theorem dX8_readText_105 : decode cX8_readText 105 = .ok (.invokevirtual 72, 3) := by decide +kernel
theorem dX8_readText_108 : decode cX8_readText 108 = .ok (.goto (-61), 3) := by decide +kernel
theorem dX8_readText_111 : decode cX8_readText 111 = .ok (.aload_n 0, 1) := by decide +kernel
theorem dX8_readText_112 : decode cX8_readText 112 = .ok (.getfield 13, 3) := by decide +kernel
theorem dX8_readText_115 : decode cX8_readText 115 = .ok (.iconst 0, 1) := by decide +kernel
theorem dX8_readText_116 : decode cX8_readText 116 = .ok (.iaload, 1) := by decide +kernel
theorem dX8_readText_117 : decode cX8_readText 117 = .ok (.ifCond .ne 10, 3) := by decide +kernel
theorem dX8_readText_120 : decode cX8_readText 120 = .ok (.aload_n 0, 1) := by decide +kernel
theorem dX8_readText_121 : decode cX8_readText 121 = .ok (.getfield 52, 3) := by decide +kernel
theorem dX8_readText_124 : decode cX8_readText 124 = .ok (.goto 5, 3) := by decide +kernel
theorem dX8_readText_127 : decode cX8_readText 127 = .ok (.bipush (-9), 2) := by decide +kernel
theorem dX8_readText_129 : decode cX8_readText 129 = .ok (.ireturn, 1) := by decide +kernel
theorem dX8_type_0 : decode cX8_type 0 = .ok (.iload_n 1, 1) := by decide +kernel
theorem dX8_type_1 : decode cX8_type 1 = .ok (.iconst 0, 1) := by decide +kernel
theorem dX8_type_2 : decode cX8_type 2 = .ok (.sipush 255, 3) := by decide +kernel
theorem dX8_type_5 : decode cX8_type 5 = .ok (.invokestatic 55, 3) := by decide +kernel
theorem dX8_type_8 : decode cX8_type 8 = .ok (.ifCond .ne 5, 3) := by decide +kernel
theorem dX8_type_11 : decode cX8_type 11 = .ok (.iconst (-1), 1) := by decide +kernel
theorem dX8_type_12 : decode cX8_type 12 = .ok (.ireturn, 1) := by decide +kernel
theorem dX8_type_13 : decode cX8_type 13 = .ok (.aload_n 0, 1) := by decide +kernel
theorem dX8_type_14 : decode cX8_type 14 = .ok (.getfield 52, 3) := by decide +kernel
theorem dX8_type_17 : decode cX8_type 17 = .ok (.bipush 100, 2) := by decide +kernel
theorem dX8_type_19 : decode cX8_type 19 = .ok (.if_icmp .ne 6, 3) := by decide +kernel
theorem dX8_type_22 : decode cX8_type 22 = .ok (.bipush (-3), 2) := by decide +kernel
theorem dX8_type_24 : decode cX8_type 24 = .ok (.ireturn, 1) := by decide +kernel
theorem dX8_type_25 : decode cX8_type 25 = .ok (.aload_n 0, 1) := by decide +kernel
theorem dX8_type_26 : decode cX8_type 26 = .ok (.getfield 26, 3) := by decide +kernel
theorem dX8_type_29 : decode cX8_type 29 = .ok (.aload_n 0, 1) := by decide +kernel
theorem dX8_type_30 : decode cX8_type 30 = .ok (.getfield 52, 3) := by decide +kernel
theorem dX8_type_33 : decode cX8_type 33 = .ok (.iload_n 1, 1) := by decide +kernel
theorem dX8_type_34 : decode cX8_type 34 = .ok (.iastore, 1) := by decide +kernel
theorem dX8_type_35 : decode cX8_type 35 = .ok (.aload_n 0, 1) := by decide +kernel
theorem dX8_type_36 : decode cX8_type 36 = .ok (.dup, 1) := by decide +kernel
theorem dX8_type_37 : decode cX8_type 37 = .ok (.getfield 52, 3) := by decide +kernel
theorem dX8_type_40 : decode cX8_type 40 = .ok (.iconst 1, 1) := by decide +kernel
theorem dX8_type_41 : decode cX8_type 41 = .ok (.iadd, 1) := by decide +kernel
theorem dX8_type_42 : decode cX8_type 42 = .ok (.putfield 52, 3) := by decide +kernel
theorem dX8_type_45 : decode cX8_type 45 = .ok (.aload_n 0, 1) := by decide +kernel
theorem dX8_type_46 : decode cX8_type 46 = .ok (.getfield 52, 3) := by decide +kernel
theorem dX8_type_49 : decode cX8_type 49 = .ok (.ireturn, 1) := by decide +kernel
theorem dX8_clear_0 : decode cX8_clear 0 = .ok (.aload_n 0, 1) := by decide +kernel
theorem dX8_clear_1 : decode cX8_clear 1 = .ok (.getfield 52, 3) := by decide +kernel
theorem dX8_clear_4 : decode cX8_clear 4 = .ok (.istore_n 1, 1) := by decide +kernel
theorem dX8_clear_5 : decode cX8_clear 5 = .ok (.aload_n 0, 1) := by decide +kernel
theorem dX8_clear_6 : decode cX8_clear 6 = .ok (.iconst 0, 1) := by decide +kernel
theorem dX8_clear_7 : decode cX8_clear 7 = .ok (.putfield 52, 3) := by decide +kernel
theorem dX8_clear_10 : decode cX8_clear 10 = .ok (.iload_n 1, 1) := by decide +kernel
theorem dX8_clear_11 : decode cX8_clear 11 = .ok (.ireturn, 1) := by decide +kernel
theorem dX8_tells_0 : decode cX8_tells 0 = .ok (.aload_n 0, 1) := by decide +kernel
theorem dX8_tells_1 : decode cX8_tells 1 = .ok (.invokevirtual 89, 3) := by decide +kernel
theorem dX8_tells_4 : decode cX8_tells 4 = .ok (.istore_n 1, 1) := by decide +kernel
theorem dX8_tells_5 : decode cX8_tells 5 = .ok (.iload_n 1, 1) := by decide +kernel
theorem dX8_tells_6 : decode cX8_tells 6 = .ok (.bipush (-9), 2) := by decide +kernel
theorem dX8_tells_8 : decode cX8_tells 8 = .ok (.if_icmp .eq 8, 3) := by decide +kernel
theorem dX8_tells_11 : decode cX8_tells 11 = .ok (.bipush (-10), 2) := by decide +kernel
theorem dX8_tells_13 : decode cX8_tells 13 = .ok (.iload_n 1, 1) := by decide +kernel
theorem dX8_tells_14 : decode cX8_tells 14 = .ok (.isub, 1) := by decide +kernel
theorem dX8_tells_15 : decode cX8_tells 15 = .ok (.ireturn, 1) := by decide +kernel
theorem dX8_tells_16 : decode cX8_tells 16 = .ok (.aload_n 0, 1) := by decide +kernel
theorem dX8_tells_17 : decode cX8_tells 17 = .ok (.invokevirtual 93, 3) := by decide +kernel
theorem dX8_tells_20 : decode cX8_tells 20 = .ok (.aload_n 0, 1) := by decide +kernel
theorem dX8_tells_21 : decode cX8_tells 21 = .ok (.getfield 13, 3) := by decide +kernel
theorem dX8_tells_24 : decode cX8_tells 24 = .ok (.iconst 0, 1) := by decide +kernel
theorem dX8_tells_25 : decode cX8_tells 25 = .ok (.aload_n 0, 1) := by decide +kernel
theorem dX8_tells_26 : decode cX8_tells 26 = .ok (.getfield 7, 3) := by decide +kernel
theorem dX8_tells_29 : decode cX8_tells 29 = .ok (.iconst 0, 1) := by decide +kernel
theorem dX8_tells_30 : decode cX8_tells 30 = .ok (.invokestatic 45, 3) := by decide +kernel
theorem dX8_tells_33 : decode cX8_tells 33 = .ok (.aload_n 0, 1) := by decide +kernel
theorem dX8_tells_34 : decode cX8_tells 34 = .ok (.iconst 0, 1) := by decide +kernel
theorem dX8_tells_35 : decode cX8_tells 35 = .ok (.putfield 52, 3) := by decide +kernel
theorem dX8_tells_38 : decode cX8_tells 38 = .ok (.aload_n 0, 1) := by decide +kernel
theorem dX8_tells_39 : decode cX8_tells 39 = .ok (.iconst 0, 1) := by decide +kernel
theorem dX8_tells_40 : decode cX8_tells 40 = .ok (.putfield 96, 3) := by decide +kernel
theorem dX8_tells_43 : decode cX8_tells 43 = .ok (.aload_n 0, 1) := by decide +kernel
theorem dX8_tells_44 : decode cX8_tells 44 = .ok (.getfield 22, 3) := by decide +kernel
theorem dX8_tells_47 : decode cX8_tells 47 = .ok (.iconst 0, 1) := by decide +kernel
theorem dX8_tells_48 : decode cX8_tells 48 = .ok (.iconst 0, 1) := by decide +kernel
theorem dX8_tells_49 : decode cX8_tells 49 = .ok (.bastore, 1) := by decide +kernel
theorem dX8_tells_50 : decode cX8_tells 50 = .ok (.aload_n 0, 1) := by decide +kernel
theorem dX8_tells_51 : decode cX8_tells 51 = .ok (.getfield 22, 3) := by decide +kernel
theorem dX8_tells_54 : decode cX8_tells 54 = .ok (.iconst 1, 1) := by decide +kernel
theorem dX8_tells_55 : decode cX8_tells 55 = .ok (.iconst 0, 1) := by decide +kernel
theorem dX8_tells_56 : decode cX8_tells 56 = .ok (.bastore, 1) := by decide +kernel
theorem dX8_tells_57 : decode cX8_tells 57 = .ok (.aload_n 0, 1) := by decide +kernel
theorem dX8_tells_58 : decode cX8_tells 58 = .ok (.getfield 7, 3) := by decide +kernel
theorem dX8_tells_61 : decode cX8_tells 61 = .ok (.iconst 0, 1) := by decide +kernel
theorem dX8_tells_62 : decode cX8_tells 62 = .ok (.iaload, 1) := by decide +kernel
theorem dX8_tells_63 : decode cX8_tells 63 = .ok (.aload_n 0, 1) := by decide +kernel
theorem dX8_tells_64 : decode cX8_tells 64 = .ok (.getfield 7, 3) := by decide +kernel
theorem dX8_tells_67 : decode cX8_tells 67 = .ok (.iconst 1, 1) := by decide +kernel
theorem dX8_tells_68 : decode cX8_tells 68 = .ok (.iaload, 1) := by decide +kernel
theorem dX8_tells_69 : decode cX8_tells 69 = .ok (.iadd, 1) := by decide +kernel
theorem dX8_tells_70 : decode cX8_tells 70 = .ok (.ireturn, 1) := by decide +kernel
theorem dX8_isSwitch_0 : decode cX8_isSwitch 0 = .ok (.iload_n 1, 1) := by decide +kernel
theorem dX8_isSwitch_1 : decode cX8_isSwitch 1 = .ok (.iconst 0, 1) := by decide +kernel
theorem dX8_isSwitch_2 : decode cX8_isSwitch 2 = .ok (.aload_n 0, 1) := by decide +kernel
theorem dX8_isSwitch_3 : decode cX8_isSwitch 3 = .ok (.getfield 7, 3) := by decide +kernel
theorem dX8_isSwitch_6 : decode cX8_isSwitch 6 = .ok (.iconst 0, 1) := by decide +kernel
theorem dX8_isSwitch_7 : decode cX8_isSwitch 7 = .ok (.iaload, 1) := by decide +kernel
theorem dX8_isSwitch_8 : decode cX8_isSwitch 8 = .ok (.iconst 1, 1) := by decide +kernel
theorem dX8_isSwitch_9 : decode cX8_isSwitch 9 = .ok (.isub, 1) := by decide +kernel
theorem dX8_isSwitch_10 : decode cX8_isSwitch 10 = .ok (.invokestatic 55, 3) := by decide +kernel
theorem dX8_isSwitch_13 : decode cX8_isSwitch 13 = .ok (.ireturn, 1) := by decide +kernel
theorem dX8_isHost_0 : decode cX8_isHost 0 = .ok (.iload_n 1, 1) := by decide +kernel
theorem dX8_isHost_1 : decode cX8_isHost 1 = .ok (.iconst 0, 1) := by decide +kernel
theorem dX8_isHost_2 : decode cX8_isHost 2 = .ok (.aload_n 0, 1) := by decide +kernel
theorem dX8_isHost_3 : decode cX8_isHost 3 = .ok (.getfield 7, 3) := by decide +kernel
theorem dX8_isHost_6 : decode cX8_isHost 6 = .ok (.iconst 1, 1) := by decide +kernel
theorem dX8_isHost_7 : decode cX8_isHost 7 = .ok (.iaload, 1) := by decide +kernel
theorem dX8_isHost_8 : decode cX8_isHost 8 = .ok (.iconst 1, 1) := by decide +kernel
theorem dX8_isHost_9 : decode cX8_isHost 9 = .ok (.isub, 1) := by decide +kernel
theorem dX8_isHost_10 : decode cX8_isHost 10 = .ok (.invokestatic 55, 3) := by decide +kernel
theorem dX8_isHost_13 : decode cX8_isHost 13 = .ok (.ireturn, 1) := by decide +kernel
theorem dX8_areTwo_0 : decode cX8_areTwo 0 = .ok (.aload_n 0, 1) := by decide +kernel
theorem dX8_areTwo_1 : decode cX8_areTwo 1 = .ok (.iload_n 1, 1) := by decide +kernel
theorem dX8_areTwo_2 : decode cX8_areTwo 2 = .ok (.invokevirtual 99, 3) := by decide +kernel
theorem dX8_areTwo_5 : decode cX8_areTwo 5 = .ok (.ifCond .eq 20, 3) := by decide +kernel
theorem dX8_areTwo_8 : decode cX8_areTwo 8 = .ok (.aload_n 0, 1) := by decide +kernel
theorem dX8_areTwo_9 : decode cX8_areTwo 9 = .ok (.iload_n 2, 1) := by decide +kernel
theorem dX8_areTwo_10 : decode cX8_areTwo 10 = .ok (.invokevirtual 99, 3) := by decide +kernel
theorem dX8_areTwo_13 : decode cX8_areTwo 13 = .ok (.ifCond .eq 12, 3) := by decide +kernel
theorem dX8_areTwo_16 : decode cX8_areTwo 16 = .ok (.iload_n 1, 1) := by decide +kernel
theorem dX8_areTwo_17 : decode cX8_areTwo 17 = .ok (.iload_n 2, 1) := by decide +kernel
theorem dX8_areTwo_18 : decode cX8_areTwo 18 = .ok (.if_icmp .eq 7, 3) := by decide +kernel
theorem dX8_areTwo_21 : decode cX8_areTwo 21 = .ok (.iconst 1, 1) := by decide +kernel
theorem dX8_areTwo_22 : decode cX8_areTwo 22 = .ok (.goto 4, 3) := by decide +kernel
theorem dX8_areTwo_25 : decode cX8_areTwo 25 = .ok (.iconst 0, 1) := by decide +kernel
theorem dX8_areTwo_26 : decode cX8_areTwo 26 = .ok (.ireturn, 1) := by decide +kernel
theorem dX8_of_0 : decode cX8_of 0 = .ok (.aload_n 0, 1) := by decide +kernel
theorem dX8_of_1 : decode cX8_of 1 = .ok (.getfield 7, 3) := by decide +kernel
theorem dX8_of_4 : decode cX8_of 4 = .ok (.iconst 3, 1) := by decide +kernel
theorem dX8_of_5 : decode cX8_of 5 = .ok (.iconst 4, 1) := by decide +kernel
theorem dX8_of_6 : decode cX8_of 6 = .ok (.iload_n 1, 1) := by decide +kernel
theorem dX8_of_7 : decode cX8_of 7 = .ok (.imul, 1) := by decide +kernel
theorem dX8_of_8 : decode cX8_of 8 = .ok (.iadd, 1) := by decide +kernel
theorem dX8_of_9 : decode cX8_of 9 = .ok (.iload_n 2, 1) := by decide +kernel
theorem dX8_of_10 : decode cX8_of 10 = .ok (.iadd, 1) := by decide +kernel
theorem dX8_of_11 : decode cX8_of 11 = .ok (.iaload, 1) := by decide +kernel
theorem dX8_of_12 : decode cX8_of 12 = .ok (.ireturn, 1) := by decide +kernel
theorem dX8_besides_0 : decode cX8_besides 0 = .ok (.iload_n 1, 1) := by decide +kernel
theorem dX8_besides_1 : decode cX8_besides 1 = .ok (.istore_n 2, 1) := by decide +kernel
theorem dX8_besides_2 : decode cX8_besides 2 = .ok (.iconst 0, 1) := by decide +kernel
theorem dX8_besides_3 : decode cX8_besides 3 = .ok (.istore_n 3, 1) := by decide +kernel
theorem dX8_besides_4 : decode cX8_besides 4 = .ok (.iload_n 3, 1) := by decide +kernel
theorem dX8_besides_5 : decode cX8_besides 5 = .ok (.aload_n 0, 1) := by decide +kernel
theorem dX8_besides_6 : decode cX8_besides 6 = .ok (.getfield 7, 3) := by decide +kernel
theorem dX8_besides_9 : decode cX8_besides 9 = .ok (.iconst 0, 1) := by decide +kernel
theorem dX8_besides_10 : decode cX8_besides 10 = .ok (.iaload, 1) := by decide +kernel
theorem dX8_besides_11 : decode cX8_besides 11 = .ok (.if_icmp .ge 33, 3) := by decide +kernel
theorem dX8_besides_14 : decode cX8_besides 14 = .ok (.iload_n 2, 1) := by decide +kernel
theorem dX8_besides_15 : decode cX8_besides 15 = .ok (.iload_n 1, 1) := by decide +kernel
theorem dX8_besides_16 : decode cX8_besides 16 = .ok (.iload_n 3, 1) := by decide +kernel
theorem dX8_besides_17 : decode cX8_besides 17 = .ok (.invokestatic 102, 3) := by decide +kernel
theorem dX8_besides_20 : decode cX8_besides 20 = .ok (.ifCond .eq 15, 3) := by decide +kernel
theorem dX8_besides_23 : decode cX8_besides 23 = .ok (.aload_n 0, 1) := by decide +kernel
theorem dX8_besides_24 : decode cX8_besides 24 = .ok (.getfield 7, 3) := by decide +kernel
theorem dX8_besides_27 : decode cX8_besides 27 = .ok (.bipush 35, 2) := by decide +kernel
theorem dX8_besides_29 : decode cX8_besides 29 = .ok (.iload_n 3, 1) := by decide +kernel
theorem dX8_besides_30 : decode cX8_besides 30 = .ok (.iadd, 1) := by decide +kernel
theorem dX8_besides_31 : decode cX8_besides 31 = .ok (.iaload, 1) := by decide +kernel
theorem dX8_besides_32 : decode cX8_besides 32 = .ok (.goto 4, 3) := by decide +kernel
theorem dX8_besides_35 : decode cX8_besides 35 = .ok (.iconst 0, 1) := by decide +kernel
theorem dX8_besides_36 : decode cX8_besides 36 = .ok (.ior, 1) := by decide +kernel
theorem dX8_besides_37 : decode cX8_besides 37 = .ok (.istore_n 2, 1) := by decide +kernel
theorem dX8_besides_38 : decode cX8_besides 38 = .ok (.iinc 3 1, 3) := by decide +kernel
theorem dX8_besides_41 : decode cX8_besides 41 = .ok (.goto (-37), 3) := by decide +kernel
theorem dX8_besides_44 : decode cX8_besides 44 = .ok (.iload_n 2, 1) := by decide +kernel
theorem dX8_besides_45 : decode cX8_besides 45 = .ok (.ireturn, 1) := by decide +kernel
theorem dX8_fabricOf_0 : decode cX8_fabricOf 0 = .ok (.iconst 1, 1) := by decide +kernel
theorem dX8_fabricOf_1 : decode cX8_fabricOf 1 = .ok (.iload_n 1, 1) := by decide +kernel
theorem dX8_fabricOf_2 : decode cX8_fabricOf 2 = .ok (.ishl, 1) := by decide +kernel
theorem dX8_fabricOf_3 : decode cX8_fabricOf 3 = .ok (.istore_n 2, 1) := by decide +kernel
theorem dX8_fabricOf_4 : decode cX8_fabricOf 4 = .ok (.iconst 0, 1) := by decide +kernel
theorem dX8_fabricOf_5 : decode cX8_fabricOf 5 = .ok (.istore_n 3, 1) := by decide +kernel
theorem dX8_fabricOf_6 : decode cX8_fabricOf 6 = .ok (.iload_n 3, 1) := by decide +kernel
theorem dX8_fabricOf_7 : decode cX8_fabricOf 7 = .ok (.bipush 6, 2) := by decide +kernel
theorem dX8_fabricOf_9 : decode cX8_fabricOf 9 = .ok (.if_icmp .ge 15, 3) := by decide +kernel
theorem dX8_fabricOf_12 : decode cX8_fabricOf 12 = .ok (.aload_n 0, 1) := by decide +kernel
theorem dX8_fabricOf_13 : decode cX8_fabricOf 13 = .ok (.iload_n 2, 1) := by decide +kernel
theorem dX8_fabricOf_14 : decode cX8_fabricOf 14 = .ok (.invokevirtual 105, 3) := by decide +kernel
theorem dX8_fabricOf_17 : decode cX8_fabricOf 17 = .ok (.istore_n 2, 1) := by decide +kernel
theorem dX8_fabricOf_18 : decode cX8_fabricOf 18 = .ok (.iinc 3 1, 3) := by decide +kernel
theorem dX8_fabricOf_21 : decode cX8_fabricOf 21 = .ok (.goto (-15), 3) := by decide +kernel
theorem dX8_fabricOf_24 : decode cX8_fabricOf 24 = .ok (.iload_n 2, 1) := by decide +kernel
theorem dX8_fabricOf_25 : decode cX8_fabricOf 25 = .ok (.ireturn, 1) := by decide +kernel
theorem dX8_isLowest_0 : decode cX8_isLowest 0 = .ok (.aload_n 0, 1) := by decide +kernel
theorem dX8_isLowest_1 : decode cX8_isLowest 1 = .ok (.iload_n 1, 1) := by decide +kernel
theorem dX8_isLowest_2 : decode cX8_isLowest 2 = .ok (.invokevirtual 109, 3) := by decide +kernel
theorem dX8_isLowest_5 : decode cX8_isLowest 5 = .ok (.iconst 1, 1) := by decide +kernel
theorem dX8_isLowest_6 : decode cX8_isLowest 6 = .ok (.iload_n 1, 1) := by decide +kernel
theorem dX8_isLowest_7 : decode cX8_isLowest 7 = .ok (.ishl, 1) := by decide +kernel
theorem dX8_isLowest_8 : decode cX8_isLowest 8 = .ok (.iconst 1, 1) := by decide +kernel
theorem dX8_isLowest_9 : decode cX8_isLowest 9 = .ok (.isub, 1) := by decide +kernel
theorem dX8_isLowest_10 : decode cX8_isLowest 10 = .ok (.iand, 1) := by decide +kernel
theorem dX8_isLowest_11 : decode cX8_isLowest 11 = .ok (.ifCond .ne 7, 3) := by decide +kernel
theorem dX8_isLowest_14 : decode cX8_isLowest 14 = .ok (.iconst 1, 1) := by decide +kernel
theorem dX8_isLowest_15 : decode cX8_isLowest 15 = .ok (.goto 4, 3) := by decide +kernel
theorem dX8_isLowest_18 : decode cX8_isLowest 18 = .ok (.iconst 0, 1) := by decide +kernel
theorem dX8_isLowest_19 : decode cX8_isLowest 19 = .ok (.ireturn, 1) := by decide +kernel
theorem dX8_fabrics_0 : decode cX8_fabrics 0 = .ok (.iconst 0, 1) := by decide +kernel
theorem dX8_fabrics_1 : decode cX8_fabrics 1 = .ok (.istore_n 1, 1) := by decide +kernel
theorem dX8_fabrics_2 : decode cX8_fabrics 2 = .ok (.iconst 0, 1) := by decide +kernel
theorem dX8_fabrics_3 : decode cX8_fabrics 3 = .ok (.istore_n 2, 1) := by decide +kernel
theorem dX8_fabrics_4 : decode cX8_fabrics 4 = .ok (.iload_n 2, 1) := by decide +kernel
theorem dX8_fabrics_5 : decode cX8_fabrics 5 = .ok (.aload_n 0, 1) := by decide +kernel
theorem dX8_fabrics_6 : decode cX8_fabrics 6 = .ok (.getfield 7, 3) := by decide +kernel
theorem dX8_fabrics_9 : decode cX8_fabrics 9 = .ok (.iconst 0, 1) := by decide +kernel
theorem dX8_fabrics_10 : decode cX8_fabrics 10 = .ok (.iaload, 1) := by decide +kernel
theorem dX8_fabrics_11 : decode cX8_fabrics 11 = .ok (.if_icmp .ge 25, 3) := by decide +kernel
theorem dX8_fabrics_14 : decode cX8_fabrics 14 = .ok (.iload_n 1, 1) := by decide +kernel
theorem dX8_fabrics_15 : decode cX8_fabrics 15 = .ok (.aload_n 0, 1) := by decide +kernel
theorem dX8_fabrics_16 : decode cX8_fabrics 16 = .ok (.iload_n 2, 1) := by decide +kernel
theorem dX8_fabrics_17 : decode cX8_fabrics 17 = .ok (.invokevirtual 112, 3) := by decide +kernel
theorem dX8_fabrics_20 : decode cX8_fabrics 20 = .ok (.ifCond .eq 7, 3) := by decide +kernel
theorem dX8_fabrics_23 : decode cX8_fabrics 23 = .ok (.iconst 1, 1) := by decide +kernel
theorem dX8_fabrics_24 : decode cX8_fabrics 24 = .ok (.goto 4, 3) := by decide +kernel
theorem dX8_fabrics_27 : decode cX8_fabrics 27 = .ok (.iconst 0, 1) := by decide +kernel
theorem dX8_fabrics_28 : decode cX8_fabrics 28 = .ok (.iadd, 1) := by decide +kernel
theorem dX8_fabrics_29 : decode cX8_fabrics 29 = .ok (.istore_n 1, 1) := by decide +kernel
theorem dX8_fabrics_30 : decode cX8_fabrics 30 = .ok (.iinc 2 1, 3) := by decide +kernel
theorem dX8_fabrics_33 : decode cX8_fabrics 33 = .ok (.goto (-29), 3) := by decide +kernel
theorem dX8_fabrics_36 : decode cX8_fabrics 36 = .ok (.iload_n 1, 1) := by decide +kernel
theorem dX8_fabrics_37 : decode cX8_fabrics 37 = .ok (.ireturn, 1) := by decide +kernel
theorem dX8_principalOf_0 : decode cX8_principalOf 0 = .ok (.bipush (-9), 2) := by decide +kernel
theorem dX8_principalOf_2 : decode cX8_principalOf 2 = .ok (.istore_n 2, 1) := by decide +kernel
theorem dX8_principalOf_3 : decode cX8_principalOf 3 = .ok (.iconst 0, 1) := by decide +kernel
theorem dX8_principalOf_4 : decode cX8_principalOf 4 = .ok (.istore_n 3, 1) := by decide +kernel
theorem dX8_principalOf_5 : decode cX8_principalOf 5 = .ok (.iload_n 3, 1) := by decide +kernel
theorem dX8_principalOf_6 : decode cX8_principalOf 6 = .ok (.aload_n 0, 1) := by decide +kernel
theorem dX8_principalOf_7 : decode cX8_principalOf 7 = .ok (.getfield 7, 3) := by decide +kernel
theorem dX8_principalOf_10 : decode cX8_principalOf 10 = .ok (.iconst 0, 1) := by decide +kernel
theorem dX8_principalOf_11 : decode cX8_principalOf 11 = .ok (.iaload, 1) := by decide +kernel
theorem dX8_principalOf_12 : decode cX8_principalOf 12 = .ok (.if_icmp .ge 68, 3) := by decide +kernel
theorem dX8_principalOf_15 : decode cX8_principalOf 15 = .ok (.iload_n 1, 1) := by decide +kernel
theorem dX8_principalOf_16 : decode cX8_principalOf 16 = .ok (.iload_n 3, 1) := by decide +kernel
theorem dX8_principalOf_17 : decode cX8_principalOf 17 = .ok (.invokestatic 102, 3) := by decide +kernel
theorem dX8_principalOf_20 : decode cX8_principalOf 20 = .ok (.ifCond .eq 54, 3) := by decide +kernel
theorem dX8_principalOf_23 : decode cX8_principalOf 23 = .ok (.bipush 100, 2) := by decide +kernel
theorem dX8_principalOf_25 : decode cX8_principalOf 25 = .ok (.aload_n 0, 1) := by decide +kernel
theorem dX8_principalOf_26 : decode cX8_principalOf 26 = .ok (.iload_n 3, 1) := by decide +kernel
theorem dX8_principalOf_27 : decode cX8_principalOf 27 = .ok (.iconst 0, 1) := by decide +kernel
theorem dX8_principalOf_28 : decode cX8_principalOf 28 = .ok (.invokevirtual 115, 3) := by decide +kernel
theorem dX8_principalOf_31 : decode cX8_principalOf 31 = .ok (.imul, 1) := by decide +kernel
theorem dX8_principalOf_32 : decode cX8_principalOf 32 = .ok (.aload_n 0, 1) := by decide +kernel
theorem dX8_principalOf_33 : decode cX8_principalOf 33 = .ok (.iload_n 3, 1) := by decide +kernel
theorem dX8_principalOf_34 : decode cX8_principalOf 34 = .ok (.iconst 1, 1) := by decide +kernel
theorem dX8_principalOf_35 : decode cX8_principalOf 35 = .ok (.invokevirtual 115, 3) := by decide +kernel
theorem dX8_principalOf_38 : decode cX8_principalOf 38 = .ok (.iadd, 1) := by decide +kernel
theorem dX8_principalOf_39 : decode cX8_principalOf 39 = .ok (.istore 4, 2) := by decide +kernel
theorem dX8_principalOf_41 : decode cX8_principalOf 41 = .ok (.iload_n 2, 1) := by decide +kernel
theorem dX8_principalOf_42 : decode cX8_principalOf 42 = .ok (.bipush (-9), 2) := by decide +kernel
theorem dX8_principalOf_44 : decode cX8_principalOf 44 = .ok (.if_icmp .eq 24, 3) := by decide +kernel
theorem dX8_principalOf_47 : decode cX8_principalOf 47 = .ok (.iload 4, 2) := by decide +kernel
theorem dX8_principalOf_49 : decode cX8_principalOf 49 = .ok (.bipush 100, 2) := by decide +kernel
theorem dX8_principalOf_51 : decode cX8_principalOf 51 = .ok (.aload_n 0, 1) := by decide +kernel
theorem dX8_principalOf_52 : decode cX8_principalOf 52 = .ok (.iload_n 2, 1) := by decide +kernel
theorem dX8_principalOf_53 : decode cX8_principalOf 53 = .ok (.iconst 0, 1) := by decide +kernel
theorem dX8_principalOf_54 : decode cX8_principalOf 54 = .ok (.invokevirtual 115, 3) := by decide +kernel
theorem dX8_principalOf_57 : decode cX8_principalOf 57 = .ok (.imul, 1) := by decide +kernel
theorem dX8_principalOf_58 : decode cX8_principalOf 58 = .ok (.aload_n 0, 1) := by decide +kernel
theorem dX8_principalOf_59 : decode cX8_principalOf 59 = .ok (.iload_n 2, 1) := by decide +kernel
theorem dX8_principalOf_60 : decode cX8_principalOf 60 = .ok (.iconst 1, 1) := by decide +kernel
theorem dX8_principalOf_61 : decode cX8_principalOf 61 = .ok (.invokevirtual 115, 3) := by decide +kernel
theorem dX8_principalOf_64 : decode cX8_principalOf 64 = .ok (.iadd, 1) := by decide +kernel
theorem dX8_principalOf_65 : decode cX8_principalOf 65 = .ok (.if_icmp .ge 7, 3) := by decide +kernel
theorem dX8_principalOf_68 : decode cX8_principalOf 68 = .ok (.iload_n 3, 1) := by decide +kernel
theorem dX8_principalOf_69 : decode cX8_principalOf 69 = .ok (.goto 4, 3) := by decide +kernel
theorem dX8_principalOf_72 : decode cX8_principalOf 72 = .ok (.iload_n 2, 1) := by decide +kernel
theorem dX8_principalOf_73 : decode cX8_principalOf 73 = .ok (.istore_n 2, 1) := by decide +kernel
theorem dX8_principalOf_74 : decode cX8_principalOf 74 = .ok (.iinc 3 1, 3) := by decide +kernel
theorem dX8_principalOf_77 : decode cX8_principalOf 77 = .ok (.goto (-72), 3) := by decide +kernel
theorem dX8_principalOf_80 : decode cX8_principalOf 80 = .ok (.iload_n 2, 1) := by decide +kernel
theorem dX8_principalOf_81 : decode cX8_principalOf 81 = .ok (.ireturn, 1) := by decide +kernel
theorem dX8_farOf_0 : decode cX8_farOf 0 = .ok (.iconst 1, 1) := by decide +kernel
theorem dX8_farOf_1 : decode cX8_farOf 1 = .ok (.aload_n 0, 1) := by decide +kernel
theorem dX8_farOf_2 : decode cX8_farOf 2 = .ok (.aload_n 0, 1) := by decide +kernel
theorem dX8_farOf_3 : decode cX8_farOf 3 = .ok (.iload_n 1, 1) := by decide +kernel
theorem dX8_farOf_4 : decode cX8_farOf 4 = .ok (.invokevirtual 109, 3) := by decide +kernel
theorem dX8_farOf_7 : decode cX8_farOf 7 = .ok (.invokevirtual 119, 3) := by decide +kernel
theorem dX8_farOf_10 : decode cX8_farOf 10 = .ok (.ishl, 1) := by decide +kernel
theorem dX8_farOf_11 : decode cX8_farOf 11 = .ok (.istore_n 2, 1) := by decide +kernel
theorem dX8_farOf_12 : decode cX8_farOf 12 = .ok (.iconst 0, 1) := by decide +kernel
theorem dX8_farOf_13 : decode cX8_farOf 13 = .ok (.istore_n 3, 1) := by decide +kernel
theorem dX8_farOf_14 : decode cX8_farOf 14 = .ok (.iload_n 2, 1) := by decide +kernel
theorem dX8_farOf_15 : decode cX8_farOf 15 = .ok (.iload_n 1, 1) := by decide +kernel
theorem dX8_farOf_16 : decode cX8_farOf 16 = .ok (.invokestatic 102, 3) := by decide +kernel
theorem dX8_farOf_19 : decode cX8_farOf 19 = .ok (.ifCond .ne 15, 3) := by decide +kernel
theorem dX8_farOf_22 : decode cX8_farOf 22 = .ok (.aload_n 0, 1) := by decide +kernel
theorem dX8_farOf_23 : decode cX8_farOf 23 = .ok (.iload_n 2, 1) := by decide +kernel
theorem dX8_farOf_24 : decode cX8_farOf 24 = .ok (.invokevirtual 105, 3) := by decide +kernel
theorem dX8_farOf_27 : decode cX8_farOf 27 = .ok (.istore_n 2, 1) := by decide +kernel
theorem dX8_farOf_28 : decode cX8_farOf 28 = .ok (.iinc 3 1, 3) := by decide +kernel
theorem dX8_farOf_31 : decode cX8_farOf 31 = .ok (.goto (-17), 3) := by decide +kernel
theorem dX8_farOf_34 : decode cX8_farOf 34 = .ok (.iload_n 3, 1) := by decide +kernel
theorem dX8_farOf_35 : decode cX8_farOf 35 = .ok (.ireturn, 1) := by decide +kernel
theorem dX8_handOut_0 : decode cX8_handOut 0 = .ok (.iconst 0, 1) := by decide +kernel
theorem dX8_handOut_1 : decode cX8_handOut 1 = .ok (.istore_n 2, 1) := by decide +kernel
theorem dX8_handOut_2 : decode cX8_handOut 2 = .ok (.iload_n 1, 1) := by decide +kernel
theorem dX8_handOut_3 : decode cX8_handOut 3 = .ok (.istore_n 3, 1) := by decide +kernel
theorem dX8_handOut_4 : decode cX8_handOut 4 = .ok (.iconst 0, 1) := by decide +kernel
theorem dX8_handOut_5 : decode cX8_handOut 5 = .ok (.istore 4, 2) := by decide +kernel
theorem dX8_handOut_7 : decode cX8_handOut 7 = .ok (.iload_n 3, 1) := by decide +kernel
theorem dX8_handOut_8 : decode cX8_handOut 8 = .ok (.ifCond .eq 190, 3) := by decide +kernel
theorem dX8_handOut_11 : decode cX8_handOut 11 = .ok (.bipush (-9), 2) := by decide +kernel
theorem dX8_handOut_13 : decode cX8_handOut 13 = .ok (.istore 5, 2) := by decide +kernel
theorem dX8_handOut_15 : decode cX8_handOut 15 = .ok (.iconst 0, 1) := by decide +kernel
theorem dX8_handOut_16 : decode cX8_handOut 16 = .ok (.istore 6, 2) := by decide +kernel
theorem dX8_handOut_18 : decode cX8_handOut 18 = .ok (.iload 6, 2) := by decide +kernel
theorem dX8_handOut_20 : decode cX8_handOut 20 = .ok (.aload_n 0, 1) := by decide +kernel
theorem dX8_handOut_21 : decode cX8_handOut 21 = .ok (.getfield 7, 3) := by decide +kernel
theorem dX8_handOut_24 : decode cX8_handOut 24 = .ok (.iconst 0, 1) := by decide +kernel
theorem dX8_handOut_25 : decode cX8_handOut 25 = .ok (.iaload, 1) := by decide +kernel
theorem dX8_handOut_26 : decode cX8_handOut 26 = .ok (.if_icmp .ge 75, 3) := by decide +kernel
theorem dX8_handOut_29 : decode cX8_handOut 29 = .ok (.iload_n 3, 1) := by decide +kernel
theorem dX8_handOut_30 : decode cX8_handOut 30 = .ok (.iload 6, 2) := by decide +kernel
theorem dX8_handOut_32 : decode cX8_handOut 32 = .ok (.invokestatic 102, 3) := by decide +kernel
theorem dX8_handOut_35 : decode cX8_handOut 35 = .ok (.ifCond .eq 60, 3) := by decide +kernel
theorem dX8_handOut_38 : decode cX8_handOut 38 = .ok (.bipush 100, 2) := by decide +kernel
theorem dX8_handOut_40 : decode cX8_handOut 40 = .ok (.aload_n 0, 1) := by decide +kernel
theorem dX8_handOut_41 : decode cX8_handOut 41 = .ok (.iload 6, 2) := by decide +kernel
theorem dX8_handOut_43 : decode cX8_handOut 43 = .ok (.invokevirtual 122, 3) := by decide +kernel
theorem dX8_handOut_46 : decode cX8_handOut 46 = .ok (.imul, 1) := by decide +kernel
theorem dX8_handOut_47 : decode cX8_handOut 47 = .ok (.aload_n 0, 1) := by decide +kernel
theorem dX8_handOut_48 : decode cX8_handOut 48 = .ok (.iload 6, 2) := by decide +kernel
theorem dX8_handOut_50 : decode cX8_handOut 50 = .ok (.iconst 1, 1) := by decide +kernel
theorem dX8_handOut_51 : decode cX8_handOut 51 = .ok (.invokevirtual 115, 3) := by decide +kernel
theorem dX8_handOut_54 : decode cX8_handOut 54 = .ok (.iadd, 1) := by decide +kernel
theorem dX8_handOut_55 : decode cX8_handOut 55 = .ok (.istore 7, 2) := by decide +kernel
theorem dX8_handOut_57 : decode cX8_handOut 57 = .ok (.iload 5, 2) := by decide +kernel
theorem dX8_handOut_59 : decode cX8_handOut 59 = .ok (.bipush (-9), 2) := by decide +kernel
theorem dX8_handOut_61 : decode cX8_handOut 61 = .ok (.if_icmp .eq 25, 3) := by decide +kernel
theorem dX8_handOut_64 : decode cX8_handOut 64 = .ok (.iload 7, 2) := by decide +kernel
theorem dX8_handOut_66 : decode cX8_handOut 66 = .ok (.bipush 100, 2) := by decide +kernel
theorem dX8_handOut_68 : decode cX8_handOut 68 = .ok (.aload_n 0, 1) := by decide +kernel
theorem dX8_handOut_69 : decode cX8_handOut 69 = .ok (.iload 5, 2) := by decide +kernel
theorem dX8_handOut_71 : decode cX8_handOut 71 = .ok (.invokevirtual 122, 3) := by decide +kernel
theorem dX8_handOut_74 : decode cX8_handOut 74 = .ok (.imul, 1) := by decide +kernel
theorem dX8_handOut_75 : decode cX8_handOut 75 = .ok (.aload_n 0, 1) := by decide +kernel
theorem dX8_handOut_76 : decode cX8_handOut 76 = .ok (.iload 5, 2) := by decide +kernel
theorem dX8_handOut_78 : decode cX8_handOut 78 = .ok (.iconst 1, 1) := by decide +kernel
theorem dX8_handOut_79 : decode cX8_handOut 79 = .ok (.invokevirtual 115, 3) := by decide +kernel
theorem dX8_handOut_82 : decode cX8_handOut 82 = .ok (.iadd, 1) := by decide +kernel
theorem dX8_handOut_83 : decode cX8_handOut 83 = .ok (.if_icmp .ge 8, 3) := by decide +kernel
theorem dX8_handOut_86 : decode cX8_handOut 86 = .ok (.iload 6, 2) := by decide +kernel
theorem dX8_handOut_88 : decode cX8_handOut 88 = .ok (.goto 5, 3) := by decide +kernel
theorem dX8_handOut_91 : decode cX8_handOut 91 = .ok (.iload 5, 2) := by decide +kernel
theorem dX8_handOut_93 : decode cX8_handOut 93 = .ok (.istore 5, 2) := by decide +kernel
theorem dX8_handOut_95 : decode cX8_handOut 95 = .ok (.iinc 6 1, 3) := by decide +kernel
theorem dX8_handOut_98 : decode cX8_handOut 98 = .ok (.goto (-80), 3) := by decide +kernel
theorem dX8_handOut_101 : decode cX8_handOut 101 = .ok (.aload_n 0, 1) := by decide +kernel
theorem dX8_handOut_102 : decode cX8_handOut 102 = .ok (.iload 5, 2) := by decide +kernel
theorem dX8_handOut_104 : decode cX8_handOut 104 = .ok (.iconst 2, 1) := by decide +kernel
theorem dX8_handOut_105 : decode cX8_handOut 105 = .ok (.invokevirtual 115, 3) := by decide +kernel
theorem dX8_handOut_108 : decode cX8_handOut 108 = .ok (.istore 6, 2) := by decide +kernel
theorem dX8_handOut_110 : decode cX8_handOut 110 = .ok (.iload 6, 2) := by decide +kernel
theorem dX8_handOut_112 : decode cX8_handOut 112 = .ok (.ifCond .eq 12, 3) := by decide +kernel
theorem dX8_handOut_115 : decode cX8_handOut 115 = .ok (.iload_n 2, 1) := by decide +kernel
theorem dX8_handOut_116 : decode cX8_handOut 116 = .ok (.iload 6, 2) := by decide +kernel
theorem dX8_handOut_118 : decode cX8_handOut 118 = .ok (.invokestatic 102, 3) := by decide +kernel
theorem dX8_handOut_121 : decode cX8_handOut 121 = .ok (.ifCond .eq 21, 3) := by decide +kernel
theorem dX8_handOut_124 : decode cX8_handOut 124 = .ok (.iconst 1, 1) := by decide +kernel
theorem dX8_handOut_125 : decode cX8_handOut 125 = .ok (.istore 6, 2) := by decide +kernel
theorem dX8_handOut_127 : decode cX8_handOut 127 = .ok (.iload_n 2, 1) := by decide +kernel
theorem dX8_handOut_128 : decode cX8_handOut 128 = .ok (.iload 6, 2) := by decide +kernel
theorem dX8_handOut_130 : decode cX8_handOut 130 = .ok (.invokestatic 102, 3) := by decide +kernel
theorem dX8_handOut_133 : decode cX8_handOut 133 = .ok (.ifCond .eq 9, 3) := by decide +kernel
theorem dX8_handOut_136 : decode cX8_handOut 136 = .ok (.iinc 6 1, 3) := by decide +kernel
theorem dX8_handOut_139 : decode cX8_handOut 139 = .ok (.goto (-12), 3) := by decide +kernel
theorem dX8_handOut_142 : decode cX8_handOut 142 = .ok (.iload 4, 2) := by decide +kernel
theorem dX8_handOut_144 : decode cX8_handOut 144 = .ok (.iload 6, 2) := by decide +kernel
theorem dX8_handOut_146 : decode cX8_handOut 146 = .ok (.aload_n 0, 1) := by decide +kernel
theorem dX8_handOut_147 : decode cX8_handOut 147 = .ok (.iload 5, 2) := by decide +kernel
theorem dX8_handOut_149 : decode cX8_handOut 149 = .ok (.iconst 3, 1) := by decide +kernel
theorem dX8_handOut_150 : decode cX8_handOut 150 = .ok (.invokevirtual 115, 3) := by decide +kernel
theorem dX8_handOut_153 : decode cX8_handOut 153 = .ok (.if_icmp .ne 7, 3) := by decide +kernel
theorem dX8_handOut_156 : decode cX8_handOut 156 = .ok (.iconst 0, 1) := by decide +kernel
theorem dX8_handOut_157 : decode cX8_handOut 157 = .ok (.goto 4, 3) := by decide +kernel
theorem dX8_handOut_160 : decode cX8_handOut 160 = .ok (.iconst 1, 1) := by decide +kernel
theorem dX8_handOut_161 : decode cX8_handOut 161 = .ok (.iadd, 1) := by decide +kernel
theorem dX8_handOut_162 : decode cX8_handOut 162 = .ok (.istore 4, 2) := by decide +kernel
theorem dX8_handOut_164 : decode cX8_handOut 164 = .ok (.aload_n 0, 1) := by decide +kernel
theorem dX8_handOut_165 : decode cX8_handOut 165 = .ok (.getfield 7, 3) := by decide +kernel
theorem dX8_handOut_168 : decode cX8_handOut 168 = .ok (.iconst 3, 1) := by decide +kernel
theorem dX8_handOut_169 : decode cX8_handOut 169 = .ok (.iconst 4, 1) := by decide +kernel
theorem dX8_handOut_170 : decode cX8_handOut 170 = .ok (.iload 5, 2) := by decide +kernel
theorem dX8_handOut_172 : decode cX8_handOut 172 = .ok (.imul, 1) := by decide +kernel
theorem dX8_handOut_173 : decode cX8_handOut 173 = .ok (.iadd, 1) := by decide +kernel
theorem dX8_handOut_174 : decode cX8_handOut 174 = .ok (.iconst 3, 1) := by decide +kernel
theorem dX8_handOut_175 : decode cX8_handOut 175 = .ok (.iadd, 1) := by decide +kernel
theorem dX8_handOut_176 : decode cX8_handOut 176 = .ok (.iload 6, 2) := by decide +kernel
theorem dX8_handOut_178 : decode cX8_handOut 178 = .ok (.iastore, 1) := by decide +kernel
theorem dX8_handOut_179 : decode cX8_handOut 179 = .ok (.iload_n 2, 1) := by decide +kernel
theorem dX8_handOut_180 : decode cX8_handOut 180 = .ok (.iconst 1, 1) := by decide +kernel
theorem dX8_handOut_181 : decode cX8_handOut 181 = .ok (.iload 6, 2) := by decide +kernel
theorem dX8_handOut_183 : decode cX8_handOut 183 = .ok (.ishl, 1) := by decide +kernel
theorem dX8_handOut_184 : decode cX8_handOut 184 = .ok (.ior, 1) := by decide +kernel
theorem dX8_handOut_185 : decode cX8_handOut 185 = .ok (.istore_n 2, 1) := by decide +kernel
theorem dX8_handOut_186 : decode cX8_handOut 186 = .ok (.iload_n 3, 1) := by decide +kernel
theorem dX8_handOut_187 : decode cX8_handOut 187 = .ok (.iconst 1, 1) := by decide +kernel
theorem dX8_handOut_188 : decode cX8_handOut 188 = .ok (.iload 5, 2) := by decide +kernel
theorem dX8_handOut_190 : decode cX8_handOut 190 = .ok (.ishl, 1) := by decide +kernel
theorem dX8_handOut_191 : decode cX8_handOut 191 = .ok (.iconst (-1), 1) := by decide +kernel
theorem dX8_handOut_192 : decode cX8_handOut 192 = .ok (.ixor, 1) := by decide +kernel
theorem dX8_handOut_193 : decode cX8_handOut 193 = .ok (.iand, 1) := by decide +kernel
theorem dX8_handOut_194 : decode cX8_handOut 194 = .ok (.istore_n 3, 1) := by decide +kernel
theorem dX8_handOut_195 : decode cX8_handOut 195 = .ok (.goto (-188), 3) := by decide +kernel
theorem dX8_handOut_198 : decode cX8_handOut 198 = .ok (.iload 4, 2) := by decide +kernel
theorem dX8_handOut_200 : decode cX8_handOut 200 = .ok (.ireturn, 1) := by decide +kernel
theorem dX8_zoneOf_0 : decode cX8_zoneOf 0 = .ok (.aload_n 0, 1) := by decide +kernel
theorem dX8_zoneOf_1 : decode cX8_zoneOf 1 = .ok (.getfield 7, 3) := by decide +kernel
theorem dX8_zoneOf_4 : decode cX8_zoneOf 4 = .ok (.bipush 47, 2) := by decide +kernel
theorem dX8_zoneOf_6 : decode cX8_zoneOf 6 = .ok (.iconst 4, 1) := by decide +kernel
theorem dX8_zoneOf_7 : decode cX8_zoneOf 7 = .ok (.iload_n 1, 1) := by decide +kernel
theorem dX8_zoneOf_8 : decode cX8_zoneOf 8 = .ok (.imul, 1) := by decide +kernel
theorem dX8_zoneOf_9 : decode cX8_zoneOf 9 = .ok (.iadd, 1) := by decide +kernel
theorem dX8_zoneOf_10 : decode cX8_zoneOf 10 = .ok (.iload_n 2, 1) := by decide +kernel
theorem dX8_zoneOf_11 : decode cX8_zoneOf 11 = .ok (.iadd, 1) := by decide +kernel
theorem dX8_zoneOf_12 : decode cX8_zoneOf 12 = .ok (.iaload, 1) := by decide +kernel
theorem dX8_zoneOf_13 : decode cX8_zoneOf 13 = .ok (.ireturn, 1) := by decide +kernel
theorem dX8_doZonesClash_0 : decode cX8_doZonesClash 0 = .ok (.iconst 0, 1) := by decide +kernel
theorem dX8_doZonesClash_1 : decode cX8_doZonesClash 1 = .ok (.istore_n 3, 1) := by decide +kernel
theorem dX8_doZonesClash_2 : decode cX8_doZonesClash 2 = .ok (.iconst 0, 1) := by decide +kernel
theorem dX8_doZonesClash_3 : decode cX8_doZonesClash 3 = .ok (.istore 4, 2) := by decide +kernel
theorem dX8_doZonesClash_5 : decode cX8_doZonesClash 5 = .ok (.iload 4, 2) := by decide +kernel
theorem dX8_doZonesClash_7 : decode cX8_doZonesClash 7 = .ok (.iconst 4, 1) := by decide +kernel
theorem dX8_doZonesClash_8 : decode cX8_doZonesClash 8 = .ok (.if_icmp .ge 56, 3) := by decide +kernel
theorem dX8_doZonesClash_11 : decode cX8_doZonesClash 11 = .ok (.iload_n 3, 1) := by decide +kernel
theorem dX8_doZonesClash_12 : decode cX8_doZonesClash 12 = .ok (.ifCond .ne 40, 3) := by decide +kernel
theorem dX8_doZonesClash_15 : decode cX8_doZonesClash 15 = .ok (.aload_n 0, 1) := by decide +kernel
theorem dX8_doZonesClash_16 : decode cX8_doZonesClash 16 = .ok (.iload_n 1, 1) := by decide +kernel
theorem dX8_doZonesClash_17 : decode cX8_doZonesClash 17 = .ok (.iload 4, 2) := by decide +kernel
theorem dX8_doZonesClash_19 : decode cX8_doZonesClash 19 = .ok (.invokevirtual 125, 3) := by decide +kernel
theorem dX8_doZonesClash_22 : decode cX8_doZonesClash 22 = .ok (.ifCond .eq 34, 3) := by decide +kernel
theorem dX8_doZonesClash_25 : decode cX8_doZonesClash 25 = .ok (.aload_n 0, 1) := by decide +kernel
theorem dX8_doZonesClash_26 : decode cX8_doZonesClash 26 = .ok (.iload_n 2, 1) := by decide +kernel
theorem dX8_doZonesClash_27 : decode cX8_doZonesClash 27 = .ok (.iload 4, 2) := by decide +kernel
theorem dX8_doZonesClash_29 : decode cX8_doZonesClash 29 = .ok (.invokevirtual 125, 3) := by decide +kernel
theorem dX8_doZonesClash_32 : decode cX8_doZonesClash 32 = .ok (.ifCond .eq 24, 3) := by decide +kernel
theorem dX8_doZonesClash_35 : decode cX8_doZonesClash 35 = .ok (.aload_n 0, 1) := by decide +kernel
theorem dX8_doZonesClash_36 : decode cX8_doZonesClash 36 = .ok (.iload_n 1, 1) := by decide +kernel
theorem dX8_doZonesClash_37 : decode cX8_doZonesClash 37 = .ok (.iload 4, 2) := by decide +kernel
theorem dX8_doZonesClash_39 : decode cX8_doZonesClash 39 = .ok (.invokevirtual 125, 3) := by decide +kernel
theorem dX8_doZonesClash_42 : decode cX8_doZonesClash 42 = .ok (.aload_n 0, 1) := by decide +kernel
theorem dX8_doZonesClash_43 : decode cX8_doZonesClash 43 = .ok (.iload_n 2, 1) := by decide +kernel
theorem dX8_doZonesClash_44 : decode cX8_doZonesClash 44 = .ok (.iload 4, 2) := by decide +kernel
theorem dX8_doZonesClash_46 : decode cX8_doZonesClash 46 = .ok (.invokevirtual 125, 3) := by decide +kernel
theorem dX8_doZonesClash_49 : decode cX8_doZonesClash 49 = .ok (.if_icmp .eq 7, 3) := by decide +kernel
theorem dX8_doZonesClash_52 : decode cX8_doZonesClash 52 = .ok (.iconst 1, 1) := by decide +kernel
theorem dX8_doZonesClash_53 : decode cX8_doZonesClash 53 = .ok (.goto 4, 3) := by decide +kernel
theorem dX8_doZonesClash_56 : decode cX8_doZonesClash 56 = .ok (.iconst 0, 1) := by decide +kernel
theorem dX8_doZonesClash_57 : decode cX8_doZonesClash 57 = .ok (.istore_n 3, 1) := by decide +kernel
theorem dX8_doZonesClash_58 : decode cX8_doZonesClash 58 = .ok (.iinc 4 1, 3) := by decide +kernel
theorem dX8_doZonesClash_61 : decode cX8_doZonesClash 61 = .ok (.goto (-56), 3) := by decide +kernel
theorem dX8_doZonesClash_64 : decode cX8_doZonesClash 64 = .ok (.iload_n 3, 1) := by decide +kernel
theorem dX8_doZonesClash_65 : decode cX8_doZonesClash 65 = .ok (.ireturn, 1) := by decide +kernel
theorem dX8_blocksOf_0 : decode cX8_blocksOf 0 = .ok (.iconst 0, 1) := by decide +kernel
theorem dX8_blocksOf_1 : decode cX8_blocksOf 1 = .ok (.istore_n 2, 1) := by decide +kernel
theorem dX8_blocksOf_2 : decode cX8_blocksOf 2 = .ok (.iconst 0, 1) := by decide +kernel
theorem dX8_blocksOf_3 : decode cX8_blocksOf 3 = .ok (.istore_n 3, 1) := by decide +kernel
theorem dX8_blocksOf_4 : decode cX8_blocksOf 4 = .ok (.iload_n 3, 1) := by decide +kernel
theorem dX8_blocksOf_5 : decode cX8_blocksOf 5 = .ok (.aload_n 0, 1) := by decide +kernel
theorem dX8_blocksOf_6 : decode cX8_blocksOf 6 = .ok (.getfield 7, 3) := by decide +kernel
theorem dX8_blocksOf_9 : decode cX8_blocksOf 9 = .ok (.iconst 0, 1) := by decide +kernel
theorem dX8_blocksOf_10 : decode cX8_blocksOf 10 = .ok (.iaload, 1) := by decide +kernel
theorem dX8_blocksOf_11 : decode cX8_blocksOf 11 = .ok (.if_icmp .ge 32, 3) := by decide +kernel
theorem dX8_blocksOf_14 : decode cX8_blocksOf 14 = .ok (.iload_n 2, 1) := by decide +kernel
theorem dX8_blocksOf_15 : decode cX8_blocksOf 15 = .ok (.iload_n 1, 1) := by decide +kernel
theorem dX8_blocksOf_16 : decode cX8_blocksOf 16 = .ok (.iload_n 3, 1) := by decide +kernel
theorem dX8_blocksOf_17 : decode cX8_blocksOf 17 = .ok (.invokestatic 102, 3) := by decide +kernel
theorem dX8_blocksOf_20 : decode cX8_blocksOf 20 = .ok (.ifCond .eq 14, 3) := by decide +kernel
theorem dX8_blocksOf_23 : decode cX8_blocksOf 23 = .ok (.iconst 1, 1) := by decide +kernel
theorem dX8_blocksOf_24 : decode cX8_blocksOf 24 = .ok (.aload_n 0, 1) := by decide +kernel
theorem dX8_blocksOf_25 : decode cX8_blocksOf 25 = .ok (.iload_n 3, 1) := by decide +kernel
theorem dX8_blocksOf_26 : decode cX8_blocksOf 26 = .ok (.iconst 3, 1) := by decide +kernel
theorem dX8_blocksOf_27 : decode cX8_blocksOf 27 = .ok (.invokevirtual 115, 3) := by decide +kernel
theorem dX8_blocksOf_30 : decode cX8_blocksOf 30 = .ok (.ishl, 1) := by decide +kernel
theorem dX8_blocksOf_31 : decode cX8_blocksOf 31 = .ok (.goto 4, 3) := by decide +kernel
theorem dX8_blocksOf_34 : decode cX8_blocksOf 34 = .ok (.iconst 0, 1) := by decide +kernel
theorem dX8_blocksOf_35 : decode cX8_blocksOf 35 = .ok (.ior, 1) := by decide +kernel
theorem dX8_blocksOf_36 : decode cX8_blocksOf 36 = .ok (.istore_n 2, 1) := by decide +kernel
theorem dX8_blocksOf_37 : decode cX8_blocksOf 37 = .ok (.iinc 3 1, 3) := by decide +kernel
theorem dX8_blocksOf_40 : decode cX8_blocksOf 40 = .ok (.goto (-36), 3) := by decide +kernel
theorem dX8_blocksOf_43 : decode cX8_blocksOf 43 = .ok (.iload_n 2, 1) := by decide +kernel
theorem dX8_blocksOf_44 : decode cX8_blocksOf 44 = .ok (.ireturn, 1) := by decide +kernel
theorem dX8_doBlocksClash_0 : decode cX8_doBlocksClash 0 = .ok (.aload_n 0, 1) := by decide +kernel
theorem dX8_doBlocksClash_1 : decode cX8_doBlocksClash 1 = .ok (.aload_n 0, 1) := by decide +kernel
theorem dX8_doBlocksClash_2 : decode cX8_doBlocksClash 2 = .ok (.iload_n 1, 1) := by decide +kernel
theorem dX8_doBlocksClash_3 : decode cX8_doBlocksClash 3 = .ok (.invokevirtual 109, 3) := by decide +kernel
theorem dX8_doBlocksClash_6 : decode cX8_doBlocksClash 6 = .ok (.invokevirtual 128, 3) := by decide +kernel
theorem dX8_doBlocksClash_9 : decode cX8_doBlocksClash 9 = .ok (.aload_n 0, 1) := by decide +kernel
theorem dX8_doBlocksClash_10 : decode cX8_doBlocksClash 10 = .ok (.aload_n 0, 1) := by decide +kernel
theorem dX8_doBlocksClash_11 : decode cX8_doBlocksClash 11 = .ok (.iload_n 2, 1) := by decide +kernel
theorem dX8_doBlocksClash_12 : decode cX8_doBlocksClash 12 = .ok (.invokevirtual 109, 3) := by decide +kernel
theorem dX8_doBlocksClash_15 : decode cX8_doBlocksClash 15 = .ok (.invokevirtual 128, 3) := by decide +kernel
theorem dX8_doBlocksClash_18 : decode cX8_doBlocksClash 18 = .ok (.iand, 1) := by decide +kernel
theorem dX8_doBlocksClash_19 : decode cX8_doBlocksClash 19 = .ok (.ifCond .eq 7, 3) := by decide +kernel
theorem dX8_doBlocksClash_22 : decode cX8_doBlocksClash 22 = .ok (.iconst 1, 1) := by decide +kernel
theorem dX8_doBlocksClash_23 : decode cX8_doBlocksClash 23 = .ok (.goto 4, 3) := by decide +kernel
theorem dX8_doBlocksClash_26 : decode cX8_doBlocksClash 26 = .ok (.iconst 0, 1) := by decide +kernel
theorem dX8_doBlocksClash_27 : decode cX8_doBlocksClash 27 = .ok (.ireturn, 1) := by decide +kernel
theorem dX8_isUp_0 : decode cX8_isUp 0 = .ok (.aload_n 0, 1) := by decide +kernel
theorem dX8_isUp_1 : decode cX8_isUp 1 = .ok (.getfield 7, 3) := by decide +kernel
theorem dX8_isUp_4 : decode cX8_isUp 4 = .ok (.bipush 35, 2) := by decide +kernel
theorem dX8_isUp_6 : decode cX8_isUp 6 = .ok (.iload_n 1, 1) := by decide +kernel
theorem dX8_isUp_7 : decode cX8_isUp 7 = .ok (.iadd, 1) := by decide +kernel
theorem dX8_isUp_8 : decode cX8_isUp 8 = .ok (.iaload, 1) := by decide +kernel
theorem dX8_isUp_9 : decode cX8_isUp 9 = .ok (.iload_n 2, 1) := by decide +kernel
theorem dX8_isUp_10 : decode cX8_isUp 10 = .ok (.invokestatic 102, 3) := by decide +kernel
theorem dX8_isUp_13 : decode cX8_isUp 13 = .ok (.ireturn, 1) := by decide +kernel
theorem dX8_putLink_0 : decode cX8_putLink 0 = .ok (.aload_n 0, 1) := by decide +kernel
theorem dX8_putLink_1 : decode cX8_putLink 1 = .ok (.getfield 7, 3) := by decide +kernel
theorem dX8_putLink_4 : decode cX8_putLink 4 = .ok (.bipush 35, 2) := by decide +kernel
theorem dX8_putLink_6 : decode cX8_putLink 6 = .ok (.iload_n 1, 1) := by decide +kernel
theorem dX8_putLink_7 : decode cX8_putLink 7 = .ok (.iadd, 1) := by decide +kernel
theorem dX8_putLink_8 : decode cX8_putLink 8 = .ok (.aload_n 0, 1) := by decide +kernel
theorem dX8_putLink_9 : decode cX8_putLink 9 = .ok (.getfield 7, 3) := by decide +kernel
theorem dX8_putLink_12 : decode cX8_putLink 12 = .ok (.bipush 35, 2) := by decide +kernel
theorem dX8_putLink_14 : decode cX8_putLink 14 = .ok (.iload_n 1, 1) := by decide +kernel
theorem dX8_putLink_15 : decode cX8_putLink 15 = .ok (.iadd, 1) := by decide +kernel
theorem dX8_putLink_16 : decode cX8_putLink 16 = .ok (.iaload, 1) := by decide +kernel
theorem dX8_putLink_17 : decode cX8_putLink 17 = .ok (.iconst 1, 1) := by decide +kernel
theorem dX8_putLink_18 : decode cX8_putLink 18 = .ok (.iload_n 2, 1) := by decide +kernel
theorem dX8_putLink_19 : decode cX8_putLink 19 = .ok (.ishl, 1) := by decide +kernel
theorem dX8_putLink_20 : decode cX8_putLink 20 = .ok (.iconst (-1), 1) := by decide +kernel
theorem dX8_putLink_21 : decode cX8_putLink 21 = .ok (.ixor, 1) := by decide +kernel
theorem dX8_putLink_22 : decode cX8_putLink 22 = .ok (.iand, 1) := by decide +kernel
theorem dX8_putLink_23 : decode cX8_putLink 23 = .ok (.iload_n 3, 1) := by decide +kernel
theorem dX8_putLink_24 : decode cX8_putLink 24 = .ok (.iload_n 2, 1) := by decide +kernel
theorem dX8_putLink_25 : decode cX8_putLink 25 = .ok (.ishl, 1) := by decide +kernel
theorem dX8_putLink_26 : decode cX8_putLink 26 = .ok (.ior, 1) := by decide +kernel
theorem dX8_putLink_27 : decode cX8_putLink 27 = .ok (.iastore, 1) := by decide +kernel
theorem dX8_putLink_28 : decode cX8_putLink 28 = .ok (.aload_n 0, 1) := by decide +kernel
theorem dX8_putLink_29 : decode cX8_putLink 29 = .ok (.getfield 7, 3) := by decide +kernel
theorem dX8_putLink_32 : decode cX8_putLink 32 = .ok (.bipush 35, 2) := by decide +kernel
theorem dX8_putLink_34 : decode cX8_putLink 34 = .ok (.iload_n 2, 1) := by decide +kernel
theorem dX8_putLink_35 : decode cX8_putLink 35 = .ok (.iadd, 1) := by decide +kernel
theorem dX8_putLink_36 : decode cX8_putLink 36 = .ok (.aload_n 0, 1) := by decide +kernel
theorem dX8_putLink_37 : decode cX8_putLink 37 = .ok (.getfield 7, 3) := by decide +kernel
theorem dX8_putLink_40 : decode cX8_putLink 40 = .ok (.bipush 35, 2) := by decide +kernel
theorem dX8_putLink_42 : decode cX8_putLink 42 = .ok (.iload_n 2, 1) := by decide +kernel
theorem dX8_putLink_43 : decode cX8_putLink 43 = .ok (.iadd, 1) := by decide +kernel
theorem dX8_putLink_44 : decode cX8_putLink 44 = .ok (.iaload, 1) := by decide +kernel
theorem dX8_putLink_45 : decode cX8_putLink 45 = .ok (.iconst 1, 1) := by decide +kernel
theorem dX8_putLink_46 : decode cX8_putLink 46 = .ok (.iload_n 1, 1) := by decide +kernel
theorem dX8_putLink_47 : decode cX8_putLink 47 = .ok (.ishl, 1) := by decide +kernel
theorem dX8_putLink_48 : decode cX8_putLink 48 = .ok (.iconst (-1), 1) := by decide +kernel
theorem dX8_putLink_49 : decode cX8_putLink 49 = .ok (.ixor, 1) := by decide +kernel
theorem dX8_putLink_50 : decode cX8_putLink 50 = .ok (.iand, 1) := by decide +kernel
theorem dX8_putLink_51 : decode cX8_putLink 51 = .ok (.iload_n 3, 1) := by decide +kernel
theorem dX8_putLink_52 : decode cX8_putLink 52 = .ok (.iload_n 1, 1) := by decide +kernel
theorem dX8_putLink_53 : decode cX8_putLink 53 = .ok (.ishl, 1) := by decide +kernel
theorem dX8_putLink_54 : decode cX8_putLink 54 = .ok (.ior, 1) := by decide +kernel
theorem dX8_putLink_55 : decode cX8_putLink 55 = .ok (.iastore, 1) := by decide +kernel
theorem dX8_putLink_56 : decode cX8_putLink 56 = .ok (.aload_n 0, 1) := by decide +kernel
theorem dX8_putLink_57 : decode cX8_putLink 57 = .ok (.getfield 7, 3) := by decide +kernel
theorem dX8_putLink_60 : decode cX8_putLink 60 = .ok (.bipush 41, 2) := by decide +kernel
theorem dX8_putLink_62 : decode cX8_putLink 62 = .ok (.iload_n 1, 1) := by decide +kernel
theorem dX8_putLink_63 : decode cX8_putLink 63 = .ok (.iadd, 1) := by decide +kernel
theorem dX8_putLink_64 : decode cX8_putLink 64 = .ok (.aload_n 0, 1) := by decide +kernel
theorem dX8_putLink_65 : decode cX8_putLink 65 = .ok (.getfield 7, 3) := by decide +kernel
theorem dX8_putLink_68 : decode cX8_putLink 68 = .ok (.bipush 41, 2) := by decide +kernel
theorem dX8_putLink_70 : decode cX8_putLink 70 = .ok (.iload_n 1, 1) := by decide +kernel
theorem dX8_putLink_71 : decode cX8_putLink 71 = .ok (.iadd, 1) := by decide +kernel
theorem dX8_putLink_72 : decode cX8_putLink 72 = .ok (.iaload, 1) := by decide +kernel
theorem dX8_putLink_73 : decode cX8_putLink 73 = .ok (.iconst 1, 1) := by decide +kernel
theorem dX8_putLink_74 : decode cX8_putLink 74 = .ok (.iload_n 2, 1) := by decide +kernel
theorem dX8_putLink_75 : decode cX8_putLink 75 = .ok (.ishl, 1) := by decide +kernel
theorem dX8_putLink_76 : decode cX8_putLink 76 = .ok (.iconst (-1), 1) := by decide +kernel
theorem dX8_putLink_77 : decode cX8_putLink 77 = .ok (.ixor, 1) := by decide +kernel
theorem dX8_putLink_78 : decode cX8_putLink 78 = .ok (.iand, 1) := by decide +kernel
theorem dX8_putLink_79 : decode cX8_putLink 79 = .ok (.iload 4, 2) := by decide +kernel
theorem dX8_putLink_81 : decode cX8_putLink 81 = .ok (.iload_n 2, 1) := by decide +kernel
theorem dX8_putLink_82 : decode cX8_putLink 82 = .ok (.ishl, 1) := by decide +kernel
theorem dX8_putLink_83 : decode cX8_putLink 83 = .ok (.ior, 1) := by decide +kernel
theorem dX8_putLink_84 : decode cX8_putLink 84 = .ok (.iastore, 1) := by decide +kernel
theorem dX8_putLink_85 : decode cX8_putLink 85 = .ok (.aload_n 0, 1) := by decide +kernel
theorem dX8_putLink_86 : decode cX8_putLink 86 = .ok (.getfield 7, 3) := by decide +kernel
theorem dX8_putLink_89 : decode cX8_putLink 89 = .ok (.bipush 41, 2) := by decide +kernel
theorem dX8_putLink_91 : decode cX8_putLink 91 = .ok (.iload_n 2, 1) := by decide +kernel
theorem dX8_putLink_92 : decode cX8_putLink 92 = .ok (.iadd, 1) := by decide +kernel
theorem dX8_putLink_93 : decode cX8_putLink 93 = .ok (.aload_n 0, 1) := by decide +kernel
theorem dX8_putLink_94 : decode cX8_putLink 94 = .ok (.getfield 7, 3) := by decide +kernel
theorem dX8_putLink_97 : decode cX8_putLink 97 = .ok (.bipush 41, 2) := by decide +kernel
theorem dX8_putLink_99 : decode cX8_putLink 99 = .ok (.iload_n 2, 1) := by decide +kernel
theorem dX8_putLink_100 : decode cX8_putLink 100 = .ok (.iadd, 1) := by decide +kernel
theorem dX8_putLink_101 : decode cX8_putLink 101 = .ok (.iaload, 1) := by decide +kernel
theorem dX8_putLink_102 : decode cX8_putLink 102 = .ok (.iconst 1, 1) := by decide +kernel
theorem dX8_putLink_103 : decode cX8_putLink 103 = .ok (.iload_n 1, 1) := by decide +kernel
theorem dX8_putLink_104 : decode cX8_putLink 104 = .ok (.ishl, 1) := by decide +kernel
theorem dX8_putLink_105 : decode cX8_putLink 105 = .ok (.iconst (-1), 1) := by decide +kernel
theorem dX8_putLink_106 : decode cX8_putLink 106 = .ok (.ixor, 1) := by decide +kernel
theorem dX8_putLink_107 : decode cX8_putLink 107 = .ok (.iand, 1) := by decide +kernel
theorem dX8_putLink_108 : decode cX8_putLink 108 = .ok (.iload 4, 2) := by decide +kernel
theorem dX8_putLink_110 : decode cX8_putLink 110 = .ok (.iload_n 1, 1) := by decide +kernel
theorem dX8_putLink_111 : decode cX8_putLink 111 = .ok (.ishl, 1) := by decide +kernel
theorem dX8_putLink_112 : decode cX8_putLink 112 = .ok (.ior, 1) := by decide +kernel
theorem dX8_putLink_113 : decode cX8_putLink 113 = .ok (.iastore, 1) := by decide +kernel
theorem dX8_putLink_114 : decode cX8_putLink 114 = .ok (.return_, 1) := by decide +kernel
theorem dX8_zonesOf_0 : decode cX8_zonesOf 0 = .ok (.iconst 0, 1) := by decide +kernel
theorem dX8_zonesOf_1 : decode cX8_zonesOf 1 = .ok (.istore_n 2, 1) := by decide +kernel
theorem dX8_zonesOf_2 : decode cX8_zonesOf 2 = .ok (.iconst 0, 1) := by decide +kernel
theorem dX8_zonesOf_3 : decode cX8_zonesOf 3 = .ok (.istore_n 3, 1) := by decide +kernel
theorem dX8_zonesOf_4 : decode cX8_zonesOf 4 = .ok (.iload_n 3, 1) := by decide +kernel
theorem dX8_zonesOf_5 : decode cX8_zonesOf 5 = .ok (.iconst 4, 1) := by decide +kernel
theorem dX8_zonesOf_6 : decode cX8_zonesOf 6 = .ok (.if_icmp .ge 18, 3) := by decide +kernel
theorem dX8_zonesOf_9 : decode cX8_zonesOf 9 = .ok (.iload_n 2, 1) := by decide +kernel
theorem dX8_zonesOf_10 : decode cX8_zonesOf 10 = .ok (.aload_n 0, 1) := by decide +kernel
theorem dX8_zonesOf_11 : decode cX8_zonesOf 11 = .ok (.iload_n 1, 1) := by decide +kernel
theorem dX8_zonesOf_12 : decode cX8_zonesOf 12 = .ok (.iload_n 3, 1) := by decide +kernel
theorem dX8_zonesOf_13 : decode cX8_zonesOf 13 = .ok (.invokevirtual 125, 3) := by decide +kernel
theorem dX8_zonesOf_16 : decode cX8_zonesOf 16 = .ok (.ior, 1) := by decide +kernel
theorem dX8_zonesOf_17 : decode cX8_zonesOf 17 = .ok (.istore_n 2, 1) := by decide +kernel
theorem dX8_zonesOf_18 : decode cX8_zonesOf 18 = .ok (.iinc 3 1, 3) := by decide +kernel
theorem dX8_zonesOf_21 : decode cX8_zonesOf 21 = .ok (.goto (-17), 3) := by decide +kernel
theorem dX8_zonesOf_24 : decode cX8_zonesOf 24 = .ok (.iload_n 2, 1) := by decide +kernel
theorem dX8_zonesOf_25 : decode cX8_zonesOf 25 = .ok (.ireturn, 1) := by decide +kernel
theorem dX8_areInOne_0 : decode cX8_areInOne 0 = .ok (.aload_n 0, 1) := by decide +kernel
theorem dX8_areInOne_1 : decode cX8_areInOne 1 = .ok (.iload_n 1, 1) := by decide +kernel
theorem dX8_areInOne_2 : decode cX8_areInOne 2 = .ok (.invokevirtual 131, 3) := by decide +kernel
theorem dX8_areInOne_5 : decode cX8_areInOne 5 = .ok (.ifCond .ne 7, 3) := by decide +kernel
theorem dX8_areInOne_8 : decode cX8_areInOne 8 = .ok (.iconst 1, 1) := by decide +kernel
theorem dX8_areInOne_9 : decode cX8_areInOne 9 = .ok (.goto 4, 3) := by decide +kernel
theorem dX8_areInOne_12 : decode cX8_areInOne 12 = .ok (.iconst 0, 1) := by decide +kernel
theorem dX8_areInOne_13 : decode cX8_areInOne 13 = .ok (.istore 4, 2) := by decide +kernel
theorem dX8_areInOne_15 : decode cX8_areInOne 15 = .ok (.iconst 0, 1) := by decide +kernel
theorem dX8_areInOne_16 : decode cX8_areInOne 16 = .ok (.istore 5, 2) := by decide +kernel
theorem dX8_areInOne_18 : decode cX8_areInOne 18 = .ok (.iload 5, 2) := by decide +kernel
theorem dX8_areInOne_20 : decode cX8_areInOne 20 = .ok (.iconst 4, 1) := by decide +kernel
theorem dX8_areInOne_21 : decode cX8_areInOne 21 = .ok (.if_icmp .ge 49, 3) := by decide +kernel
theorem dX8_areInOne_24 : decode cX8_areInOne 24 = .ok (.iload 4, 2) := by decide +kernel
theorem dX8_areInOne_26 : decode cX8_areInOne 26 = .ok (.ifCond .ne 31, 3) := by decide +kernel
theorem dX8_areInOne_29 : decode cX8_areInOne 29 = .ok (.aload_n 0, 1) := by decide +kernel
theorem dX8_areInOne_30 : decode cX8_areInOne 30 = .ok (.iload_n 1, 1) := by decide +kernel
theorem dX8_areInOne_31 : decode cX8_areInOne 31 = .ok (.iload 5, 2) := by decide +kernel
theorem dX8_areInOne_33 : decode cX8_areInOne 33 = .ok (.invokevirtual 125, 3) := by decide +kernel
theorem dX8_areInOne_36 : decode cX8_areInOne 36 = .ok (.iload_n 2, 1) := by decide +kernel
theorem dX8_areInOne_37 : decode cX8_areInOne 37 = .ok (.invokestatic 102, 3) := by decide +kernel
theorem dX8_areInOne_40 : decode cX8_areInOne 40 = .ok (.ifCond .eq 21, 3) := by decide +kernel
theorem dX8_areInOne_43 : decode cX8_areInOne 43 = .ok (.aload_n 0, 1) := by decide +kernel
theorem dX8_areInOne_44 : decode cX8_areInOne 44 = .ok (.iload_n 1, 1) := by decide +kernel
theorem dX8_areInOne_45 : decode cX8_areInOne 45 = .ok (.iload 5, 2) := by decide +kernel
theorem dX8_areInOne_47 : decode cX8_areInOne 47 = .ok (.invokevirtual 125, 3) := by decide +kernel
theorem dX8_areInOne_50 : decode cX8_areInOne 50 = .ok (.iload_n 3, 1) := by decide +kernel
theorem dX8_areInOne_51 : decode cX8_areInOne 51 = .ok (.invokestatic 102, 3) := by decide +kernel
theorem dX8_areInOne_54 : decode cX8_areInOne 54 = .ok (.ifCond .eq 7, 3) := by decide +kernel
theorem dX8_areInOne_57 : decode cX8_areInOne 57 = .ok (.iconst 1, 1) := by decide +kernel
theorem dX8_areInOne_58 : decode cX8_areInOne 58 = .ok (.goto 4, 3) := by decide +kernel
theorem dX8_areInOne_61 : decode cX8_areInOne 61 = .ok (.iconst 0, 1) := by decide +kernel
theorem dX8_areInOne_62 : decode cX8_areInOne 62 = .ok (.istore 4, 2) := by decide +kernel
theorem dX8_areInOne_64 : decode cX8_areInOne 64 = .ok (.iinc 5 1, 3) := by decide +kernel
theorem dX8_areInOne_67 : decode cX8_areInOne 67 = .ok (.goto (-49), 3) := by decide +kernel
theorem dX8_areInOne_70 : decode cX8_areInOne 70 = .ok (.iload 4, 2) := by decide +kernel
theorem dX8_areInOne_72 : decode cX8_areInOne 72 = .ok (.ireturn, 1) := by decide +kernel
theorem dX8_doesSee_0 : decode cX8_doesSee 0 = .ok (.aload_n 0, 1) := by decide +kernel
theorem dX8_doesSee_1 : decode cX8_doesSee 1 = .ok (.getfield 7, 3) := by decide +kernel
theorem dX8_doesSee_4 : decode cX8_doesSee 4 = .ok (.bipush 27, 2) := by decide +kernel
theorem dX8_doesSee_6 : decode cX8_doesSee 6 = .ok (.iload_n 1, 1) := by decide +kernel
theorem dX8_doesSee_7 : decode cX8_doesSee 7 = .ok (.iadd, 1) := by decide +kernel
theorem dX8_doesSee_8 : decode cX8_doesSee 8 = .ok (.iaload, 1) := by decide +kernel
theorem dX8_doesSee_9 : decode cX8_doesSee 9 = .ok (.istore_n 3, 1) := by decide +kernel
theorem dX8_doesSee_10 : decode cX8_doesSee 10 = .ok (.aload_n 0, 1) := by decide +kernel
theorem dX8_doesSee_11 : decode cX8_doesSee 11 = .ok (.getfield 7, 3) := by decide +kernel
theorem dX8_doesSee_14 : decode cX8_doesSee 14 = .ok (.bipush 27, 2) := by decide +kernel
theorem dX8_doesSee_16 : decode cX8_doesSee 16 = .ok (.iload_n 2, 1) := by decide +kernel
theorem dX8_doesSee_17 : decode cX8_doesSee 17 = .ok (.iadd, 1) := by decide +kernel
theorem dX8_doesSee_18 : decode cX8_doesSee 18 = .ok (.iaload, 1) := by decide +kernel
theorem dX8_doesSee_19 : decode cX8_doesSee 19 = .ok (.istore 4, 2) := by decide +kernel
theorem dX8_doesSee_21 : decode cX8_doesSee 21 = .ok (.iload_n 1, 1) := by decide +kernel
theorem dX8_doesSee_22 : decode cX8_doesSee 22 = .ok (.iload_n 2, 1) := by decide +kernel
theorem dX8_doesSee_23 : decode cX8_doesSee 23 = .ok (.if_icmp .eq 43, 3) := by decide +kernel
theorem dX8_doesSee_26 : decode cX8_doesSee 26 = .ok (.iload_n 3, 1) := by decide +kernel
end
section
theorem dX8_doesSee_27 : decode cX8_doesSee 27 = .ok (.bipush (-9), 2) := by decide +kernel
theorem dX8_doesSee_29 : decode cX8_doesSee 29 = .ok (.if_icmp .eq 37, 3) := by decide +kernel
theorem dX8_doesSee_32 : decode cX8_doesSee 32 = .ok (.iload 4, 2) := by decide +kernel
theorem dX8_doesSee_34 : decode cX8_doesSee 34 = .ok (.bipush (-9), 2) := by decide +kernel
theorem dX8_doesSee_36 : decode cX8_doesSee 36 = .ok (.if_icmp .eq 30, 3) := by decide +kernel
theorem dX8_doesSee_39 : decode cX8_doesSee 39 = .ok (.aload_n 0, 1) := by decide +kernel
theorem dX8_doesSee_40 : decode cX8_doesSee 40 = .ok (.iload_n 3, 1) := by decide +kernel
theorem dX8_doesSee_41 : decode cX8_doesSee 41 = .ok (.invokevirtual 109, 3) := by decide +kernel
theorem dX8_doesSee_44 : decode cX8_doesSee 44 = .ok (.iload 4, 2) := by decide +kernel
theorem dX8_doesSee_46 : decode cX8_doesSee 46 = .ok (.invokestatic 102, 3) := by decide +kernel
theorem dX8_doesSee_49 : decode cX8_doesSee 49 = .ok (.ifCond .eq 17, 3) := by decide +kernel
theorem dX8_doesSee_52 : decode cX8_doesSee 52 = .ok (.aload_n 0, 1) := by decide +kernel
theorem dX8_doesSee_53 : decode cX8_doesSee 53 = .ok (.iload_n 3, 1) := by decide +kernel
theorem dX8_doesSee_54 : decode cX8_doesSee 54 = .ok (.iload_n 1, 1) := by decide +kernel
theorem dX8_doesSee_55 : decode cX8_doesSee 55 = .ok (.iload_n 2, 1) := by decide +kernel
theorem dX8_doesSee_56 : decode cX8_doesSee 56 = .ok (.invokevirtual 134, 3) := by decide +kernel
theorem dX8_doesSee_59 : decode cX8_doesSee 59 = .ok (.ifCond .eq 7, 3) := by decide +kernel
theorem dX8_doesSee_62 : decode cX8_doesSee 62 = .ok (.iconst 1, 1) := by decide +kernel
theorem dX8_doesSee_63 : decode cX8_doesSee 63 = .ok (.goto 4, 3) := by decide +kernel
theorem dX8_doesSee_66 : decode cX8_doesSee 66 = .ok (.iconst 0, 1) := by decide +kernel
theorem dX8_doesSee_67 : decode cX8_doesSee 67 = .ok (.ireturn, 1) := by decide +kernel
theorem dX8_seesOf_0 : decode cX8_seesOf 0 = .ok (.iconst 0, 1) := by decide +kernel
theorem dX8_seesOf_1 : decode cX8_seesOf 1 = .ok (.istore_n 2, 1) := by decide +kernel
theorem dX8_seesOf_2 : decode cX8_seesOf 2 = .ok (.iconst 0, 1) := by decide +kernel
theorem dX8_seesOf_3 : decode cX8_seesOf 3 = .ok (.istore_n 3, 1) := by decide +kernel
theorem dX8_seesOf_4 : decode cX8_seesOf 4 = .ok (.iload_n 3, 1) := by decide +kernel
theorem dX8_seesOf_5 : decode cX8_seesOf 5 = .ok (.aload_n 0, 1) := by decide +kernel
theorem dX8_seesOf_6 : decode cX8_seesOf 6 = .ok (.getfield 7, 3) := by decide +kernel
theorem dX8_seesOf_9 : decode cX8_seesOf 9 = .ok (.iconst 1, 1) := by decide +kernel
theorem dX8_seesOf_10 : decode cX8_seesOf 10 = .ok (.iaload, 1) := by decide +kernel
theorem dX8_seesOf_11 : decode cX8_seesOf 11 = .ok (.if_icmp .ge 28, 3) := by decide +kernel
theorem dX8_seesOf_14 : decode cX8_seesOf 14 = .ok (.iload_n 2, 1) := by decide +kernel
theorem dX8_seesOf_15 : decode cX8_seesOf 15 = .ok (.aload_n 0, 1) := by decide +kernel
theorem dX8_seesOf_16 : decode cX8_seesOf 16 = .ok (.iload_n 1, 1) := by decide +kernel
theorem dX8_seesOf_17 : decode cX8_seesOf 17 = .ok (.iload_n 3, 1) := by decide +kernel
theorem dX8_seesOf_18 : decode cX8_seesOf 18 = .ok (.invokevirtual 137, 3) := by decide +kernel
theorem dX8_seesOf_21 : decode cX8_seesOf 21 = .ok (.ifCond .eq 9, 3) := by decide +kernel
theorem dX8_seesOf_24 : decode cX8_seesOf 24 = .ok (.iconst 1, 1) := by decide +kernel
theorem dX8_seesOf_25 : decode cX8_seesOf 25 = .ok (.iload_n 3, 1) := by decide +kernel
theorem dX8_seesOf_26 : decode cX8_seesOf 26 = .ok (.ishl, 1) := by decide +kernel
theorem dX8_seesOf_27 : decode cX8_seesOf 27 = .ok (.goto 4, 3) := by decide +kernel
theorem dX8_seesOf_30 : decode cX8_seesOf 30 = .ok (.iconst 0, 1) := by decide +kernel
theorem dX8_seesOf_31 : decode cX8_seesOf 31 = .ok (.ior, 1) := by decide +kernel
theorem dX8_seesOf_32 : decode cX8_seesOf 32 = .ok (.istore_n 2, 1) := by decide +kernel
theorem dX8_seesOf_33 : decode cX8_seesOf 33 = .ok (.iinc 3 1, 3) := by decide +kernel
theorem dX8_seesOf_36 : decode cX8_seesOf 36 = .ok (.goto (-32), 3) := by decide +kernel
theorem dX8_seesOf_39 : decode cX8_seesOf 39 = .ok (.iload_n 2, 1) := by decide +kernel
theorem dX8_seesOf_40 : decode cX8_seesOf 40 = .ok (.ireturn, 1) := by decide +kernel
theorem dX8_twos_0 : decode cX8_twos 0 = .ok (.iconst 0, 1) := by decide +kernel
theorem dX8_twos_1 : decode cX8_twos 1 = .ok (.istore_n 1, 1) := by decide +kernel
theorem dX8_twos_2 : decode cX8_twos 2 = .ok (.iconst 0, 1) := by decide +kernel
theorem dX8_twos_3 : decode cX8_twos 3 = .ok (.istore_n 2, 1) := by decide +kernel
theorem dX8_twos_4 : decode cX8_twos 4 = .ok (.iload_n 2, 1) := by decide +kernel
theorem dX8_twos_5 : decode cX8_twos 5 = .ok (.aload_n 0, 1) := by decide +kernel
theorem dX8_twos_6 : decode cX8_twos 6 = .ok (.getfield 7, 3) := by decide +kernel
theorem dX8_twos_9 : decode cX8_twos 9 = .ok (.iconst 1, 1) := by decide +kernel
theorem dX8_twos_10 : decode cX8_twos 10 = .ok (.iaload, 1) := by decide +kernel
theorem dX8_twos_11 : decode cX8_twos 11 = .ok (.if_icmp .ge 20, 3) := by decide +kernel
theorem dX8_twos_14 : decode cX8_twos 14 = .ok (.iload_n 1, 1) := by decide +kernel
theorem dX8_twos_15 : decode cX8_twos 15 = .ok (.aload_n 0, 1) := by decide +kernel
theorem dX8_twos_16 : decode cX8_twos 16 = .ok (.iload_n 2, 1) := by decide +kernel
theorem dX8_twos_17 : decode cX8_twos 17 = .ok (.invokevirtual 140, 3) := by decide +kernel
theorem dX8_twos_20 : decode cX8_twos 20 = .ok (.invokestatic 143, 3) := by decide +kernel
theorem dX8_twos_23 : decode cX8_twos 23 = .ok (.iadd, 1) := by decide +kernel
theorem dX8_twos_24 : decode cX8_twos 24 = .ok (.istore_n 1, 1) := by decide +kernel
theorem dX8_twos_25 : decode cX8_twos 25 = .ok (.iinc 2 1, 3) := by decide +kernel
theorem dX8_twos_28 : decode cX8_twos 28 = .ok (.goto (-24), 3) := by decide +kernel
theorem dX8_twos_31 : decode cX8_twos 31 = .ok (.iload_n 1, 1) := by decide +kernel
theorem dX8_twos_32 : decode cX8_twos 32 = .ok (.iconst 2, 1) := by decide +kernel
theorem dX8_twos_33 : decode cX8_twos 33 = .ok (.idiv, 1) := by decide +kernel
theorem dX8_twos_34 : decode cX8_twos 34 = .ok (.ireturn, 1) := by decide +kernel
theorem dX8_looks_0 : decode cX8_looks 0 = .ok (.iconst 0, 1) := by decide +kernel
theorem dX8_looks_1 : decode cX8_looks 1 = .ok (.istore_n 1, 1) := by decide +kernel
theorem dX8_looks_2 : decode cX8_looks 2 = .ok (.iload_n 1, 1) := by decide +kernel
theorem dX8_looks_3 : decode cX8_looks 3 = .ok (.aload_n 0, 1) := by decide +kernel
theorem dX8_looks_4 : decode cX8_looks 4 = .ok (.getfield 7, 3) := by decide +kernel
theorem dX8_looks_7 : decode cX8_looks 7 = .ok (.iconst 1, 1) := by decide +kernel
theorem dX8_looks_8 : decode cX8_looks 8 = .ok (.iaload, 1) := by decide +kernel
theorem dX8_looks_9 : decode cX8_looks 9 = .ok (.if_icmp .ge 20, 3) := by decide +kernel
theorem dX8_looks_12 : decode cX8_looks 12 = .ok (.aload_n 0, 1) := by decide +kernel
theorem dX8_looks_13 : decode cX8_looks 13 = .ok (.getfield 32, 3) := by decide +kernel
theorem dX8_looks_16 : decode cX8_looks 16 = .ok (.iload_n 1, 1) := by decide +kernel
theorem dX8_looks_17 : decode cX8_looks 17 = .ok (.aload_n 0, 1) := by decide +kernel
theorem dX8_looks_18 : decode cX8_looks 18 = .ok (.iload_n 1, 1) := by decide +kernel
theorem dX8_looks_19 : decode cX8_looks 19 = .ok (.invokevirtual 140, 3) := by decide +kernel
theorem dX8_looks_22 : decode cX8_looks 22 = .ok (.iastore, 1) := by decide +kernel
theorem dX8_looks_23 : decode cX8_looks 23 = .ok (.iinc 1 1, 3) := by decide +kernel
theorem dX8_looks_26 : decode cX8_looks 26 = .ok (.goto (-24), 3) := by decide +kernel
theorem dX8_looks_29 : decode cX8_looks 29 = .ok (.return_, 1) := by decide +kernel
theorem dX8_tellNews_0 : decode cX8_tellNews 0 = .ok (.iconst 0, 1) := by decide +kernel
theorem dX8_tellNews_1 : decode cX8_tellNews 1 = .ok (.istore_n 1, 1) := by decide +kernel
theorem dX8_tellNews_2 : decode cX8_tellNews 2 = .ok (.iload_n 1, 1) := by decide +kernel
theorem dX8_tellNews_3 : decode cX8_tellNews 3 = .ok (.aload_n 0, 1) := by decide +kernel
theorem dX8_tellNews_4 : decode cX8_tellNews 4 = .ok (.getfield 7, 3) := by decide +kernel
theorem dX8_tellNews_7 : decode cX8_tellNews 7 = .ok (.iconst 1, 1) := by decide +kernel
theorem dX8_tellNews_8 : decode cX8_tellNews 8 = .ok (.iaload, 1) := by decide +kernel
theorem dX8_tellNews_9 : decode cX8_tellNews 9 = .ok (.if_icmp .ge 69, 3) := by decide +kernel
theorem dX8_tellNews_12 : decode cX8_tellNews 12 = .ok (.aload_n 0, 1) := by decide +kernel
theorem dX8_tellNews_13 : decode cX8_tellNews 13 = .ok (.getfield 32, 3) := by decide +kernel
theorem dX8_tellNews_16 : decode cX8_tellNews 16 = .ok (.iload_n 1, 1) := by decide +kernel
theorem dX8_tellNews_17 : decode cX8_tellNews 17 = .ok (.iaload, 1) := by decide +kernel
theorem dX8_tellNews_18 : decode cX8_tellNews 18 = .ok (.aload_n 0, 1) := by decide +kernel
theorem dX8_tellNews_19 : decode cX8_tellNews 19 = .ok (.iload_n 1, 1) := by decide +kernel
theorem dX8_tellNews_20 : decode cX8_tellNews 20 = .ok (.invokevirtual 140, 3) := by decide +kernel
theorem dX8_tellNews_23 : decode cX8_tellNews 23 = .ok (.ixor, 1) := by decide +kernel
theorem dX8_tellNews_24 : decode cX8_tellNews 24 = .ok (.istore_n 2, 1) := by decide +kernel
theorem dX8_tellNews_25 : decode cX8_tellNews 25 = .ok (.aload_n 0, 1) := by decide +kernel
theorem dX8_tellNews_26 : decode cX8_tellNews 26 = .ok (.getfield 7, 3) := by decide +kernel
theorem dX8_tellNews_29 : decode cX8_tellNews 29 = .ok (.bipush 71, 2) := by decide +kernel
theorem dX8_tellNews_31 : decode cX8_tellNews 31 = .ok (.iload_n 1, 1) := by decide +kernel
theorem dX8_tellNews_32 : decode cX8_tellNews 32 = .ok (.iadd, 1) := by decide +kernel
theorem dX8_tellNews_33 : decode cX8_tellNews 33 = .ok (.dup2, 1) := by decide +kernel
theorem dX8_tellNews_34 : decode cX8_tellNews 34 = .ok (.iaload, 1) := by decide +kernel
theorem dX8_tellNews_35 : decode cX8_tellNews 35 = .ok (.iload_n 2, 1) := by decide +kernel
theorem dX8_tellNews_36 : decode cX8_tellNews 36 = .ok (.ifCond .ne 7, 3) := by decide +kernel
theorem dX8_tellNews_39 : decode cX8_tellNews 39 = .ok (.iconst 0, 1) := by decide +kernel
theorem dX8_tellNews_40 : decode cX8_tellNews 40 = .ok (.goto 4, 3) := by decide +kernel
theorem dX8_tellNews_43 : decode cX8_tellNews 43 = .ok (.iconst 1, 1) := by decide +kernel
theorem dX8_tellNews_44 : decode cX8_tellNews 44 = .ok (.iadd, 1) := by decide +kernel
theorem dX8_tellNews_45 : decode cX8_tellNews 45 = .ok (.iastore, 1) := by decide +kernel
theorem dX8_tellNews_46 : decode cX8_tellNews 46 = .ok (.aload_n 0, 1) := by decide +kernel
theorem dX8_tellNews_47 : decode cX8_tellNews 47 = .ok (.getfield 7, 3) := by decide +kernel
theorem dX8_tellNews_50 : decode cX8_tellNews 50 = .ok (.bipush 79, 2) := by decide +kernel
theorem dX8_tellNews_52 : decode cX8_tellNews 52 = .ok (.iload_n 1, 1) := by decide +kernel
theorem dX8_tellNews_53 : decode cX8_tellNews 53 = .ok (.iadd, 1) := by decide +kernel
theorem dX8_tellNews_54 : decode cX8_tellNews 54 = .ok (.iload_n 2, 1) := by decide +kernel
theorem dX8_tellNews_55 : decode cX8_tellNews 55 = .ok (.ifCond .ne 15, 3) := by decide +kernel
theorem dX8_tellNews_58 : decode cX8_tellNews 58 = .ok (.aload_n 0, 1) := by decide +kernel
theorem dX8_tellNews_59 : decode cX8_tellNews 59 = .ok (.getfield 7, 3) := by decide +kernel
theorem dX8_tellNews_62 : decode cX8_tellNews 62 = .ok (.bipush 79, 2) := by decide +kernel
theorem dX8_tellNews_64 : decode cX8_tellNews 64 = .ok (.iload_n 1, 1) := by decide +kernel
theorem dX8_tellNews_65 : decode cX8_tellNews 65 = .ok (.iadd, 1) := by decide +kernel
theorem dX8_tellNews_66 : decode cX8_tellNews 66 = .ok (.iaload, 1) := by decide +kernel
theorem dX8_tellNews_67 : decode cX8_tellNews 67 = .ok (.goto 4, 3) := by decide +kernel
theorem dX8_tellNews_70 : decode cX8_tellNews 70 = .ok (.iload_n 2, 1) := by decide +kernel
theorem dX8_tellNews_71 : decode cX8_tellNews 71 = .ok (.iastore, 1) := by decide +kernel
theorem dX8_tellNews_72 : decode cX8_tellNews 72 = .ok (.iinc 1 1, 3) := by decide +kernel
theorem dX8_tellNews_75 : decode cX8_tellNews 75 = .ok (.goto (-73), 3) := by decide +kernel
theorem dX8_tellNews_78 : decode cX8_tellNews 78 = .ok (.return_, 1) := by decide +kernel
theorem dX8_wouldBe_0 : decode cX8_wouldBe 0 = .ok (.aload_n 0, 1) := by decide +kernel
theorem dX8_wouldBe_1 : decode cX8_wouldBe 1 = .ok (.iload_n 1, 1) := by decide +kernel
theorem dX8_wouldBe_2 : decode cX8_wouldBe 2 = .ok (.invokevirtual 109, 3) := by decide +kernel
theorem dX8_wouldBe_5 : decode cX8_wouldBe 5 = .ok (.iload_n 2, 1) := by decide +kernel
theorem dX8_wouldBe_6 : decode cX8_wouldBe 6 = .ok (.invokestatic 102, 3) := by decide +kernel
theorem dX8_wouldBe_9 : decode cX8_wouldBe 9 = .ok (.ifCond .eq 5, 3) := by decide +kernel
theorem dX8_wouldBe_12 : decode cX8_wouldBe 12 = .ok (.iconst 0, 1) := by decide +kernel
theorem dX8_wouldBe_13 : decode cX8_wouldBe 13 = .ok (.ireturn, 1) := by decide +kernel
theorem dX8_wouldBe_14 : decode cX8_wouldBe 14 = .ok (.aload_n 0, 1) := by decide +kernel
theorem dX8_wouldBe_15 : decode cX8_wouldBe 15 = .ok (.iload_n 1, 1) := by decide +kernel
theorem dX8_wouldBe_16 : decode cX8_wouldBe 16 = .ok (.iload_n 2, 1) := by decide +kernel
theorem dX8_wouldBe_17 : decode cX8_wouldBe 17 = .ok (.invokevirtual 146, 3) := by decide +kernel
theorem dX8_wouldBe_20 : decode cX8_wouldBe 20 = .ok (.istore_n 3, 1) := by decide +kernel
theorem dX8_wouldBe_21 : decode cX8_wouldBe 21 = .ok (.aload_n 0, 1) := by decide +kernel
theorem dX8_wouldBe_22 : decode cX8_wouldBe 22 = .ok (.iload_n 1, 1) := by decide +kernel
theorem dX8_wouldBe_23 : decode cX8_wouldBe 23 = .ok (.iload_n 2, 1) := by decide +kernel
theorem dX8_wouldBe_24 : decode cX8_wouldBe 24 = .ok (.invokevirtual 149, 3) := by decide +kernel
theorem dX8_wouldBe_27 : decode cX8_wouldBe 27 = .ok (.istore 4, 2) := by decide +kernel
theorem dX8_wouldBe_29 : decode cX8_wouldBe 29 = .ok (.iload_n 3, 1) := by decide +kernel
theorem dX8_wouldBe_30 : decode cX8_wouldBe 30 = .ok (.ifCond .eq 16, 3) := by decide +kernel
theorem dX8_wouldBe_33 : decode cX8_wouldBe 33 = .ok (.iload 4, 2) := by decide +kernel
theorem dX8_wouldBe_35 : decode cX8_wouldBe 35 = .ok (.ifCond .eq 7, 3) := by decide +kernel
theorem dX8_wouldBe_38 : decode cX8_wouldBe 38 = .ok (.iconst 5, 1) := by decide +kernel
theorem dX8_wouldBe_39 : decode cX8_wouldBe 39 = .ok (.goto 31, 3) := by decide +kernel
theorem dX8_wouldBe_42 : decode cX8_wouldBe 42 = .ok (.iconst 4, 1) := by decide +kernel
theorem dX8_wouldBe_43 : decode cX8_wouldBe 43 = .ok (.goto 27, 3) := by decide +kernel
theorem dX8_wouldBe_46 : decode cX8_wouldBe 46 = .ok (.iload 4, 2) := by decide +kernel
theorem dX8_wouldBe_48 : decode cX8_wouldBe 48 = .ok (.ifCond .ne 7, 3) := by decide +kernel
theorem dX8_wouldBe_51 : decode cX8_wouldBe 51 = .ok (.iconst 1, 1) := by decide +kernel
theorem dX8_wouldBe_52 : decode cX8_wouldBe 52 = .ok (.goto 18, 3) := by decide +kernel
theorem dX8_wouldBe_55 : decode cX8_wouldBe 55 = .ok (.aload_n 0, 1) := by decide +kernel
theorem dX8_wouldBe_56 : decode cX8_wouldBe 56 = .ok (.getfield 7, 3) := by decide +kernel
theorem dX8_wouldBe_59 : decode cX8_wouldBe 59 = .ok (.iconst 2, 1) := by decide +kernel
theorem dX8_wouldBe_60 : decode cX8_wouldBe 60 = .ok (.iaload, 1) := by decide +kernel
theorem dX8_wouldBe_61 : decode cX8_wouldBe 61 = .ok (.iconst 1, 1) := by decide +kernel
theorem dX8_wouldBe_62 : decode cX8_wouldBe 62 = .ok (.if_icmp .ne 7, 3) := by decide +kernel
theorem dX8_wouldBe_65 : decode cX8_wouldBe 65 = .ok (.iconst 2, 1) := by decide +kernel
theorem dX8_wouldBe_66 : decode cX8_wouldBe 66 = .ok (.goto 4, 3) := by decide +kernel
theorem dX8_wouldBe_69 : decode cX8_wouldBe 69 = .ok (.iconst 3, 1) := by decide +kernel
theorem dX8_wouldBe_70 : decode cX8_wouldBe 70 = .ok (.ireturn, 1) := by decide +kernel
theorem dX8_joins_0 : decode cX8_joins 0 = .ok (.aload_n 0, 1) := by decide +kernel
theorem dX8_joins_1 : decode cX8_joins 1 = .ok (.iload_n 1, 1) := by decide +kernel
theorem dX8_joins_2 : decode cX8_joins 2 = .ok (.iload_n 2, 1) := by decide +kernel
theorem dX8_joins_3 : decode cX8_joins 3 = .ok (.invokevirtual 152, 3) := by decide +kernel
theorem dX8_joins_6 : decode cX8_joins 6 = .ok (.ifCond .ne 5, 3) := by decide +kernel
theorem dX8_joins_9 : decode cX8_joins 9 = .ok (.iconst (-1), 1) := by decide +kernel
theorem dX8_joins_10 : decode cX8_joins 10 = .ok (.ireturn, 1) := by decide +kernel
theorem dX8_joins_11 : decode cX8_joins 11 = .ok (.aload_n 0, 1) := by decide +kernel
theorem dX8_joins_12 : decode cX8_joins 12 = .ok (.iload_n 1, 1) := by decide +kernel
theorem dX8_joins_13 : decode cX8_joins 13 = .ok (.iload_n 2, 1) := by decide +kernel
theorem dX8_joins_14 : decode cX8_joins 14 = .ok (.invokevirtual 155, 3) := by decide +kernel
theorem dX8_joins_17 : decode cX8_joins 17 = .ok (.ifCond .eq 6, 3) := by decide +kernel
theorem dX8_joins_20 : decode cX8_joins 20 = .ok (.bipush (-2), 2) := by decide +kernel
theorem dX8_joins_22 : decode cX8_joins 22 = .ok (.ireturn, 1) := by decide +kernel
theorem dX8_joins_23 : decode cX8_joins 23 = .ok (.aload_n 0, 1) := by decide +kernel
theorem dX8_joins_24 : decode cX8_joins 24 = .ok (.invokevirtual 93, 3) := by decide +kernel
theorem dX8_joins_27 : decode cX8_joins 27 = .ok (.aload_n 0, 1) := by decide +kernel
theorem dX8_joins_28 : decode cX8_joins 28 = .ok (.iload_n 1, 1) := by decide +kernel
theorem dX8_joins_29 : decode cX8_joins 29 = .ok (.iload_n 2, 1) := by decide +kernel
theorem dX8_joins_30 : decode cX8_joins 30 = .ok (.invokevirtual 158, 3) := by decide +kernel
theorem dX8_joins_33 : decode cX8_joins 33 = .ok (.istore_n 3, 1) := by decide +kernel
theorem dX8_joins_34 : decode cX8_joins 34 = .ok (.iload_n 3, 1) := by decide +kernel
theorem dX8_joins_35 : decode cX8_joins 35 = .ok (.iconst 2, 1) := by decide +kernel
theorem dX8_joins_36 : decode cX8_joins 36 = .ok (.if_icmp .le 13, 3) := by decide +kernel
theorem dX8_joins_39 : decode cX8_joins 39 = .ok (.aload_n 0, 1) := by decide +kernel
theorem dX8_joins_40 : decode cX8_joins 40 = .ok (.iload_n 1, 1) := by decide +kernel
theorem dX8_joins_41 : decode cX8_joins 41 = .ok (.iload_n 2, 1) := by decide +kernel
theorem dX8_joins_42 : decode cX8_joins 42 = .ok (.iconst 0, 1) := by decide +kernel
theorem dX8_joins_43 : decode cX8_joins 43 = .ok (.iconst 1, 1) := by decide +kernel
theorem dX8_joins_44 : decode cX8_joins 44 = .ok (.invokevirtual 161, 3) := by decide +kernel
theorem dX8_joins_47 : decode cX8_joins 47 = .ok (.iconst 0, 1) := by decide +kernel
theorem dX8_joins_48 : decode cX8_joins 48 = .ok (.ireturn, 1) := by decide +kernel
theorem dX8_joins_49 : decode cX8_joins 49 = .ok (.aload_n 0, 1) := by decide +kernel
theorem dX8_joins_50 : decode cX8_joins 50 = .ok (.invokevirtual 165, 3) := by decide +kernel
theorem dX8_joins_53 : decode cX8_joins 53 = .ok (.aload_n 0, 1) := by decide +kernel
theorem dX8_joins_54 : decode cX8_joins 54 = .ok (.iload_n 1, 1) := by decide +kernel
theorem dX8_joins_55 : decode cX8_joins 55 = .ok (.iload_n 2, 1) := by decide +kernel
theorem dX8_joins_56 : decode cX8_joins 56 = .ok (.iconst 1, 1) := by decide +kernel
theorem dX8_joins_57 : decode cX8_joins 57 = .ok (.iconst 0, 1) := by decide +kernel
theorem dX8_joins_58 : decode cX8_joins 58 = .ok (.invokevirtual 161, 3) := by decide +kernel
theorem dX8_joins_61 : decode cX8_joins 61 = .ok (.iload_n 3, 1) := by decide +kernel
theorem dX8_joins_62 : decode cX8_joins 62 = .ok (.ifCond .le 61, 3) := by decide +kernel
theorem dX8_joins_65 : decode cX8_joins 65 = .ok (.aload_n 0, 1) := by decide +kernel
theorem dX8_joins_66 : decode cX8_joins 66 = .ok (.iload_n 1, 1) := by decide +kernel
theorem dX8_joins_67 : decode cX8_joins 67 = .ok (.invokevirtual 109, 3) := by decide +kernel
theorem dX8_joins_70 : decode cX8_joins 70 = .ok (.istore 4, 2) := by decide +kernel
theorem dX8_joins_72 : decode cX8_joins 72 = .ok (.iconst 0, 1) := by decide +kernel
theorem dX8_joins_73 : decode cX8_joins 73 = .ok (.istore 5, 2) := by decide +kernel
theorem dX8_joins_75 : decode cX8_joins 75 = .ok (.iload 5, 2) := by decide +kernel
theorem dX8_joins_77 : decode cX8_joins 77 = .ok (.iconst 4, 1) := by decide +kernel
theorem dX8_joins_78 : decode cX8_joins 78 = .ok (.if_icmp .ge 32, 3) := by decide +kernel
theorem dX8_joins_81 : decode cX8_joins 81 = .ok (.aload_n 0, 1) := by decide +kernel
theorem dX8_joins_82 : decode cX8_joins 82 = .ok (.iload 4, 2) := by decide +kernel
theorem dX8_joins_84 : decode cX8_joins 84 = .ok (.iload 5, 2) := by decide +kernel
theorem dX8_joins_86 : decode cX8_joins 86 = .ok (.aload_n 0, 1) := by decide +kernel
theorem dX8_joins_87 : decode cX8_joins 87 = .ok (.iload_n 1, 1) := by decide +kernel
theorem dX8_joins_88 : decode cX8_joins 88 = .ok (.iload 5, 2) := by decide +kernel
theorem dX8_joins_90 : decode cX8_joins 90 = .ok (.invokevirtual 125, 3) := by decide +kernel
theorem dX8_joins_93 : decode cX8_joins 93 = .ok (.aload_n 0, 1) := by decide +kernel
theorem dX8_joins_94 : decode cX8_joins 94 = .ok (.iload_n 2, 1) := by decide +kernel
theorem dX8_joins_95 : decode cX8_joins 95 = .ok (.iload 5, 2) := by decide +kernel
theorem dX8_joins_97 : decode cX8_joins 97 = .ok (.invokevirtual 125, 3) := by decide +kernel
theorem dX8_joins_100 : decode cX8_joins 100 = .ok (.ior, 1) := by decide +kernel
theorem dX8_joins_101 : decode cX8_joins 101 = .ok (.invokevirtual 168, 3) := by decide +kernel
theorem dX8_joins_104 : decode cX8_joins 104 = .ok (.iinc 5 1, 3) := by decide +kernel
theorem dX8_joins_107 : decode cX8_joins 107 = .ok (.goto (-32), 3) := by decide +kernel
theorem dX8_joins_110 : decode cX8_joins 110 = .ok (.iload_n 3, 1) := by decide +kernel
theorem dX8_joins_111 : decode cX8_joins 111 = .ok (.iconst 2, 1) := by decide +kernel
theorem dX8_joins_112 : decode cX8_joins 112 = .ok (.if_icmp .ne 11, 3) := by decide +kernel
theorem dX8_joins_115 : decode cX8_joins 115 = .ok (.aload_n 0, 1) := by decide +kernel
theorem dX8_joins_116 : decode cX8_joins 116 = .ok (.iload 4, 2) := by decide +kernel
theorem dX8_joins_118 : decode cX8_joins 118 = .ok (.invokevirtual 172, 3) := by decide +kernel
theorem dX8_joins_121 : decode cX8_joins 121 = .ok (.istore 5, 2) := by decide +kernel
theorem dX8_joins_123 : decode cX8_joins 123 = .ok (.aload_n 0, 1) := by decide +kernel
theorem dX8_joins_124 : decode cX8_joins 124 = .ok (.invokevirtual 175, 3) := by decide +kernel
theorem dX8_joins_127 : decode cX8_joins 127 = .ok (.iconst 1, 1) := by decide +kernel
theorem dX8_joins_128 : decode cX8_joins 128 = .ok (.ireturn, 1) := by decide +kernel
theorem dX8_zoned_0 : decode cX8_zoned 0 = .ok (.iconst 0, 1) := by decide +kernel
theorem dX8_zoned_1 : decode cX8_zoned 1 = .ok (.istore 4, 2) := by decide +kernel
theorem dX8_zoned_3 : decode cX8_zoned 3 = .ok (.iload 4, 2) := by decide +kernel
theorem dX8_zoned_5 : decode cX8_zoned 5 = .ok (.aload_n 0, 1) := by decide +kernel
theorem dX8_zoned_6 : decode cX8_zoned 6 = .ok (.getfield 7, 3) := by decide +kernel
theorem dX8_zoned_9 : decode cX8_zoned 9 = .ok (.iconst 0, 1) := by decide +kernel
theorem dX8_zoned_10 : decode cX8_zoned 10 = .ok (.iaload, 1) := by decide +kernel
theorem dX8_zoned_11 : decode cX8_zoned 11 = .ok (.if_icmp .ge 50, 3) := by decide +kernel
theorem dX8_zoned_14 : decode cX8_zoned 14 = .ok (.aload_n 0, 1) := by decide +kernel
theorem dX8_zoned_15 : decode cX8_zoned 15 = .ok (.getfield 7, 3) := by decide +kernel
theorem dX8_zoned_18 : decode cX8_zoned 18 = .ok (.bipush 47, 2) := by decide +kernel
theorem dX8_zoned_20 : decode cX8_zoned 20 = .ok (.iconst 4, 1) := by decide +kernel
theorem dX8_zoned_21 : decode cX8_zoned 21 = .ok (.iload 4, 2) := by decide +kernel
theorem dX8_zoned_23 : decode cX8_zoned 23 = .ok (.imul, 1) := by decide +kernel
theorem dX8_zoned_24 : decode cX8_zoned 24 = .ok (.iadd, 1) := by decide +kernel
theorem dX8_zoned_25 : decode cX8_zoned 25 = .ok (.iload_n 2, 1) := by decide +kernel
theorem dX8_zoned_26 : decode cX8_zoned 26 = .ok (.iadd, 1) := by decide +kernel
theorem dX8_zoned_27 : decode cX8_zoned 27 = .ok (.iload_n 1, 1) := by decide +kernel
theorem dX8_zoned_28 : decode cX8_zoned 28 = .ok (.iload 4, 2) := by decide +kernel
theorem dX8_zoned_30 : decode cX8_zoned 30 = .ok (.invokestatic 102, 3) := by decide +kernel
theorem dX8_zoned_33 : decode cX8_zoned 33 = .ok (.ifCond .eq 7, 3) := by decide +kernel
theorem dX8_zoned_36 : decode cX8_zoned 36 = .ok (.iload_n 3, 1) := by decide +kernel
theorem dX8_zoned_37 : decode cX8_zoned 37 = .ok (.goto 17, 3) := by decide +kernel
theorem dX8_zoned_40 : decode cX8_zoned 40 = .ok (.aload_n 0, 1) := by decide +kernel
theorem dX8_zoned_41 : decode cX8_zoned 41 = .ok (.getfield 7, 3) := by decide +kernel
theorem dX8_zoned_44 : decode cX8_zoned 44 = .ok (.bipush 47, 2) := by decide +kernel
theorem dX8_zoned_46 : decode cX8_zoned 46 = .ok (.iconst 4, 1) := by decide +kernel
theorem dX8_zoned_47 : decode cX8_zoned 47 = .ok (.iload 4, 2) := by decide +kernel
theorem dX8_zoned_49 : decode cX8_zoned 49 = .ok (.imul, 1) := by decide +kernel
theorem dX8_zoned_50 : decode cX8_zoned 50 = .ok (.iadd, 1) := by decide +kernel
theorem dX8_zoned_51 : decode cX8_zoned 51 = .ok (.iload_n 2, 1) := by decide +kernel
theorem dX8_zoned_52 : decode cX8_zoned 52 = .ok (.iadd, 1) := by decide +kernel
theorem dX8_zoned_53 : decode cX8_zoned 53 = .ok (.iaload, 1) := by decide +kernel
theorem dX8_zoned_54 : decode cX8_zoned 54 = .ok (.iastore, 1) := by decide +kernel
theorem dX8_zoned_55 : decode cX8_zoned 55 = .ok (.iinc 4 1, 3) := by decide +kernel
theorem dX8_zoned_58 : decode cX8_zoned 58 = .ok (.goto (-55), 3) := by decide +kernel
theorem dX8_zoned_61 : decode cX8_zoned 61 = .ok (.return_, 1) := by decide +kernel
theorem dX8_cuts_0 : decode cX8_cuts 0 = .ok (.aload_n 0, 1) := by decide +kernel
theorem dX8_cuts_1 : decode cX8_cuts 1 = .ok (.iload_n 1, 1) := by decide +kernel
theorem dX8_cuts_2 : decode cX8_cuts 2 = .ok (.iload_n 2, 1) := by decide +kernel
theorem dX8_cuts_3 : decode cX8_cuts 3 = .ok (.invokevirtual 152, 3) := by decide +kernel
theorem dX8_cuts_6 : decode cX8_cuts 6 = .ok (.ifCond .ne 5, 3) := by decide +kernel
theorem dX8_cuts_9 : decode cX8_cuts 9 = .ok (.iconst (-1), 1) := by decide +kernel
theorem dX8_cuts_10 : decode cX8_cuts 10 = .ok (.ireturn, 1) := by decide +kernel
theorem dX8_cuts_11 : decode cX8_cuts 11 = .ok (.aload_n 0, 1) := by decide +kernel
theorem dX8_cuts_12 : decode cX8_cuts 12 = .ok (.iload_n 1, 1) := by decide +kernel
theorem dX8_cuts_13 : decode cX8_cuts 13 = .ok (.iload_n 2, 1) := by decide +kernel
theorem dX8_cuts_14 : decode cX8_cuts 14 = .ok (.invokevirtual 155, 3) := by decide +kernel
theorem dX8_cuts_17 : decode cX8_cuts 17 = .ok (.ifCond .ne 22, 3) := by decide +kernel
theorem dX8_cuts_20 : decode cX8_cuts 20 = .ok (.aload_n 0, 1) := by decide +kernel
theorem dX8_cuts_21 : decode cX8_cuts 21 = .ok (.getfield 7, 3) := by decide +kernel
theorem dX8_cuts_24 : decode cX8_cuts 24 = .ok (.bipush 41, 2) := by decide +kernel
theorem dX8_cuts_26 : decode cX8_cuts 26 = .ok (.iload_n 1, 1) := by decide +kernel
theorem dX8_cuts_27 : decode cX8_cuts 27 = .ok (.iadd, 1) := by decide +kernel
theorem dX8_cuts_28 : decode cX8_cuts 28 = .ok (.iaload, 1) := by decide +kernel
theorem dX8_cuts_29 : decode cX8_cuts 29 = .ok (.iload_n 2, 1) := by decide +kernel
theorem dX8_cuts_30 : decode cX8_cuts 30 = .ok (.invokestatic 102, 3) := by decide +kernel
theorem dX8_cuts_33 : decode cX8_cuts 33 = .ok (.ifCond .ne 6, 3) := by decide +kernel
theorem dX8_cuts_36 : decode cX8_cuts 36 = .ok (.bipush (-2), 2) := by decide +kernel
theorem dX8_cuts_38 : decode cX8_cuts 38 = .ok (.ireturn, 1) := by decide +kernel
theorem dX8_cuts_39 : decode cX8_cuts 39 = .ok (.aload_n 0, 1) := by decide +kernel
theorem dX8_cuts_40 : decode cX8_cuts 40 = .ok (.invokevirtual 93, 3) := by decide +kernel
theorem dX8_cuts_43 : decode cX8_cuts 43 = .ok (.aload_n 0, 1) := by decide +kernel
theorem dX8_cuts_44 : decode cX8_cuts 44 = .ok (.invokevirtual 165, 3) := by decide +kernel
theorem dX8_cuts_47 : decode cX8_cuts 47 = .ok (.aload_n 0, 1) := by decide +kernel
theorem dX8_cuts_48 : decode cX8_cuts 48 = .ok (.iload_n 1, 1) := by decide +kernel
theorem dX8_cuts_49 : decode cX8_cuts 49 = .ok (.iload_n 2, 1) := by decide +kernel
theorem dX8_cuts_50 : decode cX8_cuts 50 = .ok (.iconst 0, 1) := by decide +kernel
theorem dX8_cuts_51 : decode cX8_cuts 51 = .ok (.iconst 0, 1) := by decide +kernel
theorem dX8_cuts_52 : decode cX8_cuts 52 = .ok (.invokevirtual 161, 3) := by decide +kernel
theorem dX8_cuts_55 : decode cX8_cuts 55 = .ok (.aload_n 0, 1) := by decide +kernel
theorem dX8_cuts_56 : decode cX8_cuts 56 = .ok (.invokevirtual 175, 3) := by decide +kernel
theorem dX8_cuts_59 : decode cX8_cuts 59 = .ok (.aload_n 0, 1) := by decide +kernel
theorem dX8_cuts_60 : decode cX8_cuts 60 = .ok (.invokevirtual 178, 3) := by decide +kernel
theorem dX8_cuts_63 : decode cX8_cuts 63 = .ok (.ireturn, 1) := by decide +kernel
theorem dX8_zones_0 : decode cX8_zones 0 = .ok (.aload_n 0, 1) := by decide +kernel
theorem dX8_zones_1 : decode cX8_zones 1 = .ok (.iload_n 1, 1) := by decide +kernel
theorem dX8_zones_2 : decode cX8_zones 2 = .ok (.invokevirtual 99, 3) := by decide +kernel
theorem dX8_zones_5 : decode cX8_zones 5 = .ok (.ifCond .eq 30, 3) := by decide +kernel
theorem dX8_zones_8 : decode cX8_zones 8 = .ok (.iload_n 2, 1) := by decide +kernel
theorem dX8_zones_9 : decode cX8_zones 9 = .ok (.iconst 0, 1) := by decide +kernel
theorem dX8_zones_10 : decode cX8_zones 10 = .ok (.iconst 3, 1) := by decide +kernel
theorem dX8_zones_11 : decode cX8_zones 11 = .ok (.invokestatic 55, 3) := by decide +kernel
theorem dX8_zones_14 : decode cX8_zones 14 = .ok (.ifCond .eq 21, 3) := by decide +kernel
theorem dX8_zones_17 : decode cX8_zones 17 = .ok (.iload_n 3, 1) := by decide +kernel
theorem dX8_zones_18 : decode cX8_zones 18 = .ok (.iconst 0, 1) := by decide +kernel
theorem dX8_zones_19 : decode cX8_zones 19 = .ok (.iconst 1, 1) := by decide +kernel
theorem dX8_zones_20 : decode cX8_zones 20 = .ok (.aload_n 0, 1) := by decide +kernel
theorem dX8_zones_21 : decode cX8_zones 21 = .ok (.getfield 7, 3) := by decide +kernel
theorem dX8_zones_24 : decode cX8_zones 24 = .ok (.iconst 1, 1) := by decide +kernel
theorem dX8_zones_25 : decode cX8_zones 25 = .ok (.iaload, 1) := by decide +kernel
theorem dX8_zones_26 : decode cX8_zones 26 = .ok (.ishl, 1) := by decide +kernel
theorem dX8_zones_27 : decode cX8_zones 27 = .ok (.iconst 1, 1) := by decide +kernel
theorem dX8_zones_28 : decode cX8_zones 28 = .ok (.isub, 1) := by decide +kernel
theorem dX8_zones_29 : decode cX8_zones 29 = .ok (.invokestatic 55, 3) := by decide +kernel
theorem dX8_zones_32 : decode cX8_zones 32 = .ok (.ifCond .ne 5, 3) := by decide +kernel
theorem dX8_zones_35 : decode cX8_zones 35 = .ok (.iconst (-1), 1) := by decide +kernel
theorem dX8_zones_36 : decode cX8_zones 36 = .ok (.ireturn, 1) := by decide +kernel
theorem dX8_zones_37 : decode cX8_zones 37 = .ok (.aload_n 0, 1) := by decide +kernel
theorem dX8_zones_38 : decode cX8_zones 38 = .ok (.iload_n 1, 1) := by decide +kernel
theorem dX8_zones_39 : decode cX8_zones 39 = .ok (.iload_n 2, 1) := by decide +kernel
theorem dX8_zones_40 : decode cX8_zones 40 = .ok (.invokevirtual 125, 3) := by decide +kernel
theorem dX8_zones_43 : decode cX8_zones 43 = .ok (.istore 4, 2) := by decide +kernel
theorem dX8_zones_45 : decode cX8_zones 45 = .ok (.iload 4, 2) := by decide +kernel
theorem dX8_zones_47 : decode cX8_zones 47 = .ok (.iload_n 3, 1) := by decide +kernel
theorem dX8_zones_48 : decode cX8_zones 48 = .ok (.if_icmp .ne 6, 3) := by decide +kernel
theorem dX8_zones_51 : decode cX8_zones 51 = .ok (.bipush (-2), 2) := by decide +kernel
theorem dX8_zones_53 : decode cX8_zones 53 = .ok (.ireturn, 1) := by decide +kernel
theorem dX8_zones_54 : decode cX8_zones 54 = .ok (.aload_n 0, 1) := by decide +kernel
theorem dX8_zones_55 : decode cX8_zones 55 = .ok (.invokevirtual 93, 3) := by decide +kernel
theorem dX8_zones_58 : decode cX8_zones 58 = .ok (.aload_n 0, 1) := by decide +kernel
theorem dX8_zones_59 : decode cX8_zones 59 = .ok (.invokevirtual 165, 3) := by decide +kernel
theorem dX8_zones_62 : decode cX8_zones 62 = .ok (.aload_n 0, 1) := by decide +kernel
theorem dX8_zones_63 : decode cX8_zones 63 = .ok (.aload_n 0, 1) := by decide +kernel
theorem dX8_zones_64 : decode cX8_zones 64 = .ok (.iload_n 1, 1) := by decide +kernel
theorem dX8_zones_65 : decode cX8_zones 65 = .ok (.invokevirtual 109, 3) := by decide +kernel
theorem dX8_zones_68 : decode cX8_zones 68 = .ok (.iload_n 2, 1) := by decide +kernel
theorem dX8_zones_69 : decode cX8_zones 69 = .ok (.iload_n 3, 1) := by decide +kernel
theorem dX8_zones_70 : decode cX8_zones 70 = .ok (.invokevirtual 168, 3) := by decide +kernel
theorem dX8_zones_73 : decode cX8_zones 73 = .ok (.aload_n 0, 1) := by decide +kernel
theorem dX8_zones_74 : decode cX8_zones 74 = .ok (.invokevirtual 175, 3) := by decide +kernel
theorem dX8_zones_77 : decode cX8_zones 77 = .ok (.iload 4, 2) := by decide +kernel
theorem dX8_zones_79 : decode cX8_zones 79 = .ok (.ireturn, 1) := by decide +kernel
theorem dX8_moves_0 : decode cX8_moves 0 = .ok (.aload_n 0, 1) := by decide +kernel
theorem dX8_moves_1 : decode cX8_moves 1 = .ok (.iload_n 1, 1) := by decide +kernel
theorem dX8_moves_2 : decode cX8_moves 2 = .ok (.invokevirtual 181, 3) := by decide +kernel
theorem dX8_moves_5 : decode cX8_moves 5 = .ok (.ifCond .eq 17, 3) := by decide +kernel
theorem dX8_moves_8 : decode cX8_moves 8 = .ok (.iload_n 2, 1) := by decide +kernel
theorem dX8_moves_9 : decode cX8_moves 9 = .ok (.bipush (-9), 2) := by decide +kernel
theorem dX8_moves_11 : decode cX8_moves 11 = .ok (.if_icmp .eq 13, 3) := by decide +kernel
theorem dX8_moves_14 : decode cX8_moves 14 = .ok (.aload_n 0, 1) := by decide +kernel
theorem dX8_moves_15 : decode cX8_moves 15 = .ok (.iload_n 2, 1) := by decide +kernel
theorem dX8_moves_16 : decode cX8_moves 16 = .ok (.invokevirtual 99, 3) := by decide +kernel
theorem dX8_moves_19 : decode cX8_moves 19 = .ok (.ifCond .ne 5, 3) := by decide +kernel
theorem dX8_moves_22 : decode cX8_moves 22 = .ok (.iconst (-1), 1) := by decide +kernel
theorem dX8_moves_23 : decode cX8_moves 23 = .ok (.ireturn, 1) := by decide +kernel
theorem dX8_moves_24 : decode cX8_moves 24 = .ok (.aload_n 0, 1) := by decide +kernel
theorem dX8_moves_25 : decode cX8_moves 25 = .ok (.getfield 7, 3) := by decide +kernel
theorem dX8_moves_28 : decode cX8_moves 28 = .ok (.bipush 27, 2) := by decide +kernel
theorem dX8_moves_30 : decode cX8_moves 30 = .ok (.iload_n 1, 1) := by decide +kernel
theorem dX8_moves_31 : decode cX8_moves 31 = .ok (.iadd, 1) := by decide +kernel
theorem dX8_moves_32 : decode cX8_moves 32 = .ok (.iaload, 1) := by decide +kernel
theorem dX8_moves_33 : decode cX8_moves 33 = .ok (.istore_n 3, 1) := by decide +kernel
theorem dX8_moves_34 : decode cX8_moves 34 = .ok (.iload_n 3, 1) := by decide +kernel
theorem dX8_moves_35 : decode cX8_moves 35 = .ok (.iload_n 2, 1) := by decide +kernel
theorem dX8_moves_36 : decode cX8_moves 36 = .ok (.if_icmp .ne 6, 3) := by decide +kernel
theorem dX8_moves_39 : decode cX8_moves 39 = .ok (.bipush (-2), 2) := by decide +kernel
theorem dX8_moves_41 : decode cX8_moves 41 = .ok (.ireturn, 1) := by decide +kernel
theorem dX8_moves_42 : decode cX8_moves 42 = .ok (.aload_n 0, 1) := by decide +kernel
theorem dX8_moves_43 : decode cX8_moves 43 = .ok (.invokevirtual 93, 3) := by decide +kernel
theorem dX8_moves_46 : decode cX8_moves 46 = .ok (.aload_n 0, 1) := by decide +kernel
theorem dX8_moves_47 : decode cX8_moves 47 = .ok (.invokevirtual 165, 3) := by decide +kernel
theorem dX8_moves_50 : decode cX8_moves 50 = .ok (.aload_n 0, 1) := by decide +kernel
theorem dX8_moves_51 : decode cX8_moves 51 = .ok (.getfield 7, 3) := by decide +kernel
theorem dX8_moves_54 : decode cX8_moves 54 = .ok (.bipush 27, 2) := by decide +kernel
theorem dX8_moves_56 : decode cX8_moves 56 = .ok (.iload_n 1, 1) := by decide +kernel
theorem dX8_moves_57 : decode cX8_moves 57 = .ok (.iadd, 1) := by decide +kernel
theorem dX8_moves_58 : decode cX8_moves 58 = .ok (.iload_n 2, 1) := by decide +kernel
theorem dX8_moves_59 : decode cX8_moves 59 = .ok (.iastore, 1) := by decide +kernel
theorem dX8_moves_60 : decode cX8_moves 60 = .ok (.aload_n 0, 1) := by decide +kernel
theorem dX8_moves_61 : decode cX8_moves 61 = .ok (.invokevirtual 175, 3) := by decide +kernel
theorem dX8_moves_64 : decode cX8_moves 64 = .ok (.iload_n 3, 1) := by decide +kernel
theorem dX8_moves_65 : decode cX8_moves 65 = .ok (.ireturn, 1) := by decide +kernel
theorem dX8_ranks_0 : decode cX8_ranks 0 = .ok (.aload_n 0, 1) := by decide +kernel
theorem dX8_ranks_1 : decode cX8_ranks 1 = .ok (.iload_n 1, 1) := by decide +kernel
theorem dX8_ranks_2 : decode cX8_ranks 2 = .ok (.invokevirtual 99, 3) := by decide +kernel
theorem dX8_ranks_5 : decode cX8_ranks 5 = .ok (.ifCond .eq 13, 3) := by decide +kernel
theorem dX8_ranks_8 : decode cX8_ranks 8 = .ok (.iload_n 2, 1) := by decide +kernel
theorem dX8_ranks_9 : decode cX8_ranks 9 = .ok (.iconst 1, 1) := by decide +kernel
theorem dX8_ranks_10 : decode cX8_ranks 10 = .ok (.bipush 9, 2) := by decide +kernel
theorem dX8_ranks_12 : decode cX8_ranks 12 = .ok (.invokestatic 55, 3) := by decide +kernel
theorem dX8_ranks_15 : decode cX8_ranks 15 = .ok (.ifCond .ne 5, 3) := by decide +kernel
theorem dX8_ranks_18 : decode cX8_ranks 18 = .ok (.iconst (-1), 1) := by decide +kernel
theorem dX8_ranks_19 : decode cX8_ranks 19 = .ok (.ireturn, 1) := by decide +kernel
theorem dX8_ranks_20 : decode cX8_ranks 20 = .ok (.aload_n 0, 1) := by decide +kernel
theorem dX8_ranks_21 : decode cX8_ranks 21 = .ok (.iload_n 1, 1) := by decide +kernel
theorem dX8_ranks_22 : decode cX8_ranks 22 = .ok (.iconst 0, 1) := by decide +kernel
theorem dX8_ranks_23 : decode cX8_ranks 23 = .ok (.invokevirtual 115, 3) := by decide +kernel
theorem dX8_ranks_26 : decode cX8_ranks 26 = .ok (.istore_n 3, 1) := by decide +kernel
theorem dX8_ranks_27 : decode cX8_ranks 27 = .ok (.iload_n 3, 1) := by decide +kernel
theorem dX8_ranks_28 : decode cX8_ranks 28 = .ok (.iload_n 2, 1) := by decide +kernel
theorem dX8_ranks_29 : decode cX8_ranks 29 = .ok (.if_icmp .ne 6, 3) := by decide +kernel
theorem dX8_ranks_32 : decode cX8_ranks 32 = .ok (.bipush (-2), 2) := by decide +kernel
theorem dX8_ranks_34 : decode cX8_ranks 34 = .ok (.ireturn, 1) := by decide +kernel
theorem dX8_ranks_35 : decode cX8_ranks 35 = .ok (.aload_n 0, 1) := by decide +kernel
theorem dX8_ranks_36 : decode cX8_ranks 36 = .ok (.invokevirtual 93, 3) := by decide +kernel
theorem dX8_ranks_39 : decode cX8_ranks 39 = .ok (.aload_n 0, 1) := by decide +kernel
theorem dX8_ranks_40 : decode cX8_ranks 40 = .ok (.getfield 7, 3) := by decide +kernel
theorem dX8_ranks_43 : decode cX8_ranks 43 = .ok (.iconst 3, 1) := by decide +kernel
theorem dX8_ranks_44 : decode cX8_ranks 44 = .ok (.iconst 4, 1) := by decide +kernel
theorem dX8_ranks_45 : decode cX8_ranks 45 = .ok (.iload_n 1, 1) := by decide +kernel
theorem dX8_ranks_46 : decode cX8_ranks 46 = .ok (.imul, 1) := by decide +kernel
theorem dX8_ranks_47 : decode cX8_ranks 47 = .ok (.iadd, 1) := by decide +kernel
theorem dX8_ranks_48 : decode cX8_ranks 48 = .ok (.iconst 0, 1) := by decide +kernel
theorem dX8_ranks_49 : decode cX8_ranks 49 = .ok (.iadd, 1) := by decide +kernel
theorem dX8_ranks_50 : decode cX8_ranks 50 = .ok (.iload_n 2, 1) := by decide +kernel
theorem dX8_ranks_51 : decode cX8_ranks 51 = .ok (.iastore, 1) := by decide +kernel
theorem dX8_ranks_52 : decode cX8_ranks 52 = .ok (.iload_n 3, 1) := by decide +kernel
theorem dX8_ranks_53 : decode cX8_ranks 53 = .ok (.ireturn, 1) := by decide +kernel
theorem dX8_renews_0 : decode cX8_renews 0 = .ok (.aload_n 0, 1) := by decide +kernel
theorem dX8_renews_1 : decode cX8_renews 1 = .ok (.iload_n 1, 1) := by decide +kernel
theorem dX8_renews_2 : decode cX8_renews 2 = .ok (.invokevirtual 99, 3) := by decide +kernel
theorem dX8_renews_5 : decode cX8_renews 5 = .ok (.ifCond .ne 5, 3) := by decide +kernel
theorem dX8_renews_8 : decode cX8_renews 8 = .ok (.iconst (-1), 1) := by decide +kernel
theorem dX8_renews_9 : decode cX8_renews 9 = .ok (.ireturn, 1) := by decide +kernel
theorem dX8_renews_10 : decode cX8_renews 10 = .ok (.aload_n 0, 1) := by decide +kernel
theorem dX8_renews_11 : decode cX8_renews 11 = .ok (.invokevirtual 93, 3) := by decide +kernel
theorem dX8_renews_14 : decode cX8_renews 14 = .ok (.aload_n 0, 1) := by decide +kernel
theorem dX8_renews_15 : decode cX8_renews 15 = .ok (.aload_n 0, 1) := by decide +kernel
theorem dX8_renews_16 : decode cX8_renews 16 = .ok (.iload_n 1, 1) := by decide +kernel
theorem dX8_renews_17 : decode cX8_renews 17 = .ok (.invokevirtual 109, 3) := by decide +kernel
theorem dX8_renews_20 : decode cX8_renews 20 = .ok (.invokevirtual 172, 3) := by decide +kernel
theorem dX8_renews_23 : decode cX8_renews 23 = .ok (.ireturn, 1) := by decide +kernel
theorem dX8_allows_0 : decode cX8_allows 0 = .ok (.iload_n 1, 1) := by decide +kernel
theorem dX8_allows_1 : decode cX8_allows 1 = .ok (.iconst 0, 1) := by decide +kernel
theorem dX8_allows_2 : decode cX8_allows 2 = .ok (.iconst 1, 1) := by decide +kernel
theorem dX8_allows_3 : decode cX8_allows 3 = .ok (.invokestatic 55, 3) := by decide +kernel
theorem dX8_allows_6 : decode cX8_allows 6 = .ok (.ifCond .ne 5, 3) := by decide +kernel
theorem dX8_allows_9 : decode cX8_allows 9 = .ok (.iconst (-1), 1) := by decide +kernel
theorem dX8_allows_10 : decode cX8_allows 10 = .ok (.ireturn, 1) := by decide +kernel
theorem dX8_allows_11 : decode cX8_allows 11 = .ok (.aload_n 0, 1) := by decide +kernel
theorem dX8_allows_12 : decode cX8_allows 12 = .ok (.getfield 7, 3) := by decide +kernel
theorem dX8_allows_15 : decode cX8_allows 15 = .ok (.iconst 2, 1) := by decide +kernel
theorem dX8_allows_16 : decode cX8_allows 16 = .ok (.iaload, 1) := by decide +kernel
theorem dX8_allows_17 : decode cX8_allows 17 = .ok (.iload_n 1, 1) := by decide +kernel
theorem dX8_allows_18 : decode cX8_allows 18 = .ok (.if_icmp .ne 6, 3) := by decide +kernel
theorem dX8_allows_21 : decode cX8_allows 21 = .ok (.bipush (-2), 2) := by decide +kernel
theorem dX8_allows_23 : decode cX8_allows 23 = .ok (.ireturn, 1) := by decide +kernel
theorem dX8_allows_24 : decode cX8_allows 24 = .ok (.aload_n 0, 1) := by decide +kernel
theorem dX8_allows_25 : decode cX8_allows 25 = .ok (.invokevirtual 93, 3) := by decide +kernel
theorem dX8_allows_28 : decode cX8_allows 28 = .ok (.aload_n 0, 1) := by decide +kernel
theorem dX8_allows_29 : decode cX8_allows 29 = .ok (.getfield 7, 3) := by decide +kernel
theorem dX8_allows_32 : decode cX8_allows 32 = .ok (.iconst 2, 1) := by decide +kernel
theorem dX8_allows_33 : decode cX8_allows 33 = .ok (.iload_n 1, 1) := by decide +kernel
theorem dX8_allows_34 : decode cX8_allows 34 = .ok (.iastore, 1) := by decide +kernel
theorem dX8_allows_35 : decode cX8_allows 35 = .ok (.iconst 1, 1) := by decide +kernel
theorem dX8_allows_36 : decode cX8_allows 36 = .ok (.ireturn, 1) := by decide +kernel
theorem dX8_undo_0 : decode cX8_undo 0 = .ok (.aload_n 0, 1) := by decide +kernel
theorem dX8_undo_1 : decode cX8_undo 1 = .ok (.getfield 41, 3) := by decide +kernel
theorem dX8_undo_4 : decode cX8_undo 4 = .ok (.ifCond .ne 6, 3) := by decide +kernel
theorem dX8_undo_7 : decode cX8_undo 7 = .ok (.bipush (-2), 2) := by decide +kernel
theorem dX8_undo_9 : decode cX8_undo 9 = .ok (.ireturn, 1) := by decide +kernel
theorem dX8_undo_10 : decode cX8_undo 10 = .ok (.aload_n 0, 1) := by decide +kernel
theorem dX8_undo_11 : decode cX8_undo 11 = .ok (.dup, 1) := by decide +kernel
theorem dX8_undo_12 : decode cX8_undo 12 = .ok (.getfield 41, 3) := by decide +kernel
theorem dX8_undo_15 : decode cX8_undo 15 = .ok (.iconst 1, 1) := by decide +kernel
theorem dX8_undo_16 : decode cX8_undo 16 = .ok (.isub, 1) := by decide +kernel
theorem dX8_undo_17 : decode cX8_undo 17 = .ok (.putfield 41, 3) := by decide +kernel
theorem dX8_undo_20 : decode cX8_undo 20 = .ok (.aload_n 0, 1) := by decide +kernel
theorem dX8_undo_21 : decode cX8_undo 21 = .ok (.getfield 16, 3) := by decide +kernel
theorem dX8_undo_24 : decode cX8_undo 24 = .ok (.bipush 87, 2) := by decide +kernel
theorem dX8_undo_26 : decode cX8_undo 26 = .ok (.aload_n 0, 1) := by decide +kernel
theorem dX8_undo_27 : decode cX8_undo 27 = .ok (.getfield 41, 3) := by decide +kernel
theorem dX8_undo_30 : decode cX8_undo 30 = .ok (.imul, 1) := by decide +kernel
theorem dX8_undo_31 : decode cX8_undo 31 = .ok (.aload_n 0, 1) := by decide +kernel
theorem dX8_undo_32 : decode cX8_undo 32 = .ok (.getfield 7, 3) := by decide +kernel
theorem dX8_undo_35 : decode cX8_undo 35 = .ok (.iconst 0, 1) := by decide +kernel
theorem dX8_undo_36 : decode cX8_undo 36 = .ok (.invokestatic 45, 3) := by decide +kernel
theorem dX8_undo_39 : decode cX8_undo 39 = .ok (.aload_n 0, 1) := by decide +kernel
theorem dX8_undo_40 : decode cX8_undo 40 = .ok (.getfield 41, 3) := by decide +kernel
theorem dX8_undo_43 : decode cX8_undo 43 = .ok (.ireturn, 1) := by decide +kernel
theorem dX8_hostsAt_0 : decode cX8_hostsAt 0 = .ok (.iconst 0, 1) := by decide +kernel
theorem dX8_hostsAt_1 : decode cX8_hostsAt 1 = .ok (.istore_n 2, 1) := by decide +kernel
theorem dX8_hostsAt_2 : decode cX8_hostsAt 2 = .ok (.iconst 0, 1) := by decide +kernel
theorem dX8_hostsAt_3 : decode cX8_hostsAt 3 = .ok (.istore_n 3, 1) := by decide +kernel
theorem dX8_hostsAt_4 : decode cX8_hostsAt 4 = .ok (.iload_n 3, 1) := by decide +kernel
theorem dX8_hostsAt_5 : decode cX8_hostsAt 5 = .ok (.aload_n 0, 1) := by decide +kernel
theorem dX8_hostsAt_6 : decode cX8_hostsAt 6 = .ok (.getfield 7, 3) := by decide +kernel
theorem dX8_hostsAt_9 : decode cX8_hostsAt 9 = .ok (.iconst 1, 1) := by decide +kernel
theorem dX8_hostsAt_10 : decode cX8_hostsAt 10 = .ok (.iaload, 1) := by decide +kernel
theorem dX8_hostsAt_11 : decode cX8_hostsAt 11 = .ok (.if_icmp .ge 32, 3) := by decide +kernel
theorem dX8_hostsAt_14 : decode cX8_hostsAt 14 = .ok (.iload_n 2, 1) := by decide +kernel
theorem dX8_hostsAt_15 : decode cX8_hostsAt 15 = .ok (.aload_n 0, 1) := by decide +kernel
theorem dX8_hostsAt_16 : decode cX8_hostsAt 16 = .ok (.getfield 7, 3) := by decide +kernel
theorem dX8_hostsAt_19 : decode cX8_hostsAt 19 = .ok (.bipush 27, 2) := by decide +kernel
theorem dX8_hostsAt_21 : decode cX8_hostsAt 21 = .ok (.iload_n 3, 1) := by decide +kernel
theorem dX8_hostsAt_22 : decode cX8_hostsAt 22 = .ok (.iadd, 1) := by decide +kernel
theorem dX8_hostsAt_23 : decode cX8_hostsAt 23 = .ok (.iaload, 1) := by decide +kernel
theorem dX8_hostsAt_24 : decode cX8_hostsAt 24 = .ok (.iload_n 1, 1) := by decide +kernel
theorem dX8_hostsAt_25 : decode cX8_hostsAt 25 = .ok (.if_icmp .ne 9, 3) := by decide +kernel
theorem dX8_hostsAt_28 : decode cX8_hostsAt 28 = .ok (.iconst 1, 1) := by decide +kernel
theorem dX8_hostsAt_29 : decode cX8_hostsAt 29 = .ok (.iload_n 3, 1) := by decide +kernel
theorem dX8_hostsAt_30 : decode cX8_hostsAt 30 = .ok (.ishl, 1) := by decide +kernel
theorem dX8_hostsAt_31 : decode cX8_hostsAt 31 = .ok (.goto 4, 3) := by decide +kernel
theorem dX8_hostsAt_34 : decode cX8_hostsAt 34 = .ok (.iconst 0, 1) := by decide +kernel
theorem dX8_hostsAt_35 : decode cX8_hostsAt 35 = .ok (.ior, 1) := by decide +kernel
theorem dX8_hostsAt_36 : decode cX8_hostsAt 36 = .ok (.istore_n 2, 1) := by decide +kernel
theorem dX8_hostsAt_37 : decode cX8_hostsAt 37 = .ok (.iinc 3 1, 3) := by decide +kernel
theorem dX8_hostsAt_40 : decode cX8_hostsAt 40 = .ok (.goto (-36), 3) := by decide +kernel
theorem dX8_hostsAt_43 : decode cX8_hostsAt 43 = .ok (.iload_n 2, 1) := by decide +kernel
theorem dX8_hostsAt_44 : decode cX8_hostsAt 44 = .ok (.ireturn, 1) := by decide +kernel
theorem dX8_device_0 : decode cX8_device 0 = .ok (.aload_n 0, 1) := by decide +kernel
theorem dX8_device_1 : decode cX8_device 1 = .ok (.iload_n 1, 1) := by decide +kernel
theorem dX8_device_2 : decode cX8_device 2 = .ok (.invokevirtual 99, 3) := by decide +kernel
theorem dX8_device_5 : decode cX8_device 5 = .ok (.ifCond .eq 13, 3) := by decide +kernel
theorem dX8_device_8 : decode cX8_device 8 = .ok (.iload_n 2, 1) := by decide +kernel
theorem dX8_device_9 : decode cX8_device 9 = .ok (.iconst 0, 1) := by decide +kernel
theorem dX8_device_10 : decode cX8_device 10 = .ok (.bipush 7, 2) := by decide +kernel
theorem dX8_device_12 : decode cX8_device 12 = .ok (.invokestatic 55, 3) := by decide +kernel
theorem dX8_device_15 : decode cX8_device 15 = .ok (.ifCond .ne 5, 3) := by decide +kernel
theorem dX8_device_18 : decode cX8_device 18 = .ok (.iconst (-1), 1) := by decide +kernel
theorem dX8_device_19 : decode cX8_device 19 = .ok (.ireturn, 1) := by decide +kernel
theorem dX8_device_20 : decode cX8_device 20 = .ok (.iload_n 2, 1) := by decide +kernel
theorem dX8_device_21 : decode cX8_device 21 = .ok (.tableswitch 59 4 7 #[31, 41, 47, 53], 31) := by decide +kernel
theorem dX8_device_52 : decode cX8_device 52 = .ok (.aload_n 0, 1) := by decide +kernel
theorem dX8_device_53 : decode cX8_device 53 = .ok (.aload_n 0, 1) := by decide +kernel
theorem dX8_device_54 : decode cX8_device 54 = .ok (.iload_n 1, 1) := by decide +kernel
theorem dX8_device_55 : decode cX8_device 55 = .ok (.invokevirtual 109, 3) := by decide +kernel
theorem dX8_device_58 : decode cX8_device 58 = .ok (.invokevirtual 119, 3) := by decide +kernel
theorem dX8_device_61 : decode cX8_device 61 = .ok (.ireturn, 1) := by decide +kernel
theorem dX8_device_62 : decode cX8_device 62 = .ok (.aload_n 0, 1) := by decide +kernel
theorem dX8_device_63 : decode cX8_device 63 = .ok (.iload_n 1, 1) := by decide +kernel
theorem dX8_device_64 : decode cX8_device 64 = .ok (.invokevirtual 122, 3) := by decide +kernel
theorem dX8_device_67 : decode cX8_device 67 = .ok (.ireturn, 1) := by decide +kernel
theorem dX8_device_68 : decode cX8_device 68 = .ok (.aload_n 0, 1) := by decide +kernel
theorem dX8_device_69 : decode cX8_device 69 = .ok (.iload_n 1, 1) := by decide +kernel
theorem dX8_device_70 : decode cX8_device 70 = .ok (.invokevirtual 109, 3) := by decide +kernel
theorem dX8_device_73 : decode cX8_device 73 = .ok (.ireturn, 1) := by decide +kernel
theorem dX8_device_74 : decode cX8_device 74 = .ok (.aload_n 0, 1) := by decide +kernel
theorem dX8_device_75 : decode cX8_device 75 = .ok (.iload_n 1, 1) := by decide +kernel
theorem dX8_device_76 : decode cX8_device 76 = .ok (.invokevirtual 184, 3) := by decide +kernel
theorem dX8_device_79 : decode cX8_device 79 = .ok (.ireturn, 1) := by decide +kernel
theorem dX8_device_80 : decode cX8_device 80 = .ok (.aload_n 0, 1) := by decide +kernel
theorem dX8_device_81 : decode cX8_device 81 = .ok (.iload_n 1, 1) := by decide +kernel
theorem dX8_device_82 : decode cX8_device 82 = .ok (.iload_n 2, 1) := by decide +kernel
theorem dX8_device_83 : decode cX8_device 83 = .ok (.invokevirtual 115, 3) := by decide +kernel
theorem dX8_device_86 : decode cX8_device 86 = .ok (.ireturn, 1) := by decide +kernel
theorem dX8_link_0 : decode cX8_link 0 = .ok (.aload_n 0, 1) := by decide +kernel
theorem dX8_link_1 : decode cX8_link 1 = .ok (.iload_n 1, 1) := by decide +kernel
theorem dX8_link_2 : decode cX8_link 2 = .ok (.iload_n 2, 1) := by decide +kernel
theorem dX8_link_3 : decode cX8_link 3 = .ok (.invokevirtual 152, 3) := by decide +kernel
theorem dX8_link_6 : decode cX8_link 6 = .ok (.ifCond .ne 7, 3) := by decide +kernel
theorem dX8_link_9 : decode cX8_link 9 = .ok (.iconst (-1), 1) := by decide +kernel
theorem dX8_link_10 : decode cX8_link 10 = .ok (.goto 37, 3) := by decide +kernel
theorem dX8_link_13 : decode cX8_link 13 = .ok (.aload_n 0, 1) := by decide +kernel
theorem dX8_link_14 : decode cX8_link 14 = .ok (.iload_n 1, 1) := by decide +kernel
theorem dX8_link_15 : decode cX8_link 15 = .ok (.iload_n 2, 1) := by decide +kernel
theorem dX8_link_16 : decode cX8_link 16 = .ok (.invokevirtual 155, 3) := by decide +kernel
theorem dX8_link_19 : decode cX8_link 19 = .ok (.ifCond .eq 7, 3) := by decide +kernel
theorem dX8_link_22 : decode cX8_link 22 = .ok (.iconst 1, 1) := by decide +kernel
theorem dX8_link_23 : decode cX8_link 23 = .ok (.goto 24, 3) := by decide +kernel
theorem dX8_link_26 : decode cX8_link 26 = .ok (.aload_n 0, 1) := by decide +kernel
theorem dX8_link_27 : decode cX8_link 27 = .ok (.getfield 7, 3) := by decide +kernel
theorem dX8_link_30 : decode cX8_link 30 = .ok (.bipush 41, 2) := by decide +kernel
theorem dX8_link_32 : decode cX8_link 32 = .ok (.iload_n 1, 1) := by decide +kernel
theorem dX8_link_33 : decode cX8_link 33 = .ok (.iadd, 1) := by decide +kernel
theorem dX8_link_34 : decode cX8_link 34 = .ok (.iaload, 1) := by decide +kernel
theorem dX8_link_35 : decode cX8_link 35 = .ok (.iload_n 2, 1) := by decide +kernel
theorem dX8_link_36 : decode cX8_link 36 = .ok (.invokestatic 102, 3) := by decide +kernel
theorem dX8_link_39 : decode cX8_link 39 = .ok (.ifCond .eq 7, 3) := by decide +kernel
theorem dX8_link_42 : decode cX8_link 42 = .ok (.iconst 2, 1) := by decide +kernel
theorem dX8_link_43 : decode cX8_link 43 = .ok (.goto 4, 3) := by decide +kernel
theorem dX8_link_46 : decode cX8_link 46 = .ok (.iconst 0, 1) := by decide +kernel
theorem dX8_link_47 : decode cX8_link 47 = .ok (.ireturn, 1) := by decide +kernel
theorem dX8_zone_0 : decode cX8_zone 0 = .ok (.aload_n 0, 1) := by decide +kernel
theorem dX8_zone_1 : decode cX8_zone 1 = .ok (.iload_n 1, 1) := by decide +kernel
theorem dX8_zone_2 : decode cX8_zone 2 = .ok (.invokevirtual 99, 3) := by decide +kernel
theorem dX8_zone_5 : decode cX8_zone 5 = .ok (.ifCond .eq 21, 3) := by decide +kernel
theorem dX8_zone_8 : decode cX8_zone 8 = .ok (.iload_n 2, 1) := by decide +kernel
theorem dX8_zone_9 : decode cX8_zone 9 = .ok (.iconst 0, 1) := by decide +kernel
theorem dX8_zone_10 : decode cX8_zone 10 = .ok (.iconst 3, 1) := by decide +kernel
theorem dX8_zone_11 : decode cX8_zone 11 = .ok (.invokestatic 55, 3) := by decide +kernel
theorem dX8_zone_14 : decode cX8_zone 14 = .ok (.ifCond .eq 12, 3) := by decide +kernel
theorem dX8_zone_17 : decode cX8_zone 17 = .ok (.aload_n 0, 1) := by decide +kernel
theorem dX8_zone_18 : decode cX8_zone 18 = .ok (.iload_n 1, 1) := by decide +kernel
theorem dX8_zone_19 : decode cX8_zone 19 = .ok (.iload_n 2, 1) := by decide +kernel
theorem dX8_zone_20 : decode cX8_zone 20 = .ok (.invokevirtual 125, 3) := by decide +kernel
theorem dX8_zone_23 : decode cX8_zone 23 = .ok (.goto 4, 3) := by decide +kernel
theorem dX8_zone_26 : decode cX8_zone 26 = .ok (.iconst (-1), 1) := by decide +kernel
theorem dX8_zone_27 : decode cX8_zone 27 = .ok (.ireturn, 1) := by decide +kernel
theorem dX8_host_0 : decode cX8_host 0 = .ok (.aload_n 0, 1) := by decide +kernel
theorem dX8_host_1 : decode cX8_host 1 = .ok (.iload_n 1, 1) := by decide +kernel
theorem dX8_host_2 : decode cX8_host 2 = .ok (.invokevirtual 181, 3) := by decide +kernel
theorem dX8_host_5 : decode cX8_host 5 = .ok (.ifCond .eq 12, 3) := by decide +kernel
theorem dX8_host_8 : decode cX8_host 8 = .ok (.iload_n 2, 1) := by decide +kernel
theorem dX8_host_9 : decode cX8_host 9 = .ok (.iconst 0, 1) := by decide +kernel
theorem dX8_host_10 : decode cX8_host 10 = .ok (.iconst 3, 1) := by decide +kernel
theorem dX8_host_11 : decode cX8_host 11 = .ok (.invokestatic 55, 3) := by decide +kernel
theorem dX8_host_14 : decode cX8_host 14 = .ok (.ifCond .ne 5, 3) := by decide +kernel
theorem dX8_host_17 : decode cX8_host 17 = .ok (.iconst (-1), 1) := by decide +kernel
theorem dX8_host_18 : decode cX8_host 18 = .ok (.ireturn, 1) := by decide +kernel
theorem dX8_host_19 : decode cX8_host 19 = .ok (.iload_n 2, 1) := by decide +kernel
theorem dX8_host_20 : decode cX8_host 20 = .ok (.ifCond .ne 15, 3) := by decide +kernel
theorem dX8_host_23 : decode cX8_host 23 = .ok (.aload_n 0, 1) := by decide +kernel
theorem dX8_host_24 : decode cX8_host 24 = .ok (.getfield 7, 3) := by decide +kernel
theorem dX8_host_27 : decode cX8_host 27 = .ok (.bipush 27, 2) := by decide +kernel
theorem dX8_host_29 : decode cX8_host 29 = .ok (.iload_n 1, 1) := by decide +kernel
theorem dX8_host_30 : decode cX8_host 30 = .ok (.iadd, 1) := by decide +kernel
theorem dX8_host_31 : decode cX8_host 31 = .ok (.iaload, 1) := by decide +kernel
theorem dX8_host_32 : decode cX8_host 32 = .ok (.goto 35, 3) := by decide +kernel
theorem dX8_host_35 : decode cX8_host 35 = .ok (.iload_n 2, 1) := by decide +kernel
theorem dX8_host_36 : decode cX8_host 36 = .ok (.iconst 1, 1) := by decide +kernel
theorem dX8_host_37 : decode cX8_host 37 = .ok (.if_icmp .ne 11, 3) := by decide +kernel
theorem dX8_host_40 : decode cX8_host 40 = .ok (.aload_n 0, 1) := by decide +kernel
theorem dX8_host_41 : decode cX8_host 41 = .ok (.iload_n 1, 1) := by decide +kernel
theorem dX8_host_42 : decode cX8_host 42 = .ok (.invokevirtual 140, 3) := by decide +kernel
theorem dX8_host_45 : decode cX8_host 45 = .ok (.goto 22, 3) := by decide +kernel
theorem dX8_host_48 : decode cX8_host 48 = .ok (.aload_n 0, 1) := by decide +kernel
theorem dX8_host_49 : decode cX8_host 49 = .ok (.getfield 7, 3) := by decide +kernel
theorem dX8_host_52 : decode cX8_host 52 = .ok (.iload_n 2, 1) := by decide +kernel
theorem dX8_host_53 : decode cX8_host 53 = .ok (.iconst 2, 1) := by decide +kernel
theorem dX8_host_54 : decode cX8_host 54 = .ok (.if_icmp .ne 8, 3) := by decide +kernel
theorem dX8_host_57 : decode cX8_host 57 = .ok (.bipush 71, 2) := by decide +kernel
theorem dX8_host_59 : decode cX8_host 59 = .ok (.goto 5, 3) := by decide +kernel
theorem dX8_host_62 : decode cX8_host 62 = .ok (.bipush 79, 2) := by decide +kernel
theorem dX8_host_64 : decode cX8_host 64 = .ok (.iload_n 1, 1) := by decide +kernel
theorem dX8_host_65 : decode cX8_host 65 = .ok (.iadd, 1) := by decide +kernel
theorem dX8_host_66 : decode cX8_host 66 = .ok (.iaload, 1) := by decide +kernel
theorem dX8_host_67 : decode cX8_host 67 = .ok (.ireturn, 1) := by decide +kernel
theorem dX8_would_0 : decode cX8_would 0 = .ok (.aload_n 0, 1) := by decide +kernel
theorem dX8_would_1 : decode cX8_would 1 = .ok (.iload_n 1, 1) := by decide +kernel
theorem dX8_would_2 : decode cX8_would 2 = .ok (.iload_n 2, 1) := by decide +kernel
theorem dX8_would_3 : decode cX8_would 3 = .ok (.invokevirtual 152, 3) := by decide +kernel
theorem dX8_would_6 : decode cX8_would 6 = .ok (.ifCond .ne 7, 3) := by decide +kernel
theorem dX8_would_9 : decode cX8_would 9 = .ok (.iconst (-1), 1) := by decide +kernel
theorem dX8_would_10 : decode cX8_would 10 = .ok (.goto 23, 3) := by decide +kernel
theorem dX8_would_13 : decode cX8_would 13 = .ok (.aload_n 0, 1) := by decide +kernel
theorem dX8_would_14 : decode cX8_would 14 = .ok (.iload_n 1, 1) := by decide +kernel
theorem dX8_would_15 : decode cX8_would 15 = .ok (.iload_n 2, 1) := by decide +kernel
theorem dX8_would_16 : decode cX8_would 16 = .ok (.invokevirtual 155, 3) := by decide +kernel
theorem dX8_would_19 : decode cX8_would 19 = .ok (.ifCond .eq 8, 3) := by decide +kernel
theorem dX8_would_22 : decode cX8_would 22 = .ok (.bipush (-2), 2) := by decide +kernel
theorem dX8_would_24 : decode cX8_would 24 = .ok (.goto 9, 3) := by decide +kernel
theorem dX8_would_27 : decode cX8_would 27 = .ok (.aload_n 0, 1) := by decide +kernel
theorem dX8_would_28 : decode cX8_would 28 = .ok (.iload_n 1, 1) := by decide +kernel
theorem dX8_would_29 : decode cX8_would 29 = .ok (.iload_n 2, 1) := by decide +kernel
theorem dX8_would_30 : decode cX8_would 30 = .ok (.invokevirtual 158, 3) := by decide +kernel
theorem dX8_would_33 : decode cX8_would 33 = .ok (.ireturn, 1) := by decide +kernel
theorem dX8_findWeakest_0 : decode cX8_findWeakest 0 = .ok (.aload_n 0, 1) := by decide +kernel
theorem dX8_findWeakest_1 : decode cX8_findWeakest 1 = .ok (.bipush (-9), 2) := by decide +kernel
theorem dX8_findWeakest_3 : decode cX8_findWeakest 3 = .ok (.putfield 187, 3) := by decide +kernel
theorem dX8_findWeakest_6 : decode cX8_findWeakest 6 = .ok (.aload_n 0, 1) := by decide +kernel
theorem dX8_findWeakest_7 : decode cX8_findWeakest 7 = .ok (.bipush (-9), 2) := by decide +kernel
theorem dX8_findWeakest_9 : decode cX8_findWeakest 9 = .ok (.putfield 190, 3) := by decide +kernel
theorem dX8_findWeakest_12 : decode cX8_findWeakest 12 = .ok (.aload_n 0, 1) := by decide +kernel
theorem dX8_findWeakest_13 : decode cX8_findWeakest 13 = .ok (.invokevirtual 193, 3) := by decide +kernel
theorem dX8_findWeakest_16 : decode cX8_findWeakest 16 = .ok (.istore_n 1, 1) := by decide +kernel
theorem dX8_findWeakest_17 : decode cX8_findWeakest 17 = .ok (.iconst 0, 1) := by decide +kernel
theorem dX8_findWeakest_18 : decode cX8_findWeakest 18 = .ok (.istore_n 2, 1) := by decide +kernel
theorem dX8_findWeakest_19 : decode cX8_findWeakest 19 = .ok (.iload_n 2, 1) := by decide +kernel
theorem dX8_findWeakest_20 : decode cX8_findWeakest 20 = .ok (.aload_n 0, 1) := by decide +kernel
theorem dX8_findWeakest_21 : decode cX8_findWeakest 21 = .ok (.getfield 7, 3) := by decide +kernel
theorem dX8_findWeakest_24 : decode cX8_findWeakest 24 = .ok (.iconst 0, 1) := by decide +kernel
theorem dX8_findWeakest_25 : decode cX8_findWeakest 25 = .ok (.iaload, 1) := by decide +kernel
theorem dX8_findWeakest_26 : decode cX8_findWeakest 26 = .ok (.if_icmp .ge 110, 3) := by decide +kernel
theorem dX8_findWeakest_29 : decode cX8_findWeakest 29 = .ok (.iload_n 2, 1) := by decide +kernel
theorem dX8_findWeakest_30 : decode cX8_findWeakest 30 = .ok (.iconst 1, 1) := by decide +kernel
theorem dX8_findWeakest_31 : decode cX8_findWeakest 31 = .ok (.iadd, 1) := by decide +kernel
theorem dX8_findWeakest_32 : decode cX8_findWeakest 32 = .ok (.istore_n 3, 1) := by decide +kernel
theorem dX8_findWeakest_33 : decode cX8_findWeakest 33 = .ok (.iload_n 3, 1) := by decide +kernel
theorem dX8_findWeakest_34 : decode cX8_findWeakest 34 = .ok (.aload_n 0, 1) := by decide +kernel
theorem dX8_findWeakest_35 : decode cX8_findWeakest 35 = .ok (.getfield 7, 3) := by decide +kernel
theorem dX8_findWeakest_38 : decode cX8_findWeakest 38 = .ok (.iconst 0, 1) := by decide +kernel
theorem dX8_findWeakest_39 : decode cX8_findWeakest 39 = .ok (.iaload, 1) := by decide +kernel
theorem dX8_findWeakest_40 : decode cX8_findWeakest 40 = .ok (.if_icmp .ge 90, 3) := by decide +kernel
theorem dX8_findWeakest_43 : decode cX8_findWeakest 43 = .ok (.aload_n 0, 1) := by decide +kernel
theorem dX8_findWeakest_44 : decode cX8_findWeakest 44 = .ok (.iload_n 2, 1) := by decide +kernel
theorem dX8_findWeakest_45 : decode cX8_findWeakest 45 = .ok (.iload_n 3, 1) := by decide +kernel
theorem dX8_findWeakest_46 : decode cX8_findWeakest 46 = .ok (.invokevirtual 155, 3) := by decide +kernel
theorem dX8_findWeakest_49 : decode cX8_findWeakest 49 = .ok (.ifCond .eq 75, 3) := by decide +kernel
theorem dX8_findWeakest_52 : decode cX8_findWeakest 52 = .ok (.aload_n 0, 1) := by decide +kernel
theorem dX8_findWeakest_53 : decode cX8_findWeakest 53 = .ok (.iload_n 2, 1) := by decide +kernel
theorem dX8_findWeakest_54 : decode cX8_findWeakest 54 = .ok (.iload_n 3, 1) := by decide +kernel
theorem dX8_findWeakest_55 : decode cX8_findWeakest 55 = .ok (.iconst 0, 1) := by decide +kernel
theorem dX8_findWeakest_56 : decode cX8_findWeakest 56 = .ok (.iconst 0, 1) := by decide +kernel
theorem dX8_findWeakest_57 : decode cX8_findWeakest 57 = .ok (.invokevirtual 161, 3) := by decide +kernel
theorem dX8_findWeakest_60 : decode cX8_findWeakest 60 = .ok (.iload_n 1, 1) := by decide +kernel
theorem dX8_findWeakest_61 : decode cX8_findWeakest 61 = .ok (.aload_n 0, 1) := by decide +kernel
theorem dX8_findWeakest_62 : decode cX8_findWeakest 62 = .ok (.invokevirtual 193, 3) := by decide +kernel
theorem dX8_findWeakest_65 : decode cX8_findWeakest 65 = .ok (.isub, 1) := by decide +kernel
theorem dX8_findWeakest_66 : decode cX8_findWeakest 66 = .ok (.istore 4, 2) := by decide +kernel
theorem dX8_findWeakest_68 : decode cX8_findWeakest 68 = .ok (.aload_n 0, 1) := by decide +kernel
theorem dX8_findWeakest_69 : decode cX8_findWeakest 69 = .ok (.iload_n 2, 1) := by decide +kernel
theorem dX8_findWeakest_70 : decode cX8_findWeakest 70 = .ok (.iload_n 3, 1) := by decide +kernel
theorem dX8_findWeakest_71 : decode cX8_findWeakest 71 = .ok (.iconst 1, 1) := by decide +kernel
theorem dX8_findWeakest_72 : decode cX8_findWeakest 72 = .ok (.iconst 0, 1) := by decide +kernel
theorem dX8_findWeakest_73 : decode cX8_findWeakest 73 = .ok (.invokevirtual 161, 3) := by decide +kernel
theorem dX8_findWeakest_76 : decode cX8_findWeakest 76 = .ok (.aload_n 0, 1) := by decide +kernel
theorem dX8_findWeakest_77 : decode cX8_findWeakest 77 = .ok (.iload 4, 2) := by decide +kernel
theorem dX8_findWeakest_79 : decode cX8_findWeakest 79 = .ok (.aload_n 0, 1) := by decide +kernel
theorem dX8_findWeakest_80 : decode cX8_findWeakest 80 = .ok (.getfield 190, 3) := by decide +kernel
theorem dX8_findWeakest_83 : decode cX8_findWeakest 83 = .ok (.if_icmp .le 12, 3) := by decide +kernel
theorem dX8_findWeakest_86 : decode cX8_findWeakest 86 = .ok (.bipush 10, 2) := by decide +kernel
theorem dX8_findWeakest_88 : decode cX8_findWeakest 88 = .ok (.iload_n 2, 1) := by decide +kernel
theorem dX8_findWeakest_89 : decode cX8_findWeakest 89 = .ok (.imul, 1) := by decide +kernel
theorem dX8_findWeakest_90 : decode cX8_findWeakest 90 = .ok (.iload_n 3, 1) := by decide +kernel
theorem dX8_findWeakest_91 : decode cX8_findWeakest 91 = .ok (.iadd, 1) := by decide +kernel
theorem dX8_findWeakest_92 : decode cX8_findWeakest 92 = .ok (.goto 7, 3) := by decide +kernel
theorem dX8_findWeakest_95 : decode cX8_findWeakest 95 = .ok (.aload_n 0, 1) := by decide +kernel
theorem dX8_findWeakest_96 : decode cX8_findWeakest 96 = .ok (.getfield 187, 3) := by decide +kernel
theorem dX8_findWeakest_99 : decode cX8_findWeakest 99 = .ok (.putfield 187, 3) := by decide +kernel
theorem dX8_findWeakest_102 : decode cX8_findWeakest 102 = .ok (.aload_n 0, 1) := by decide +kernel
theorem dX8_findWeakest_103 : decode cX8_findWeakest 103 = .ok (.iload 4, 2) := by decide +kernel
theorem dX8_findWeakest_105 : decode cX8_findWeakest 105 = .ok (.aload_n 0, 1) := by decide +kernel
theorem dX8_findWeakest_106 : decode cX8_findWeakest 106 = .ok (.getfield 190, 3) := by decide +kernel
theorem dX8_findWeakest_109 : decode cX8_findWeakest 109 = .ok (.if_icmp .le 8, 3) := by decide +kernel
theorem dX8_findWeakest_112 : decode cX8_findWeakest 112 = .ok (.iload 4, 2) := by decide +kernel
theorem dX8_findWeakest_114 : decode cX8_findWeakest 114 = .ok (.goto 7, 3) := by decide +kernel
theorem dX8_findWeakest_117 : decode cX8_findWeakest 117 = .ok (.aload_n 0, 1) := by decide +kernel
theorem dX8_findWeakest_118 : decode cX8_findWeakest 118 = .ok (.getfield 190, 3) := by decide +kernel
theorem dX8_findWeakest_121 : decode cX8_findWeakest 121 = .ok (.putfield 190, 3) := by decide +kernel
theorem dX8_findWeakest_124 : decode cX8_findWeakest 124 = .ok (.iinc 3 1, 3) := by decide +kernel
theorem dX8_findWeakest_127 : decode cX8_findWeakest 127 = .ok (.goto (-94), 3) := by decide +kernel
theorem dX8_findWeakest_130 : decode cX8_findWeakest 130 = .ok (.iinc 2 1, 3) := by decide +kernel
theorem dX8_findWeakest_133 : decode cX8_findWeakest 133 = .ok (.goto (-114), 3) := by decide +kernel
theorem dX8_findWeakest_136 : decode cX8_findWeakest 136 = .ok (.return_, 1) := by decide +kernel
theorem dX8_weakest_0 : decode cX8_weakest 0 = .ok (.iload_n 1, 1) := by decide +kernel
theorem dX8_weakest_1 : decode cX8_weakest 1 = .ok (.iconst 0, 1) := by decide +kernel
theorem dX8_weakest_2 : decode cX8_weakest 2 = .ok (.iconst 1, 1) := by decide +kernel
theorem dX8_weakest_3 : decode cX8_weakest 3 = .ok (.invokestatic 55, 3) := by decide +kernel
theorem dX8_weakest_6 : decode cX8_weakest 6 = .ok (.ifCond .ne 5, 3) := by decide +kernel
theorem dX8_weakest_9 : decode cX8_weakest 9 = .ok (.iconst (-1), 1) := by decide +kernel
theorem dX8_weakest_10 : decode cX8_weakest 10 = .ok (.ireturn, 1) := by decide +kernel
theorem dX8_weakest_11 : decode cX8_weakest 11 = .ok (.aload_n 0, 1) := by decide +kernel
theorem dX8_weakest_12 : decode cX8_weakest 12 = .ok (.invokevirtual 196, 3) := by decide +kernel
theorem dX8_weakest_15 : decode cX8_weakest 15 = .ok (.iload_n 1, 1) := by decide +kernel
theorem dX8_weakest_16 : decode cX8_weakest 16 = .ok (.ifCond .ne 10, 3) := by decide +kernel
theorem dX8_weakest_19 : decode cX8_weakest 19 = .ok (.aload_n 0, 1) := by decide +kernel
theorem dX8_weakest_20 : decode cX8_weakest 20 = .ok (.getfield 187, 3) := by decide +kernel
theorem dX8_weakest_23 : decode cX8_weakest 23 = .ok (.goto 7, 3) := by decide +kernel
theorem dX8_weakest_26 : decode cX8_weakest 26 = .ok (.aload_n 0, 1) := by decide +kernel
theorem dX8_weakest_27 : decode cX8_weakest 27 = .ok (.getfield 190, 3) := by decide +kernel
theorem dX8_weakest_30 : decode cX8_weakest 30 = .ok (.ireturn, 1) := by decide +kernel
theorem dX8_sees_0 : decode cX8_sees 0 = .ok (.iload_n 1, 1) := by decide +kernel
theorem dX8_sees_1 : decode cX8_sees 1 = .ok (.iconst 0, 1) := by decide +kernel
theorem dX8_sees_2 : decode cX8_sees 2 = .ok (.bipush 7, 2) := by decide +kernel
theorem dX8_sees_4 : decode cX8_sees 4 = .ok (.invokestatic 55, 3) := by decide +kernel
theorem dX8_sees_7 : decode cX8_sees 7 = .ok (.ifCond .eq 27, 3) := by decide +kernel
theorem dX8_sees_10 : decode cX8_sees 10 = .ok (.iload_n 2, 1) := by decide +kernel
theorem dX8_sees_11 : decode cX8_sees 11 = .ok (.iconst 0, 1) := by decide +kernel
theorem dX8_sees_12 : decode cX8_sees 12 = .ok (.bipush 7, 2) := by decide +kernel
theorem dX8_sees_14 : decode cX8_sees 14 = .ok (.invokestatic 55, 3) := by decide +kernel
theorem dX8_sees_17 : decode cX8_sees 17 = .ok (.ifCond .eq 17, 3) := by decide +kernel
theorem dX8_sees_20 : decode cX8_sees 20 = .ok (.iload_n 1, 1) := by decide +kernel
theorem dX8_sees_21 : decode cX8_sees 21 = .ok (.iload_n 2, 1) := by decide +kernel
theorem dX8_sees_22 : decode cX8_sees 22 = .ok (.if_icmp .eq 12, 3) := by decide +kernel
theorem dX8_sees_25 : decode cX8_sees 25 = .ok (.iload_n 3, 1) := by decide +kernel
theorem dX8_sees_26 : decode cX8_sees 26 = .ok (.iconst 0, 1) := by decide +kernel
theorem dX8_sees_27 : decode cX8_sees 27 = .ok (.iconst 1, 1) := by decide +kernel
theorem dX8_sees_28 : decode cX8_sees 28 = .ok (.invokestatic 55, 3) := by decide +kernel
theorem dX8_sees_31 : decode cX8_sees 31 = .ok (.ifCond .ne 5, 3) := by decide +kernel
theorem dX8_sees_34 : decode cX8_sees 34 = .ok (.iconst (-1), 1) := by decide +kernel
theorem dX8_sees_35 : decode cX8_sees 35 = .ok (.ireturn, 1) := by decide +kernel
theorem dX8_sees_36 : decode cX8_sees 36 = .ok (.aload_n 0, 1) := by decide +kernel
theorem dX8_sees_37 : decode cX8_sees 37 = .ok (.getfield 96, 3) := by decide +kernel
theorem dX8_sees_40 : decode cX8_sees 40 = .ok (.bipush 6, 2) := by decide +kernel
theorem dX8_sees_42 : decode cX8_sees 42 = .ok (.if_icmp .ne 6, 3) := by decide +kernel
theorem dX8_sees_45 : decode cX8_sees 45 = .ok (.bipush (-3), 2) := by decide +kernel
theorem dX8_sees_47 : decode cX8_sees 47 = .ok (.ireturn, 1) := by decide +kernel
theorem dX8_sees_48 : decode cX8_sees 48 = .ok (.aload_n 0, 1) := by decide +kernel
theorem dX8_sees_49 : decode cX8_sees 49 = .ok (.getfield 29, 3) := by decide +kernel
theorem dX8_sees_52 : decode cX8_sees 52 = .ok (.iconst 3, 1) := by decide +kernel
theorem dX8_sees_53 : decode cX8_sees 53 = .ok (.aload_n 0, 1) := by decide +kernel
theorem dX8_sees_54 : decode cX8_sees 54 = .ok (.getfield 96, 3) := by decide +kernel
theorem dX8_sees_57 : decode cX8_sees 57 = .ok (.imul, 1) := by decide +kernel
theorem dX8_sees_58 : decode cX8_sees 58 = .ok (.iload_n 1, 1) := by decide +kernel
theorem dX8_sees_59 : decode cX8_sees 59 = .ok (.iastore, 1) := by decide +kernel
theorem dX8_sees_60 : decode cX8_sees 60 = .ok (.aload_n 0, 1) := by decide +kernel
theorem dX8_sees_61 : decode cX8_sees 61 = .ok (.getfield 29, 3) := by decide +kernel
theorem dX8_sees_64 : decode cX8_sees 64 = .ok (.iconst 3, 1) := by decide +kernel
theorem dX8_sees_65 : decode cX8_sees 65 = .ok (.aload_n 0, 1) := by decide +kernel
theorem dX8_sees_66 : decode cX8_sees 66 = .ok (.getfield 96, 3) := by decide +kernel
theorem dX8_sees_69 : decode cX8_sees 69 = .ok (.imul, 1) := by decide +kernel
theorem dX8_sees_70 : decode cX8_sees 70 = .ok (.iconst 1, 1) := by decide +kernel
theorem dX8_sees_71 : decode cX8_sees 71 = .ok (.iadd, 1) := by decide +kernel
theorem dX8_sees_72 : decode cX8_sees 72 = .ok (.iload_n 2, 1) := by decide +kernel
theorem dX8_sees_73 : decode cX8_sees 73 = .ok (.iastore, 1) := by decide +kernel
theorem dX8_sees_74 : decode cX8_sees 74 = .ok (.aload_n 0, 1) := by decide +kernel
theorem dX8_sees_75 : decode cX8_sees 75 = .ok (.getfield 29, 3) := by decide +kernel
theorem dX8_sees_78 : decode cX8_sees 78 = .ok (.iconst 3, 1) := by decide +kernel
theorem dX8_sees_79 : decode cX8_sees 79 = .ok (.aload_n 0, 1) := by decide +kernel
theorem dX8_sees_80 : decode cX8_sees 80 = .ok (.getfield 96, 3) := by decide +kernel
theorem dX8_sees_83 : decode cX8_sees 83 = .ok (.imul, 1) := by decide +kernel
theorem dX8_sees_84 : decode cX8_sees 84 = .ok (.iconst 2, 1) := by decide +kernel
theorem dX8_sees_85 : decode cX8_sees 85 = .ok (.iadd, 1) := by decide +kernel
theorem dX8_sees_86 : decode cX8_sees 86 = .ok (.iload_n 3, 1) := by decide +kernel
theorem dX8_sees_87 : decode cX8_sees 87 = .ok (.iastore, 1) := by decide +kernel
theorem dX8_sees_88 : decode cX8_sees 88 = .ok (.aload_n 0, 1) := by decide +kernel
theorem dX8_sees_89 : decode cX8_sees 89 = .ok (.dup, 1) := by decide +kernel
theorem dX8_sees_90 : decode cX8_sees 90 = .ok (.getfield 96, 3) := by decide +kernel
theorem dX8_sees_93 : decode cX8_sees 93 = .ok (.iconst 1, 1) := by decide +kernel
theorem dX8_sees_94 : decode cX8_sees 94 = .ok (.iadd, 1) := by decide +kernel
theorem dX8_sees_95 : decode cX8_sees 95 = .ok (.putfield 96, 3) := by decide +kernel
theorem dX8_sees_98 : decode cX8_sees 98 = .ok (.aload_n 0, 1) := by decide +kernel
theorem dX8_sees_99 : decode cX8_sees 99 = .ok (.getfield 96, 3) := by decide +kernel
theorem dX8_sees_102 : decode cX8_sees 102 = .ok (.ireturn, 1) := by decide +kernel
theorem dX8_forget_0 : decode cX8_forget 0 = .ok (.aload_n 0, 1) := by decide +kernel
theorem dX8_forget_1 : decode cX8_forget 1 = .ok (.getfield 96, 3) := by decide +kernel
theorem dX8_forget_4 : decode cX8_forget 4 = .ok (.istore_n 1, 1) := by decide +kernel
theorem dX8_forget_5 : decode cX8_forget 5 = .ok (.aload_n 0, 1) := by decide +kernel
theorem dX8_forget_6 : decode cX8_forget 6 = .ok (.iconst 0, 1) := by decide +kernel
theorem dX8_forget_7 : decode cX8_forget 7 = .ok (.putfield 96, 3) := by decide +kernel
theorem dX8_forget_10 : decode cX8_forget 10 = .ok (.iload_n 1, 1) := by decide +kernel
theorem dX8_forget_11 : decode cX8_forget 11 = .ok (.ireturn, 1) := by decide +kernel
theorem dX8_isSo_0 : decode cX8_isSo 0 = .ok (.iconst 1, 1) := by decide +kernel
theorem dX8_isSo_1 : decode cX8_isSo 1 = .ok (.istore_n 1, 1) := by decide +kernel
theorem dX8_isSo_2 : decode cX8_isSo 2 = .ok (.iconst 0, 1) := by decide +kernel
theorem dX8_isSo_3 : decode cX8_isSo 3 = .ok (.istore_n 2, 1) := by decide +kernel
theorem dX8_isSo_4 : decode cX8_isSo 4 = .ok (.iload_n 2, 1) := by decide +kernel
theorem dX8_isSo_5 : decode cX8_isSo 5 = .ok (.aload_n 0, 1) := by decide +kernel
theorem dX8_isSo_6 : decode cX8_isSo 6 = .ok (.getfield 96, 3) := by decide +kernel
theorem dX8_isSo_9 : decode cX8_isSo 9 = .ok (.if_icmp .ge 86, 3) := by decide +kernel
theorem dX8_isSo_12 : decode cX8_isSo 12 = .ok (.aload_n 0, 1) := by decide +kernel
theorem dX8_isSo_13 : decode cX8_isSo 13 = .ok (.getfield 29, 3) := by decide +kernel
theorem dX8_isSo_16 : decode cX8_isSo 16 = .ok (.iconst 3, 1) := by decide +kernel
theorem dX8_isSo_17 : decode cX8_isSo 17 = .ok (.iload_n 2, 1) := by decide +kernel
theorem dX8_isSo_18 : decode cX8_isSo 18 = .ok (.imul, 1) := by decide +kernel
theorem dX8_isSo_19 : decode cX8_isSo 19 = .ok (.iaload, 1) := by decide +kernel
theorem dX8_isSo_20 : decode cX8_isSo 20 = .ok (.istore_n 3, 1) := by decide +kernel
theorem dX8_isSo_21 : decode cX8_isSo 21 = .ok (.aload_n 0, 1) := by decide +kernel
theorem dX8_isSo_22 : decode cX8_isSo 22 = .ok (.getfield 29, 3) := by decide +kernel
theorem dX8_isSo_25 : decode cX8_isSo 25 = .ok (.iconst 3, 1) := by decide +kernel
theorem dX8_isSo_26 : decode cX8_isSo 26 = .ok (.iload_n 2, 1) := by decide +kernel
theorem dX8_isSo_27 : decode cX8_isSo 27 = .ok (.imul, 1) := by decide +kernel
theorem dX8_isSo_28 : decode cX8_isSo 28 = .ok (.iconst 1, 1) := by decide +kernel
theorem dX8_isSo_29 : decode cX8_isSo 29 = .ok (.iadd, 1) := by decide +kernel
theorem dX8_isSo_30 : decode cX8_isSo 30 = .ok (.iaload, 1) := by decide +kernel
theorem dX8_isSo_31 : decode cX8_isSo 31 = .ok (.istore 4, 2) := by decide +kernel
theorem dX8_isSo_33 : decode cX8_isSo 33 = .ok (.iload_n 1, 1) := by decide +kernel
theorem dX8_isSo_34 : decode cX8_isSo 34 = .ok (.ifCond .eq 53, 3) := by decide +kernel
theorem dX8_isSo_37 : decode cX8_isSo 37 = .ok (.aload_n 0, 1) := by decide +kernel
theorem dX8_isSo_38 : decode cX8_isSo 38 = .ok (.iload_n 3, 1) := by decide +kernel
theorem dX8_isSo_39 : decode cX8_isSo 39 = .ok (.invokevirtual 181, 3) := by decide +kernel
theorem dX8_isSo_42 : decode cX8_isSo 42 = .ok (.ifCond .eq 45, 3) := by decide +kernel
theorem dX8_isSo_45 : decode cX8_isSo 45 = .ok (.aload_n 0, 1) := by decide +kernel
theorem dX8_isSo_46 : decode cX8_isSo 46 = .ok (.iload 4, 2) := by decide +kernel
theorem dX8_isSo_48 : decode cX8_isSo 48 = .ok (.invokevirtual 181, 3) := by decide +kernel
theorem dX8_isSo_51 : decode cX8_isSo 51 = .ok (.ifCond .eq 36, 3) := by decide +kernel
theorem dX8_isSo_54 : decode cX8_isSo 54 = .ok (.aload_n 0, 1) := by decide +kernel
theorem dX8_isSo_55 : decode cX8_isSo 55 = .ok (.iload_n 3, 1) := by decide +kernel
theorem dX8_isSo_56 : decode cX8_isSo 56 = .ok (.iload 4, 2) := by decide +kernel
theorem dX8_isSo_58 : decode cX8_isSo 58 = .ok (.invokevirtual 137, 3) := by decide +kernel
theorem dX8_isSo_61 : decode cX8_isSo 61 = .ok (.aload_n 0, 1) := by decide +kernel
theorem dX8_isSo_62 : decode cX8_isSo 62 = .ok (.getfield 29, 3) := by decide +kernel
theorem dX8_isSo_65 : decode cX8_isSo 65 = .ok (.iconst 3, 1) := by decide +kernel
theorem dX8_isSo_66 : decode cX8_isSo 66 = .ok (.iload_n 2, 1) := by decide +kernel
theorem dX8_isSo_67 : decode cX8_isSo 67 = .ok (.imul, 1) := by decide +kernel
theorem dX8_isSo_68 : decode cX8_isSo 68 = .ok (.iconst 2, 1) := by decide +kernel
theorem dX8_isSo_69 : decode cX8_isSo 69 = .ok (.iadd, 1) := by decide +kernel
theorem dX8_isSo_70 : decode cX8_isSo 70 = .ok (.iaload, 1) := by decide +kernel
theorem dX8_isSo_71 : decode cX8_isSo 71 = .ok (.iconst 1, 1) := by decide +kernel
theorem dX8_isSo_72 : decode cX8_isSo 72 = .ok (.if_icmp .ne 7, 3) := by decide +kernel
theorem dX8_isSo_75 : decode cX8_isSo 75 = .ok (.iconst 1, 1) := by decide +kernel
theorem dX8_isSo_76 : decode cX8_isSo 76 = .ok (.goto 4, 3) := by decide +kernel
theorem dX8_isSo_79 : decode cX8_isSo 79 = .ok (.iconst 0, 1) := by decide +kernel
theorem dX8_isSo_80 : decode cX8_isSo 80 = .ok (.if_icmp .ne 7, 3) := by decide +kernel
theorem dX8_isSo_83 : decode cX8_isSo 83 = .ok (.iconst 1, 1) := by decide +kernel
theorem dX8_isSo_84 : decode cX8_isSo 84 = .ok (.goto 4, 3) := by decide +kernel
theorem dX8_isSo_87 : decode cX8_isSo 87 = .ok (.iconst 0, 1) := by decide +kernel
theorem dX8_isSo_88 : decode cX8_isSo 88 = .ok (.istore_n 1, 1) := by decide +kernel
theorem dX8_isSo_89 : decode cX8_isSo 89 = .ok (.iinc 2 1, 3) := by decide +kernel
theorem dX8_isSo_92 : decode cX8_isSo 92 = .ok (.goto (-88), 3) := by decide +kernel
theorem dX8_isSo_95 : decode cX8_isSo 95 = .ok (.iload_n 1, 1) := by decide +kernel
theorem dX8_isSo_96 : decode cX8_isSo 96 = .ok (.ireturn, 1) := by decide +kernel
theorem dX8_findWhich_0 : decode cX8_findWhich 0 = .ok (.aload_n 0, 1) := by decide +kernel
theorem dX8_findWhich_1 : decode cX8_findWhich 1 = .ok (.iconst 0, 1) := by decide +kernel
theorem dX8_findWhich_2 : decode cX8_findWhich 2 = .ok (.putfield 199, 3) := by decide +kernel
theorem dX8_findWhich_5 : decode cX8_findWhich 5 = .ok (.iconst 0, 1) := by decide +kernel
theorem dX8_findWhich_6 : decode cX8_findWhich 6 = .ok (.istore_n 1, 1) := by decide +kernel
theorem dX8_findWhich_7 : decode cX8_findWhich 7 = .ok (.iload_n 1, 1) := by decide +kernel
theorem dX8_findWhich_8 : decode cX8_findWhich 8 = .ok (.aload_n 0, 1) := by decide +kernel
theorem dX8_findWhich_9 : decode cX8_findWhich 9 = .ok (.getfield 7, 3) := by decide +kernel
theorem dX8_findWhich_12 : decode cX8_findWhich 12 = .ok (.iconst 0, 1) := by decide +kernel
theorem dX8_findWhich_13 : decode cX8_findWhich 13 = .ok (.iaload, 1) := by decide +kernel
theorem dX8_findWhich_14 : decode cX8_findWhich 14 = .ok (.if_icmp .ge 133, 3) := by decide +kernel
theorem dX8_findWhich_17 : decode cX8_findWhich 17 = .ok (.iload_n 1, 1) := by decide +kernel
theorem dX8_findWhich_18 : decode cX8_findWhich 18 = .ok (.iconst 1, 1) := by decide +kernel
theorem dX8_findWhich_19 : decode cX8_findWhich 19 = .ok (.iadd, 1) := by decide +kernel
theorem dX8_findWhich_20 : decode cX8_findWhich 20 = .ok (.istore_n 2, 1) := by decide +kernel
theorem dX8_findWhich_21 : decode cX8_findWhich 21 = .ok (.iload_n 2, 1) := by decide +kernel
theorem dX8_findWhich_22 : decode cX8_findWhich 22 = .ok (.aload_n 0, 1) := by decide +kernel
theorem dX8_findWhich_23 : decode cX8_findWhich 23 = .ok (.getfield 7, 3) := by decide +kernel
theorem dX8_findWhich_26 : decode cX8_findWhich 26 = .ok (.iconst 0, 1) := by decide +kernel
theorem dX8_findWhich_27 : decode cX8_findWhich 27 = .ok (.iaload, 1) := by decide +kernel
theorem dX8_findWhich_28 : decode cX8_findWhich 28 = .ok (.if_icmp .ge 113, 3) := by decide +kernel
theorem dX8_findWhich_31 : decode cX8_findWhich 31 = .ok (.aload_n 0, 1) := by decide +kernel
theorem dX8_findWhich_32 : decode cX8_findWhich 32 = .ok (.iload_n 1, 1) := by decide +kernel
theorem dX8_findWhich_33 : decode cX8_findWhich 33 = .ok (.iload_n 2, 1) := by decide +kernel
theorem dX8_findWhich_34 : decode cX8_findWhich 34 = .ok (.invokevirtual 155, 3) := by decide +kernel
theorem dX8_findWhich_37 : decode cX8_findWhich 37 = .ok (.ifCond .eq 98, 3) := by decide +kernel
theorem dX8_findWhich_40 : decode cX8_findWhich 40 = .ok (.aload_n 0, 1) := by decide +kernel
theorem dX8_findWhich_41 : decode cX8_findWhich 41 = .ok (.iload_n 1, 1) := by decide +kernel
theorem dX8_findWhich_42 : decode cX8_findWhich 42 = .ok (.iload_n 2, 1) := by decide +kernel
theorem dX8_findWhich_43 : decode cX8_findWhich 43 = .ok (.iconst 0, 1) := by decide +kernel
theorem dX8_findWhich_44 : decode cX8_findWhich 44 = .ok (.iconst 0, 1) := by decide +kernel
theorem dX8_findWhich_45 : decode cX8_findWhich 45 = .ok (.invokevirtual 161, 3) := by decide +kernel
theorem dX8_findWhich_48 : decode cX8_findWhich 48 = .ok (.aload_n 0, 1) := by decide +kernel
theorem dX8_findWhich_49 : decode cX8_findWhich 49 = .ok (.invokevirtual 202, 3) := by decide +kernel
theorem dX8_findWhich_52 : decode cX8_findWhich 52 = .ok (.ifCond .eq 75, 3) := by decide +kernel
theorem dX8_findWhich_55 : decode cX8_findWhich 55 = .ok (.aload_n 0, 1) := by decide +kernel
theorem dX8_findWhich_56 : decode cX8_findWhich 56 = .ok (.getfield 35, 3) := by decide +kernel
theorem dX8_findWhich_59 : decode cX8_findWhich 59 = .ok (.aload_n 0, 1) := by decide +kernel
theorem dX8_findWhich_60 : decode cX8_findWhich 60 = .ok (.getfield 199, 3) := by decide +kernel
theorem dX8_findWhich_63 : decode cX8_findWhich 63 = .ok (.bipush 10, 2) := by decide +kernel
theorem dX8_findWhich_65 : decode cX8_findWhich 65 = .ok (.iload_n 1, 1) := by decide +kernel
theorem dX8_findWhich_66 : decode cX8_findWhich 66 = .ok (.imul, 1) := by decide +kernel
theorem dX8_findWhich_67 : decode cX8_findWhich 67 = .ok (.iload_n 2, 1) := by decide +kernel
theorem dX8_findWhich_68 : decode cX8_findWhich 68 = .ok (.iadd, 1) := by decide +kernel
theorem dX8_findWhich_69 : decode cX8_findWhich 69 = .ok (.iastore, 1) := by decide +kernel
theorem dX8_findWhich_70 : decode cX8_findWhich 70 = .ok (.iconst 0, 1) := by decide +kernel
theorem dX8_findWhich_71 : decode cX8_findWhich 71 = .ok (.istore_n 3, 1) := by decide +kernel
theorem dX8_findWhich_72 : decode cX8_findWhich 72 = .ok (.iload_n 3, 1) := by decide +kernel
theorem dX8_findWhich_73 : decode cX8_findWhich 73 = .ok (.bipush 8, 2) := by decide +kernel
theorem dX8_findWhich_75 : decode cX8_findWhich 75 = .ok (.if_icmp .ge 42, 3) := by decide +kernel
theorem dX8_findWhich_78 : decode cX8_findWhich 78 = .ok (.aload_n 0, 1) := by decide +kernel
theorem dX8_findWhich_79 : decode cX8_findWhich 79 = .ok (.getfield 38, 3) := by decide +kernel
theorem dX8_findWhich_82 : decode cX8_findWhich 82 = .ok (.bipush 8, 2) := by decide +kernel
theorem dX8_findWhich_84 : decode cX8_findWhich 84 = .ok (.aload_n 0, 1) := by decide +kernel
theorem dX8_findWhich_85 : decode cX8_findWhich 85 = .ok (.getfield 199, 3) := by decide +kernel
theorem dX8_findWhich_88 : decode cX8_findWhich 88 = .ok (.imul, 1) := by decide +kernel
theorem dX8_findWhich_89 : decode cX8_findWhich 89 = .ok (.iload_n 3, 1) := by decide +kernel
theorem dX8_findWhich_90 : decode cX8_findWhich 90 = .ok (.iadd, 1) := by decide +kernel
theorem dX8_findWhich_91 : decode cX8_findWhich 91 = .ok (.iload_n 3, 1) := by decide +kernel
theorem dX8_findWhich_92 : decode cX8_findWhich 92 = .ok (.aload_n 0, 1) := by decide +kernel
theorem dX8_findWhich_93 : decode cX8_findWhich 93 = .ok (.getfield 7, 3) := by decide +kernel
theorem dX8_findWhich_96 : decode cX8_findWhich 96 = .ok (.iconst 1, 1) := by decide +kernel
theorem dX8_findWhich_97 : decode cX8_findWhich 97 = .ok (.iaload, 1) := by decide +kernel
theorem dX8_findWhich_98 : decode cX8_findWhich 98 = .ok (.if_icmp .ge 11, 3) := by decide +kernel
theorem dX8_findWhich_101 : decode cX8_findWhich 101 = .ok (.aload_n 0, 1) := by decide +kernel
theorem dX8_findWhich_102 : decode cX8_findWhich 102 = .ok (.iload_n 3, 1) := by decide +kernel
theorem dX8_findWhich_103 : decode cX8_findWhich 103 = .ok (.invokevirtual 140, 3) := by decide +kernel
theorem dX8_findWhich_106 : decode cX8_findWhich 106 = .ok (.goto 4, 3) := by decide +kernel
theorem dX8_findWhich_109 : decode cX8_findWhich 109 = .ok (.iconst 0, 1) := by decide +kernel
theorem dX8_findWhich_110 : decode cX8_findWhich 110 = .ok (.iastore, 1) := by decide +kernel
theorem dX8_findWhich_111 : decode cX8_findWhich 111 = .ok (.iinc 3 1, 3) := by decide +kernel
theorem dX8_findWhich_114 : decode cX8_findWhich 114 = .ok (.goto (-42), 3) := by decide +kernel
theorem dX8_findWhich_117 : decode cX8_findWhich 117 = .ok (.aload_n 0, 1) := by decide +kernel
theorem dX8_findWhich_118 : decode cX8_findWhich 118 = .ok (.dup, 1) := by decide +kernel
theorem dX8_findWhich_119 : decode cX8_findWhich 119 = .ok (.getfield 199, 3) := by decide +kernel
theorem dX8_findWhich_122 : decode cX8_findWhich 122 = .ok (.iconst 1, 1) := by decide +kernel
theorem dX8_findWhich_123 : decode cX8_findWhich 123 = .ok (.iadd, 1) := by decide +kernel
theorem dX8_findWhich_124 : decode cX8_findWhich 124 = .ok (.putfield 199, 3) := by decide +kernel
theorem dX8_findWhich_127 : decode cX8_findWhich 127 = .ok (.aload_n 0, 1) := by decide +kernel
theorem dX8_findWhich_128 : decode cX8_findWhich 128 = .ok (.iload_n 1, 1) := by decide +kernel
theorem dX8_findWhich_129 : decode cX8_findWhich 129 = .ok (.iload_n 2, 1) := by decide +kernel
theorem dX8_findWhich_130 : decode cX8_findWhich 130 = .ok (.iconst 1, 1) := by decide +kernel
theorem dX8_findWhich_131 : decode cX8_findWhich 131 = .ok (.iconst 0, 1) := by decide +kernel
theorem dX8_findWhich_132 : decode cX8_findWhich 132 = .ok (.invokevirtual 161, 3) := by decide +kernel
theorem dX8_findWhich_135 : decode cX8_findWhich 135 = .ok (.iinc 2 1, 3) := by decide +kernel
theorem dX8_findWhich_138 : decode cX8_findWhich 138 = .ok (.goto (-117), 3) := by decide +kernel
theorem dX8_findWhich_141 : decode cX8_findWhich 141 = .ok (.iinc 1 1, 3) := by decide +kernel
theorem dX8_findWhich_144 : decode cX8_findWhich 144 = .ok (.goto (-137), 3) := by decide +kernel
theorem dX8_findWhich_147 : decode cX8_findWhich 147 = .ok (.return_, 1) := by decide +kernel
theorem dX8_which_0 : decode cX8_which 0 = .ok (.iload_n 1, 1) := by decide +kernel
theorem dX8_which_1 : decode cX8_which 1 = .ok (.iconst 0, 1) := by decide +kernel
theorem dX8_which_2 : decode cX8_which 2 = .ok (.iconst 1, 1) := by decide +kernel
theorem dX8_which_3 : decode cX8_which 3 = .ok (.invokestatic 55, 3) := by decide +kernel
theorem dX8_which_6 : decode cX8_which 6 = .ok (.ifCond .ne 5, 3) := by decide +kernel
theorem dX8_which_9 : decode cX8_which 9 = .ok (.iconst (-1), 1) := by decide +kernel
theorem dX8_which_10 : decode cX8_which 10 = .ok (.ireturn, 1) := by decide +kernel
theorem dX8_which_11 : decode cX8_which 11 = .ok (.aload_n 0, 1) := by decide +kernel
theorem dX8_which_12 : decode cX8_which 12 = .ok (.invokevirtual 205, 3) := by decide +kernel
theorem dX8_which_15 : decode cX8_which 15 = .ok (.iload_n 1, 1) := by decide +kernel
theorem dX8_which_16 : decode cX8_which 16 = .ok (.ifCond .ne 10, 3) := by decide +kernel
theorem dX8_which_19 : decode cX8_which 19 = .ok (.aload_n 0, 1) := by decide +kernel
theorem dX8_which_20 : decode cX8_which 20 = .ok (.getfield 199, 3) := by decide +kernel
theorem dX8_which_23 : decode cX8_which 23 = .ok (.goto 21, 3) := by decide +kernel
theorem dX8_which_26 : decode cX8_which 26 = .ok (.aload_n 0, 1) := by decide +kernel
theorem dX8_which_27 : decode cX8_which 27 = .ok (.getfield 199, 3) := by decide +kernel
theorem dX8_which_30 : decode cX8_which 30 = .ok (.ifCond .ne 8, 3) := by decide +kernel
theorem dX8_which_33 : decode cX8_which 33 = .ok (.bipush (-9), 2) := by decide +kernel
theorem dX8_which_35 : decode cX8_which 35 = .ok (.goto 9, 3) := by decide +kernel
theorem dX8_which_38 : decode cX8_which 38 = .ok (.aload_n 0, 1) := by decide +kernel
theorem dX8_which_39 : decode cX8_which 39 = .ok (.getfield 35, 3) := by decide +kernel
theorem dX8_which_42 : decode cX8_which 42 = .ok (.iconst 0, 1) := by decide +kernel
theorem dX8_which_43 : decode cX8_which 43 = .ok (.iaload, 1) := by decide +kernel
theorem dX8_which_44 : decode cX8_which 44 = .ok (.ireturn, 1) := by decide +kernel
theorem dX8_ask_0 : decode cX8_ask 0 = .ok (.aload_n 0, 1) := by decide +kernel
theorem dX8_ask_1 : decode cX8_ask 1 = .ok (.invokevirtual 205, 3) := by decide +kernel
theorem dX8_ask_4 : decode cX8_ask 4 = .ok (.bipush (-9), 2) := by decide +kernel
theorem dX8_ask_6 : decode cX8_ask 6 = .ok (.istore_n 1, 1) := by decide +kernel
theorem dX8_ask_7 : decode cX8_ask 7 = .ok (.aload_n 0, 1) := by decide +kernel
theorem dX8_ask_8 : decode cX8_ask 8 = .ok (.getfield 199, 3) := by decide +kernel
theorem dX8_ask_11 : decode cX8_ask 11 = .ok (.iconst 1, 1) := by decide +kernel
theorem dX8_ask_12 : decode cX8_ask 12 = .ok (.iadd, 1) := by decide +kernel
theorem dX8_ask_13 : decode cX8_ask 13 = .ok (.istore_n 2, 1) := by decide +kernel
theorem dX8_ask_14 : decode cX8_ask 14 = .ok (.iconst 0, 1) := by decide +kernel
theorem dX8_ask_15 : decode cX8_ask 15 = .ok (.istore_n 3, 1) := by decide +kernel
theorem dX8_ask_16 : decode cX8_ask 16 = .ok (.iload_n 3, 1) := by decide +kernel
theorem dX8_ask_17 : decode cX8_ask 17 = .ok (.aload_n 0, 1) := by decide +kernel
theorem dX8_ask_18 : decode cX8_ask 18 = .ok (.getfield 7, 3) := by decide +kernel
theorem dX8_ask_21 : decode cX8_ask 21 = .ok (.iconst 1, 1) := by decide +kernel
theorem dX8_ask_22 : decode cX8_ask 22 = .ok (.iaload, 1) := by decide +kernel
theorem dX8_ask_23 : decode cX8_ask 23 = .ok (.if_icmp .ge 147, 3) := by decide +kernel
theorem dX8_ask_26 : decode cX8_ask 26 = .ok (.aload_n 0, 1) := by decide +kernel
theorem dX8_ask_27 : decode cX8_ask 27 = .ok (.getfield 199, 3) := by decide +kernel
theorem dX8_ask_30 : decode cX8_ask 30 = .ok (.iconst 1, 1) := by decide +kernel
theorem dX8_ask_31 : decode cX8_ask 31 = .ok (.if_icmp .le 139, 3) := by decide +kernel
theorem dX8_ask_34 : decode cX8_ask 34 = .ok (.iload_n 3, 1) := by decide +kernel
theorem dX8_ask_35 : decode cX8_ask 35 = .ok (.iconst 1, 1) := by decide +kernel
theorem dX8_ask_36 : decode cX8_ask 36 = .ok (.iadd, 1) := by decide +kernel
theorem dX8_ask_37 : decode cX8_ask 37 = .ok (.istore 4, 2) := by decide +kernel
theorem dX8_ask_39 : decode cX8_ask 39 = .ok (.iload 4, 2) := by decide +kernel
theorem dX8_ask_41 : decode cX8_ask 41 = .ok (.aload_n 0, 1) := by decide +kernel
theorem dX8_ask_42 : decode cX8_ask 42 = .ok (.getfield 7, 3) := by decide +kernel
theorem dX8_ask_45 : decode cX8_ask 45 = .ok (.iconst 1, 1) := by decide +kernel
theorem dX8_ask_46 : decode cX8_ask 46 = .ok (.iaload, 1) := by decide +kernel
theorem dX8_ask_47 : decode cX8_ask 47 = .ok (.if_icmp .ge 117, 3) := by decide +kernel
theorem dX8_ask_50 : decode cX8_ask 50 = .ok (.iconst 0, 1) := by decide +kernel
theorem dX8_ask_51 : decode cX8_ask 51 = .ok (.istore 5, 2) := by decide +kernel
theorem dX8_ask_53 : decode cX8_ask 53 = .ok (.iconst 0, 1) := by decide +kernel
theorem dX8_ask_54 : decode cX8_ask 54 = .ok (.istore 6, 2) := by decide +kernel
theorem dX8_ask_56 : decode cX8_ask 56 = .ok (.iload 6, 2) := by decide +kernel
theorem dX8_ask_58 : decode cX8_ask 58 = .ok (.aload_n 0, 1) := by decide +kernel
theorem dX8_ask_59 : decode cX8_ask 59 = .ok (.getfield 199, 3) := by decide +kernel
theorem dX8_ask_62 : decode cX8_ask 62 = .ok (.if_icmp .ge 39, 3) := by decide +kernel
theorem dX8_ask_65 : decode cX8_ask 65 = .ok (.iload 5, 2) := by decide +kernel
theorem dX8_ask_67 : decode cX8_ask 67 = .ok (.aload_n 0, 1) := by decide +kernel
theorem dX8_ask_68 : decode cX8_ask 68 = .ok (.getfield 38, 3) := by decide +kernel
theorem dX8_ask_71 : decode cX8_ask 71 = .ok (.bipush 8, 2) := by decide +kernel
theorem dX8_ask_73 : decode cX8_ask 73 = .ok (.iload 6, 2) := by decide +kernel
theorem dX8_ask_75 : decode cX8_ask 75 = .ok (.imul, 1) := by decide +kernel
theorem dX8_ask_76 : decode cX8_ask 76 = .ok (.iload_n 3, 1) := by decide +kernel
theorem dX8_ask_77 : decode cX8_ask 77 = .ok (.iadd, 1) := by decide +kernel
theorem dX8_ask_78 : decode cX8_ask 78 = .ok (.iaload, 1) := by decide +kernel
theorem dX8_ask_79 : decode cX8_ask 79 = .ok (.iload 4, 2) := by decide +kernel
theorem dX8_ask_81 : decode cX8_ask 81 = .ok (.invokestatic 102, 3) := by decide +kernel
theorem dX8_ask_84 : decode cX8_ask 84 = .ok (.ifCond .eq 7, 3) := by decide +kernel
theorem dX8_ask_87 : decode cX8_ask 87 = .ok (.iconst 1, 1) := by decide +kernel
theorem dX8_ask_88 : decode cX8_ask 88 = .ok (.goto 4, 3) := by decide +kernel
theorem dX8_ask_91 : decode cX8_ask 91 = .ok (.iconst 0, 1) := by decide +kernel
theorem dX8_ask_92 : decode cX8_ask 92 = .ok (.iadd, 1) := by decide +kernel
theorem dX8_ask_93 : decode cX8_ask 93 = .ok (.istore 5, 2) := by decide +kernel
theorem dX8_ask_95 : decode cX8_ask 95 = .ok (.iinc 6 1, 3) := by decide +kernel
theorem dX8_ask_98 : decode cX8_ask 98 = .ok (.goto (-42), 3) := by decide +kernel
theorem dX8_ask_101 : decode cX8_ask 101 = .ok (.iload 5, 2) := by decide +kernel
theorem dX8_ask_103 : decode cX8_ask 103 = .ok (.aload_n 0, 1) := by decide +kernel
theorem dX8_ask_104 : decode cX8_ask 104 = .ok (.getfield 199, 3) := by decide +kernel
theorem dX8_ask_107 : decode cX8_ask 107 = .ok (.iload 5, 2) := by decide +kernel
theorem dX8_ask_109 : decode cX8_ask 109 = .ok (.isub, 1) := by decide +kernel
theorem dX8_ask_110 : decode cX8_ask 110 = .ok (.if_icmp .le 8, 3) := by decide +kernel
theorem dX8_ask_113 : decode cX8_ask 113 = .ok (.iload 5, 2) := by decide +kernel
theorem dX8_ask_115 : decode cX8_ask 115 = .ok (.goto 10, 3) := by decide +kernel
theorem dX8_ask_118 : decode cX8_ask 118 = .ok (.aload_n 0, 1) := by decide +kernel
theorem dX8_ask_119 : decode cX8_ask 119 = .ok (.getfield 199, 3) := by decide +kernel
theorem dX8_ask_122 : decode cX8_ask 122 = .ok (.iload 5, 2) := by decide +kernel
theorem dX8_ask_124 : decode cX8_ask 124 = .ok (.isub, 1) := by decide +kernel
theorem dX8_ask_125 : decode cX8_ask 125 = .ok (.istore 6, 2) := by decide +kernel
theorem dX8_ask_127 : decode cX8_ask 127 = .ok (.iload 6, 2) := by decide +kernel
theorem dX8_ask_129 : decode cX8_ask 129 = .ok (.iload_n 2, 1) := by decide +kernel
theorem dX8_ask_130 : decode cX8_ask 130 = .ok (.if_icmp .ge 13, 3) := by decide +kernel
theorem dX8_ask_133 : decode cX8_ask 133 = .ok (.bipush 10, 2) := by decide +kernel
theorem dX8_ask_135 : decode cX8_ask 135 = .ok (.iload_n 3, 1) := by decide +kernel
theorem dX8_ask_136 : decode cX8_ask 136 = .ok (.imul, 1) := by decide +kernel
theorem dX8_ask_137 : decode cX8_ask 137 = .ok (.iload 4, 2) := by decide +kernel
theorem dX8_ask_139 : decode cX8_ask 139 = .ok (.iadd, 1) := by decide +kernel
theorem dX8_ask_140 : decode cX8_ask 140 = .ok (.goto 4, 3) := by decide +kernel
theorem dX8_ask_143 : decode cX8_ask 143 = .ok (.iload_n 1, 1) := by decide +kernel
theorem dX8_ask_144 : decode cX8_ask 144 = .ok (.istore_n 1, 1) := by decide +kernel
theorem dX8_ask_145 : decode cX8_ask 145 = .ok (.iload 6, 2) := by decide +kernel
theorem dX8_ask_147 : decode cX8_ask 147 = .ok (.iload_n 2, 1) := by decide +kernel
theorem dX8_ask_148 : decode cX8_ask 148 = .ok (.if_icmp .ge 8, 3) := by decide +kernel
theorem dX8_ask_151 : decode cX8_ask 151 = .ok (.iload 6, 2) := by decide +kernel
theorem dX8_ask_153 : decode cX8_ask 153 = .ok (.goto 4, 3) := by decide +kernel
theorem dX8_ask_156 : decode cX8_ask 156 = .ok (.iload_n 2, 1) := by decide +kernel
theorem dX8_ask_157 : decode cX8_ask 157 = .ok (.istore_n 2, 1) := by decide +kernel
theorem dX8_ask_158 : decode cX8_ask 158 = .ok (.iinc 4 1, 3) := by decide +kernel
theorem dX8_ask_161 : decode cX8_ask 161 = .ok (.goto (-122), 3) := by decide +kernel
theorem dX8_ask_164 : decode cX8_ask 164 = .ok (.iinc 3 1, 3) := by decide +kernel
theorem dX8_ask_167 : decode cX8_ask 167 = .ok (.goto (-151), 3) := by decide +kernel
theorem dX8_ask_170 : decode cX8_ask 170 = .ok (.iload_n 1, 1) := by decide +kernel
theorem dX8_ask_171 : decode cX8_ask 171 = .ok (.ireturn, 1) := by decide +kernel
theorem dX8_keep_0 : decode cX8_keep 0 = .ok (.iload_n 1, 1) := by decide +kernel
theorem dX8_keep_1 : decode cX8_keep 1 = .ok (.iconst 0, 1) := by decide +kernel
theorem dX8_keep_2 : decode cX8_keep 2 = .ok (.iconst 1, 1) := by decide +kernel
theorem dX8_keep_3 : decode cX8_keep 3 = .ok (.invokestatic 55, 3) := by decide +kernel
theorem dX8_keep_6 : decode cX8_keep 6 = .ok (.ifCond .ne 5, 3) := by decide +kernel
theorem dX8_keep_9 : decode cX8_keep 9 = .ok (.iconst (-1), 1) := by decide +kernel
theorem dX8_keep_10 : decode cX8_keep 10 = .ok (.ireturn, 1) := by decide +kernel
theorem dX8_keep_11 : decode cX8_keep 11 = .ok (.aload_n 0, 1) := by decide +kernel
theorem dX8_keep_12 : decode cX8_keep 12 = .ok (.getfield 7, 3) := by decide +kernel
theorem dX8_keep_15 : decode cX8_keep 15 = .ok (.iconst 0, 1) := by decide +kernel
theorem dX8_keep_16 : decode cX8_keep 16 = .ok (.aload_n 0, 1) := by decide +kernel
theorem dX8_keep_17 : decode cX8_keep 17 = .ok (.getfield 19, 3) := by decide +kernel
theorem dX8_keep_20 : decode cX8_keep 20 = .ok (.bipush 87, 2) := by decide +kernel
theorem dX8_keep_22 : decode cX8_keep 22 = .ok (.iload_n 1, 1) := by decide +kernel
theorem dX8_keep_23 : decode cX8_keep 23 = .ok (.imul, 1) := by decide +kernel
theorem dX8_keep_24 : decode cX8_keep 24 = .ok (.invokestatic 45, 3) := by decide +kernel
theorem dX8_keep_27 : decode cX8_keep 27 = .ok (.aload_n 0, 1) := by decide +kernel
theorem dX8_keep_28 : decode cX8_keep 28 = .ok (.getfield 22, 3) := by decide +kernel
theorem dX8_keep_31 : decode cX8_keep 31 = .ok (.iload_n 1, 1) := by decide +kernel
theorem dX8_keep_32 : decode cX8_keep 32 = .ok (.iconst 1, 1) := by decide +kernel
theorem dX8_keep_33 : decode cX8_keep 33 = .ok (.bastore, 1) := by decide +kernel
theorem dX8_keep_34 : decode cX8_keep 34 = .ok (.aload_n 0, 1) := by decide +kernel
theorem dX8_keep_35 : decode cX8_keep 35 = .ok (.invokevirtual 178, 3) := by decide +kernel
theorem dX8_keep_38 : decode cX8_keep 38 = .ok (.ireturn, 1) := by decide +kernel
theorem dX8_back_0 : decode cX8_back 0 = .ok (.iload_n 1, 1) := by decide +kernel
theorem dX8_back_1 : decode cX8_back 1 = .ok (.iconst 0, 1) := by decide +kernel
theorem dX8_back_2 : decode cX8_back 2 = .ok (.iconst 1, 1) := by decide +kernel
theorem dX8_back_3 : decode cX8_back 3 = .ok (.invokestatic 55, 3) := by decide +kernel
theorem dX8_back_6 : decode cX8_back 6 = .ok (.ifCond .ne 5, 3) := by decide +kernel
theorem dX8_back_9 : decode cX8_back 9 = .ok (.iconst (-1), 1) := by decide +kernel
theorem dX8_back_10 : decode cX8_back 10 = .ok (.ireturn, 1) := by decide +kernel
theorem dX8_back_11 : decode cX8_back 11 = .ok (.aload_n 0, 1) := by decide +kernel
theorem dX8_back_12 : decode cX8_back 12 = .ok (.getfield 22, 3) := by decide +kernel
theorem dX8_back_15 : decode cX8_back 15 = .ok (.iload_n 1, 1) := by decide +kernel
theorem dX8_back_16 : decode cX8_back 16 = .ok (.baload, 1) := by decide +kernel
theorem dX8_back_17 : decode cX8_back 17 = .ok (.ifCond .ne 6, 3) := by decide +kernel
theorem dX8_back_20 : decode cX8_back 20 = .ok (.bipush (-2), 2) := by decide +kernel
theorem dX8_back_22 : decode cX8_back 22 = .ok (.ireturn, 1) := by decide +kernel
theorem dX8_back_23 : decode cX8_back 23 = .ok (.aload_n 0, 1) := by decide +kernel
theorem dX8_back_24 : decode cX8_back 24 = .ok (.getfield 19, 3) := by decide +kernel
theorem dX8_back_27 : decode cX8_back 27 = .ok (.bipush 87, 2) := by decide +kernel
theorem dX8_back_29 : decode cX8_back 29 = .ok (.iload_n 1, 1) := by decide +kernel
theorem dX8_back_30 : decode cX8_back 30 = .ok (.imul, 1) := by decide +kernel
theorem dX8_back_31 : decode cX8_back 31 = .ok (.aload_n 0, 1) := by decide +kernel
theorem dX8_back_32 : decode cX8_back 32 = .ok (.getfield 7, 3) := by decide +kernel
theorem dX8_back_35 : decode cX8_back 35 = .ok (.iconst 0, 1) := by decide +kernel
theorem dX8_back_36 : decode cX8_back 36 = .ok (.invokestatic 45, 3) := by decide +kernel
theorem dX8_back_39 : decode cX8_back 39 = .ok (.aload_n 0, 1) := by decide +kernel
theorem dX8_back_40 : decode cX8_back 40 = .ok (.iconst 0, 1) := by decide +kernel
theorem dX8_back_41 : decode cX8_back 41 = .ok (.putfield 41, 3) := by decide +kernel
theorem dX8_back_44 : decode cX8_back 44 = .ok (.aload_n 0, 1) := by decide +kernel
theorem dX8_back_45 : decode cX8_back 45 = .ok (.invokevirtual 178, 3) := by decide +kernel
theorem dX8_back_48 : decode cX8_back 48 = .ok (.ireturn, 1) := by decide +kernel
theorem dX8_sumOf_0 : decode cX8_sumOf 0 = .ok (.iconst 0, 1) := by decide +kernel
theorem dX8_sumOf_1 : decode cX8_sumOf 1 = .ok (.istore 4, 2) := by decide +kernel
theorem dX8_sumOf_3 : decode cX8_sumOf 3 = .ok (.iconst 0, 1) := by decide +kernel
theorem dX8_sumOf_4 : decode cX8_sumOf 4 = .ok (.istore 5, 2) := by decide +kernel
theorem dX8_sumOf_6 : decode cX8_sumOf 6 = .ok (.iload 5, 2) := by decide +kernel
theorem dX8_sumOf_8 : decode cX8_sumOf 8 = .ok (.iload_n 2, 1) := by decide +kernel
theorem dX8_sumOf_9 : decode cX8_sumOf 9 = .ok (.if_icmp .ge 42, 3) := by decide +kernel
theorem dX8_sumOf_12 : decode cX8_sumOf 12 = .ok (.iload 4, 2) := by decide +kernel
theorem dX8_sumOf_14 : decode cX8_sumOf 14 = .ok (.iload_n 3, 1) := by decide +kernel
theorem dX8_sumOf_15 : decode cX8_sumOf 15 = .ok (.ifCond .eq 18, 3) := by decide +kernel
theorem dX8_sumOf_18 : decode cX8_sumOf 18 = .ok (.aload_n 0, 1) := by decide +kernel
theorem dX8_sumOf_19 : decode cX8_sumOf 19 = .ok (.getfield 7, 3) := by decide +kernel
theorem dX8_sumOf_22 : decode cX8_sumOf 22 = .ok (.iload_n 1, 1) := by decide +kernel
theorem dX8_sumOf_23 : decode cX8_sumOf 23 = .ok (.iload 5, 2) := by decide +kernel
theorem dX8_sumOf_25 : decode cX8_sumOf 25 = .ok (.iadd, 1) := by decide +kernel
theorem dX8_sumOf_26 : decode cX8_sumOf 26 = .ok (.iaload, 1) := by decide +kernel
theorem dX8_sumOf_27 : decode cX8_sumOf 27 = .ok (.invokestatic 143, 3) := by decide +kernel
theorem dX8_sumOf_30 : decode cX8_sumOf 30 = .ok (.goto 12, 3) := by decide +kernel
theorem dX8_sumOf_33 : decode cX8_sumOf 33 = .ok (.aload_n 0, 1) := by decide +kernel
theorem dX8_sumOf_34 : decode cX8_sumOf 34 = .ok (.getfield 7, 3) := by decide +kernel
theorem dX8_sumOf_37 : decode cX8_sumOf 37 = .ok (.iload_n 1, 1) := by decide +kernel
theorem dX8_sumOf_38 : decode cX8_sumOf 38 = .ok (.iload 5, 2) := by decide +kernel
theorem dX8_sumOf_40 : decode cX8_sumOf 40 = .ok (.iadd, 1) := by decide +kernel
theorem dX8_sumOf_41 : decode cX8_sumOf 41 = .ok (.iaload, 1) := by decide +kernel
theorem dX8_sumOf_42 : decode cX8_sumOf 42 = .ok (.iadd, 1) := by decide +kernel
theorem dX8_sumOf_43 : decode cX8_sumOf 43 = .ok (.istore 4, 2) := by decide +kernel
theorem dX8_sumOf_45 : decode cX8_sumOf 45 = .ok (.iinc 5 1, 3) := by decide +kernel
theorem dX8_sumOf_48 : decode cX8_sumOf 48 = .ok (.goto (-42), 3) := by decide +kernel
theorem dX8_sumOf_51 : decode cX8_sumOf 51 = .ok (.iload 4, 2) := by decide +kernel
theorem dX8_sumOf_53 : decode cX8_sumOf 53 = .ok (.ireturn, 1) := by decide +kernel
theorem dX8_count_0 : decode cX8_count 0 = .ok (.iload_n 1, 1) := by decide +kernel
theorem dX8_count_1 : decode cX8_count 1 = .ok (.tableswitch 143 0 10 #[59, 66, 73, 78, 90, 102, 109, 123, 128, 133, 138], 59) := by decide +kernel
theorem dX8_count_60 : decode cX8_count 60 = .ok (.aload_n 0, 1) := by decide +kernel
theorem dX8_count_61 : decode cX8_count 61 = .ok (.getfield 7, 3) := by decide +kernel
theorem dX8_count_64 : decode cX8_count 64 = .ok (.iconst 0, 1) := by decide +kernel
theorem dX8_count_65 : decode cX8_count 65 = .ok (.iaload, 1) := by decide +kernel
theorem dX8_count_66 : decode cX8_count 66 = .ok (.ireturn, 1) := by decide +kernel
theorem dX8_count_67 : decode cX8_count 67 = .ok (.aload_n 0, 1) := by decide +kernel
theorem dX8_count_68 : decode cX8_count 68 = .ok (.getfield 7, 3) := by decide +kernel
theorem dX8_count_71 : decode cX8_count 71 = .ok (.iconst 1, 1) := by decide +kernel
theorem dX8_count_72 : decode cX8_count 72 = .ok (.iaload, 1) := by decide +kernel
theorem dX8_count_73 : decode cX8_count 73 = .ok (.ireturn, 1) := by decide +kernel
theorem dX8_count_74 : decode cX8_count 74 = .ok (.aload_n 0, 1) := by decide +kernel
theorem dX8_count_75 : decode cX8_count 75 = .ok (.invokevirtual 178, 3) := by decide +kernel
theorem dX8_count_78 : decode cX8_count 78 = .ok (.ireturn, 1) := by decide +kernel
theorem dX8_count_79 : decode cX8_count 79 = .ok (.aload_n 0, 1) := by decide +kernel
theorem dX8_count_80 : decode cX8_count 80 = .ok (.bipush 35, 2) := by decide +kernel
theorem dX8_count_82 : decode cX8_count 82 = .ok (.bipush 6, 2) := by decide +kernel
theorem dX8_count_84 : decode cX8_count 84 = .ok (.iconst 1, 1) := by decide +kernel
theorem dX8_count_85 : decode cX8_count 85 = .ok (.invokevirtual 208, 3) := by decide +kernel
theorem dX8_count_88 : decode cX8_count 88 = .ok (.iconst 2, 1) := by decide +kernel
theorem dX8_count_89 : decode cX8_count 89 = .ok (.idiv, 1) := by decide +kernel
theorem dX8_count_90 : decode cX8_count 90 = .ok (.ireturn, 1) := by decide +kernel
theorem dX8_count_91 : decode cX8_count 91 = .ok (.aload_n 0, 1) := by decide +kernel
theorem dX8_count_92 : decode cX8_count 92 = .ok (.bipush 41, 2) := by decide +kernel
theorem dX8_count_94 : decode cX8_count 94 = .ok (.bipush 6, 2) := by decide +kernel
theorem dX8_count_96 : decode cX8_count 96 = .ok (.iconst 1, 1) := by decide +kernel
theorem dX8_count_97 : decode cX8_count 97 = .ok (.invokevirtual 208, 3) := by decide +kernel
theorem dX8_count_100 : decode cX8_count 100 = .ok (.iconst 2, 1) := by decide +kernel
theorem dX8_count_101 : decode cX8_count 101 = .ok (.idiv, 1) := by decide +kernel
theorem dX8_count_102 : decode cX8_count 102 = .ok (.ireturn, 1) := by decide +kernel
theorem dX8_count_103 : decode cX8_count 103 = .ok (.aload_n 0, 1) := by decide +kernel
theorem dX8_count_104 : decode cX8_count 104 = .ok (.getfield 7, 3) := by decide +kernel
theorem dX8_count_107 : decode cX8_count 107 = .ok (.iconst 2, 1) := by decide +kernel
theorem dX8_count_108 : decode cX8_count 108 = .ok (.iaload, 1) := by decide +kernel
theorem dX8_count_109 : decode cX8_count 109 = .ok (.ireturn, 1) := by decide +kernel
theorem dX8_count_110 : decode cX8_count 110 = .ok (.aload_n 0, 1) := by decide +kernel
theorem dX8_count_111 : decode cX8_count 111 = .ok (.bipush 71, 2) := by decide +kernel
theorem dX8_count_113 : decode cX8_count 113 = .ok (.aload_n 0, 1) := by decide +kernel
theorem dX8_count_114 : decode cX8_count 114 = .ok (.getfield 7, 3) := by decide +kernel
theorem dX8_count_117 : decode cX8_count 117 = .ok (.iconst 1, 1) := by decide +kernel
theorem dX8_count_118 : decode cX8_count 118 = .ok (.iaload, 1) := by decide +kernel
theorem dX8_count_119 : decode cX8_count 119 = .ok (.iconst 0, 1) := by decide +kernel
theorem dX8_count_120 : decode cX8_count 120 = .ok (.invokevirtual 208, 3) := by decide +kernel
theorem dX8_count_123 : decode cX8_count 123 = .ok (.ireturn, 1) := by decide +kernel
theorem dX8_count_124 : decode cX8_count 124 = .ok (.aload_n 0, 1) := by decide +kernel
theorem dX8_count_125 : decode cX8_count 125 = .ok (.invokevirtual 193, 3) := by decide +kernel
theorem dX8_count_128 : decode cX8_count 128 = .ok (.ireturn, 1) := by decide +kernel
theorem dX8_count_129 : decode cX8_count 129 = .ok (.aload_n 0, 1) := by decide +kernel
theorem dX8_count_130 : decode cX8_count 130 = .ok (.getfield 96, 3) := by decide +kernel
theorem dX8_count_133 : decode cX8_count 133 = .ok (.ireturn, 1) := by decide +kernel
theorem dX8_count_134 : decode cX8_count 134 = .ok (.aload_n 0, 1) := by decide +kernel
theorem dX8_count_135 : decode cX8_count 135 = .ok (.getfield 52, 3) := by decide +kernel
theorem dX8_count_138 : decode cX8_count 138 = .ok (.ireturn, 1) := by decide +kernel
theorem dX8_count_139 : decode cX8_count 139 = .ok (.aload_n 0, 1) := by decide +kernel
theorem dX8_count_140 : decode cX8_count 140 = .ok (.getfield 41, 3) := by decide +kernel
theorem dX8_count_143 : decode cX8_count 143 = .ok (.ireturn, 1) := by decide +kernel
theorem dX8_count_144 : decode cX8_count 144 = .ok (.iconst (-1), 1) := by decide +kernel
theorem dX8_count_145 : decode cX8_count 145 = .ok (.ireturn, 1) := by decide +kernel
end
section
theorem dL_law_0 : decode cL_law 0 = .ok (.new 7, 3) := by decide +kernel
theorem dL_law_3 : decode cL_law 3 = .ok (.dup, 1) := by decide +kernel
theorem dL_law_4 : decode cL_law 4 = .ok (.invokespecial 9, 3) := by decide +kernel
theorem dL_law_7 : decode cL_law 7 = .ok (.astore_n 1, 1) := by decide +kernel
theorem dL_law_8 : decode cL_law 8 = .ok (.new 10, 3) := by decide +kernel
theorem dL_law_11 : decode cL_law 11 = .ok (.dup, 1) := by decide +kernel
theorem dL_law_12 : decode cL_law 12 = .ok (.invokespecial 12, 3) := by decide +kernel
theorem dL_law_15 : decode cL_law 15 = .ok (.astore_n 2, 1) := by decide +kernel
theorem dL_law_16 : decode cL_law 16 = .ok (.iconst 0, 1) := by decide +kernel
theorem dL_law_17 : decode cL_law 17 = .ok (.istore_n 3, 1) := by decide +kernel
theorem dL_law_18 : decode cL_law 18 = .ok (.iload_n 3, 1) := by decide +kernel
theorem dL_law_19 : decode cL_law 19 = .ok (.aload_n 0, 1) := by decide +kernel
theorem dL_law_20 : decode cL_law 20 = .ok (.arraylength, 1) := by decide +kernel
theorem dL_law_21 : decode cL_law 21 = .ok (.iconst 4, 1) := by decide +kernel
theorem dL_law_22 : decode cL_law 22 = .ok (.isub, 1) := by decide +kernel
theorem dL_law_23 : decode cL_law 23 = .ok (.if_icmp .gt 759, 3) := by decide +kernel
theorem dL_law_26 : decode cL_law 26 = .ok (.aload_n 0, 1) := by decide +kernel
theorem dL_law_27 : decode cL_law 27 = .ok (.iload_n 3, 1) := by decide +kernel
theorem dL_law_28 : decode cL_law 28 = .ok (.iaload, 1) := by decide +kernel
theorem dL_law_29 : decode cL_law 29 = .ok (.bipush 31, 2) := by decide +kernel
theorem dL_law_31 : decode cL_law 31 = .ok (.iand, 1) := by decide +kernel
theorem dL_law_32 : decode cL_law 32 = .ok (.tableswitch 744 0 23 #[112, 135, 148, 161, 194, 227, 270, 303, 336, 359, 382, 395, 428, 461, 494, 527, 560, 583, 626, 639, 662, 675, 698, 721], 112) := by decide +kernel
theorem dL_law_144 : decode cL_law 144 = .ok (.aload_n 1, 1) := by decide +kernel
theorem dL_law_145 : decode cL_law 145 = .ok (.aload_n 0, 1) := by decide +kernel
theorem dL_law_146 : decode cL_law 146 = .ok (.iload_n 3, 1) := by decide +kernel
theorem dL_law_147 : decode cL_law 147 = .ok (.iconst 1, 1) := by decide +kernel
theorem dL_law_148 : decode cL_law 148 = .ok (.iadd, 1) := by decide +kernel
theorem dL_law_149 : decode cL_law 149 = .ok (.iaload, 1) := by decide +kernel
theorem dL_law_150 : decode cL_law 150 = .ok (.invokevirtual 13, 3) := by decide +kernel
theorem dL_law_153 : decode cL_law 153 = .ok (.aload_n 2, 1) := by decide +kernel
theorem dL_law_154 : decode cL_law 154 = .ok (.aload_n 0, 1) := by decide +kernel
theorem dL_law_155 : decode cL_law 155 = .ok (.iload_n 3, 1) := by decide +kernel
theorem dL_law_156 : decode cL_law 156 = .ok (.iconst 1, 1) := by decide +kernel
theorem dL_law_157 : decode cL_law 157 = .ok (.iadd, 1) := by decide +kernel
theorem dL_law_158 : decode cL_law 158 = .ok (.iaload, 1) := by decide +kernel
theorem dL_law_159 : decode cL_law 159 = .ok (.invokevirtual 17, 3) := by decide +kernel
theorem dL_law_162 : decode cL_law 162 = .ok (.if_icmp .eq 614, 3) := by decide +kernel
theorem dL_law_165 : decode cL_law 165 = .ok (.iconst 0, 1) := by decide +kernel
theorem dL_law_166 : decode cL_law 166 = .ok (.ireturn, 1) := by decide +kernel
theorem dL_law_167 : decode cL_law 167 = .ok (.aload_n 1, 1) := by decide +kernel
theorem dL_law_168 : decode cL_law 168 = .ok (.invokevirtual 18, 3) := by decide +kernel
theorem dL_law_171 : decode cL_law 171 = .ok (.aload_n 2, 1) := by decide +kernel
theorem dL_law_172 : decode cL_law 172 = .ok (.invokevirtual 22, 3) := by decide +kernel
theorem dL_law_175 : decode cL_law 175 = .ok (.if_icmp .eq 601, 3) := by decide +kernel
theorem dL_law_178 : decode cL_law 178 = .ok (.iconst 0, 1) := by decide +kernel
theorem dL_law_179 : decode cL_law 179 = .ok (.ireturn, 1) := by decide +kernel
theorem dL_law_180 : decode cL_law 180 = .ok (.aload_n 1, 1) := by decide +kernel
theorem dL_law_181 : decode cL_law 181 = .ok (.invokevirtual 23, 3) := by decide +kernel
theorem dL_law_184 : decode cL_law 184 = .ok (.aload_n 2, 1) := by decide +kernel
theorem dL_law_185 : decode cL_law 185 = .ok (.invokevirtual 26, 3) := by decide +kernel
theorem dL_law_188 : decode cL_law 188 = .ok (.if_icmp .eq 588, 3) := by decide +kernel
theorem dL_law_191 : decode cL_law 191 = .ok (.iconst 0, 1) := by decide +kernel
theorem dL_law_192 : decode cL_law 192 = .ok (.ireturn, 1) := by decide +kernel
theorem dL_law_193 : decode cL_law 193 = .ok (.aload_n 1, 1) := by decide +kernel
theorem dL_law_194 : decode cL_law 194 = .ok (.aload_n 0, 1) := by decide +kernel
theorem dL_law_195 : decode cL_law 195 = .ok (.iload_n 3, 1) := by decide +kernel
theorem dL_law_196 : decode cL_law 196 = .ok (.iconst 1, 1) := by decide +kernel
theorem dL_law_197 : decode cL_law 197 = .ok (.iadd, 1) := by decide +kernel
theorem dL_law_198 : decode cL_law 198 = .ok (.iaload, 1) := by decide +kernel
theorem dL_law_199 : decode cL_law 199 = .ok (.aload_n 0, 1) := by decide +kernel
theorem dL_law_200 : decode cL_law 200 = .ok (.iload_n 3, 1) := by decide +kernel
theorem dL_law_201 : decode cL_law 201 = .ok (.iconst 2, 1) := by decide +kernel
theorem dL_law_202 : decode cL_law 202 = .ok (.iadd, 1) := by decide +kernel
theorem dL_law_203 : decode cL_law 203 = .ok (.iaload, 1) := by decide +kernel
theorem dL_law_204 : decode cL_law 204 = .ok (.invokevirtual 27, 3) := by decide +kernel
theorem dL_law_207 : decode cL_law 207 = .ok (.aload_n 2, 1) := by decide +kernel
theorem dL_law_208 : decode cL_law 208 = .ok (.aload_n 0, 1) := by decide +kernel
theorem dL_law_209 : decode cL_law 209 = .ok (.iload_n 3, 1) := by decide +kernel
theorem dL_law_210 : decode cL_law 210 = .ok (.iconst 1, 1) := by decide +kernel
theorem dL_law_211 : decode cL_law 211 = .ok (.iadd, 1) := by decide +kernel
theorem dL_law_212 : decode cL_law 212 = .ok (.iaload, 1) := by decide +kernel
theorem dL_law_213 : decode cL_law 213 = .ok (.aload_n 0, 1) := by decide +kernel
theorem dL_law_214 : decode cL_law 214 = .ok (.iload_n 3, 1) := by decide +kernel
theorem dL_law_215 : decode cL_law 215 = .ok (.iconst 2, 1) := by decide +kernel
theorem dL_law_216 : decode cL_law 216 = .ok (.iadd, 1) := by decide +kernel
theorem dL_law_217 : decode cL_law 217 = .ok (.iaload, 1) := by decide +kernel
theorem dL_law_218 : decode cL_law 218 = .ok (.invokevirtual 31, 3) := by decide +kernel
theorem dL_law_221 : decode cL_law 221 = .ok (.if_icmp .eq 555, 3) := by decide +kernel
theorem dL_law_224 : decode cL_law 224 = .ok (.iconst 0, 1) := by decide +kernel
theorem dL_law_225 : decode cL_law 225 = .ok (.ireturn, 1) := by decide +kernel
theorem dL_law_226 : decode cL_law 226 = .ok (.aload_n 1, 1) := by decide +kernel
theorem dL_law_227 : decode cL_law 227 = .ok (.aload_n 0, 1) := by decide +kernel
theorem dL_law_228 : decode cL_law 228 = .ok (.iload_n 3, 1) := by decide +kernel
theorem dL_law_229 : decode cL_law 229 = .ok (.iconst 1, 1) := by decide +kernel
theorem dL_law_230 : decode cL_law 230 = .ok (.iadd, 1) := by decide +kernel
theorem dL_law_231 : decode cL_law 231 = .ok (.iaload, 1) := by decide +kernel
theorem dL_law_232 : decode cL_law 232 = .ok (.aload_n 0, 1) := by decide +kernel
theorem dL_law_233 : decode cL_law 233 = .ok (.iload_n 3, 1) := by decide +kernel
theorem dL_law_234 : decode cL_law 234 = .ok (.iconst 2, 1) := by decide +kernel
theorem dL_law_235 : decode cL_law 235 = .ok (.iadd, 1) := by decide +kernel
theorem dL_law_236 : decode cL_law 236 = .ok (.iaload, 1) := by decide +kernel
theorem dL_law_237 : decode cL_law 237 = .ok (.invokevirtual 32, 3) := by decide +kernel
theorem dL_law_240 : decode cL_law 240 = .ok (.aload_n 2, 1) := by decide +kernel
theorem dL_law_241 : decode cL_law 241 = .ok (.aload_n 0, 1) := by decide +kernel
theorem dL_law_242 : decode cL_law 242 = .ok (.iload_n 3, 1) := by decide +kernel
theorem dL_law_243 : decode cL_law 243 = .ok (.iconst 1, 1) := by decide +kernel
theorem dL_law_244 : decode cL_law 244 = .ok (.iadd, 1) := by decide +kernel
theorem dL_law_245 : decode cL_law 245 = .ok (.iaload, 1) := by decide +kernel
theorem dL_law_246 : decode cL_law 246 = .ok (.aload_n 0, 1) := by decide +kernel
theorem dL_law_247 : decode cL_law 247 = .ok (.iload_n 3, 1) := by decide +kernel
theorem dL_law_248 : decode cL_law 248 = .ok (.iconst 2, 1) := by decide +kernel
theorem dL_law_249 : decode cL_law 249 = .ok (.iadd, 1) := by decide +kernel
theorem dL_law_250 : decode cL_law 250 = .ok (.iaload, 1) := by decide +kernel
theorem dL_law_251 : decode cL_law 251 = .ok (.invokevirtual 35, 3) := by decide +kernel
theorem dL_law_254 : decode cL_law 254 = .ok (.if_icmp .eq 522, 3) := by decide +kernel
theorem dL_law_257 : decode cL_law 257 = .ok (.iconst 0, 1) := by decide +kernel
theorem dL_law_258 : decode cL_law 258 = .ok (.ireturn, 1) := by decide +kernel
theorem dL_law_259 : decode cL_law 259 = .ok (.aload_n 1, 1) := by decide +kernel
theorem dL_law_260 : decode cL_law 260 = .ok (.aload_n 0, 1) := by decide +kernel
theorem dL_law_261 : decode cL_law 261 = .ok (.iload_n 3, 1) := by decide +kernel
theorem dL_law_262 : decode cL_law 262 = .ok (.iconst 1, 1) := by decide +kernel
theorem dL_law_263 : decode cL_law 263 = .ok (.iadd, 1) := by decide +kernel
theorem dL_law_264 : decode cL_law 264 = .ok (.iaload, 1) := by decide +kernel
theorem dL_law_265 : decode cL_law 265 = .ok (.aload_n 0, 1) := by decide +kernel
theorem dL_law_266 : decode cL_law 266 = .ok (.iload_n 3, 1) := by decide +kernel
theorem dL_law_267 : decode cL_law 267 = .ok (.iconst 2, 1) := by decide +kernel
theorem dL_law_268 : decode cL_law 268 = .ok (.iadd, 1) := by decide +kernel
theorem dL_law_269 : decode cL_law 269 = .ok (.iaload, 1) := by decide +kernel
theorem dL_law_270 : decode cL_law 270 = .ok (.aload_n 0, 1) := by decide +kernel
theorem dL_law_271 : decode cL_law 271 = .ok (.iload_n 3, 1) := by decide +kernel
theorem dL_law_272 : decode cL_law 272 = .ok (.iconst 3, 1) := by decide +kernel
theorem dL_law_273 : decode cL_law 273 = .ok (.iadd, 1) := by decide +kernel
theorem dL_law_274 : decode cL_law 274 = .ok (.iaload, 1) := by decide +kernel
theorem dL_law_275 : decode cL_law 275 = .ok (.invokevirtual 36, 3) := by decide +kernel
theorem dL_law_278 : decode cL_law 278 = .ok (.aload_n 2, 1) := by decide +kernel
theorem dL_law_279 : decode cL_law 279 = .ok (.aload_n 0, 1) := by decide +kernel
theorem dL_law_280 : decode cL_law 280 = .ok (.iload_n 3, 1) := by decide +kernel
theorem dL_law_281 : decode cL_law 281 = .ok (.iconst 1, 1) := by decide +kernel
theorem dL_law_282 : decode cL_law 282 = .ok (.iadd, 1) := by decide +kernel
theorem dL_law_283 : decode cL_law 283 = .ok (.iaload, 1) := by decide +kernel
theorem dL_law_284 : decode cL_law 284 = .ok (.aload_n 0, 1) := by decide +kernel
theorem dL_law_285 : decode cL_law 285 = .ok (.iload_n 3, 1) := by decide +kernel
theorem dL_law_286 : decode cL_law 286 = .ok (.iconst 2, 1) := by decide +kernel
theorem dL_law_287 : decode cL_law 287 = .ok (.iadd, 1) := by decide +kernel
theorem dL_law_288 : decode cL_law 288 = .ok (.iaload, 1) := by decide +kernel
theorem dL_law_289 : decode cL_law 289 = .ok (.aload_n 0, 1) := by decide +kernel
theorem dL_law_290 : decode cL_law 290 = .ok (.iload_n 3, 1) := by decide +kernel
theorem dL_law_291 : decode cL_law 291 = .ok (.iconst 3, 1) := by decide +kernel
theorem dL_law_292 : decode cL_law 292 = .ok (.iadd, 1) := by decide +kernel
theorem dL_law_293 : decode cL_law 293 = .ok (.iaload, 1) := by decide +kernel
theorem dL_law_294 : decode cL_law 294 = .ok (.invokevirtual 40, 3) := by decide +kernel
theorem dL_law_297 : decode cL_law 297 = .ok (.if_icmp .eq 479, 3) := by decide +kernel
theorem dL_law_300 : decode cL_law 300 = .ok (.iconst 0, 1) := by decide +kernel
theorem dL_law_301 : decode cL_law 301 = .ok (.ireturn, 1) := by decide +kernel
theorem dL_law_302 : decode cL_law 302 = .ok (.aload_n 1, 1) := by decide +kernel
theorem dL_law_303 : decode cL_law 303 = .ok (.aload_n 0, 1) := by decide +kernel
theorem dL_law_304 : decode cL_law 304 = .ok (.iload_n 3, 1) := by decide +kernel
theorem dL_law_305 : decode cL_law 305 = .ok (.iconst 1, 1) := by decide +kernel
theorem dL_law_306 : decode cL_law 306 = .ok (.iadd, 1) := by decide +kernel
theorem dL_law_307 : decode cL_law 307 = .ok (.iaload, 1) := by decide +kernel
theorem dL_law_308 : decode cL_law 308 = .ok (.aload_n 0, 1) := by decide +kernel
theorem dL_law_309 : decode cL_law 309 = .ok (.iload_n 3, 1) := by decide +kernel
theorem dL_law_310 : decode cL_law 310 = .ok (.iconst 2, 1) := by decide +kernel
theorem dL_law_311 : decode cL_law 311 = .ok (.iadd, 1) := by decide +kernel
theorem dL_law_312 : decode cL_law 312 = .ok (.iaload, 1) := by decide +kernel
theorem dL_law_313 : decode cL_law 313 = .ok (.invokevirtual 41, 3) := by decide +kernel
theorem dL_law_316 : decode cL_law 316 = .ok (.aload_n 2, 1) := by decide +kernel
theorem dL_law_317 : decode cL_law 317 = .ok (.aload_n 0, 1) := by decide +kernel
theorem dL_law_318 : decode cL_law 318 = .ok (.iload_n 3, 1) := by decide +kernel
theorem dL_law_319 : decode cL_law 319 = .ok (.iconst 1, 1) := by decide +kernel
theorem dL_law_320 : decode cL_law 320 = .ok (.iadd, 1) := by decide +kernel
theorem dL_law_321 : decode cL_law 321 = .ok (.iaload, 1) := by decide +kernel
theorem dL_law_322 : decode cL_law 322 = .ok (.aload_n 0, 1) := by decide +kernel
theorem dL_law_323 : decode cL_law 323 = .ok (.iload_n 3, 1) := by decide +kernel
theorem dL_law_324 : decode cL_law 324 = .ok (.iconst 2, 1) := by decide +kernel
theorem dL_law_325 : decode cL_law 325 = .ok (.iadd, 1) := by decide +kernel
theorem dL_law_326 : decode cL_law 326 = .ok (.iaload, 1) := by decide +kernel
theorem dL_law_327 : decode cL_law 327 = .ok (.invokevirtual 44, 3) := by decide +kernel
theorem dL_law_330 : decode cL_law 330 = .ok (.if_icmp .eq 446, 3) := by decide +kernel
theorem dL_law_333 : decode cL_law 333 = .ok (.iconst 0, 1) := by decide +kernel
theorem dL_law_334 : decode cL_law 334 = .ok (.ireturn, 1) := by decide +kernel
theorem dL_law_335 : decode cL_law 335 = .ok (.aload_n 1, 1) := by decide +kernel
theorem dL_law_336 : decode cL_law 336 = .ok (.aload_n 0, 1) := by decide +kernel
theorem dL_law_337 : decode cL_law 337 = .ok (.iload_n 3, 1) := by decide +kernel
theorem dL_law_338 : decode cL_law 338 = .ok (.iconst 1, 1) := by decide +kernel
theorem dL_law_339 : decode cL_law 339 = .ok (.iadd, 1) := by decide +kernel
theorem dL_law_340 : decode cL_law 340 = .ok (.iaload, 1) := by decide +kernel
theorem dL_law_341 : decode cL_law 341 = .ok (.aload_n 0, 1) := by decide +kernel
theorem dL_law_342 : decode cL_law 342 = .ok (.iload_n 3, 1) := by decide +kernel
theorem dL_law_343 : decode cL_law 343 = .ok (.iconst 2, 1) := by decide +kernel
theorem dL_law_344 : decode cL_law 344 = .ok (.iadd, 1) := by decide +kernel
theorem dL_law_345 : decode cL_law 345 = .ok (.iaload, 1) := by decide +kernel
theorem dL_law_346 : decode cL_law 346 = .ok (.invokevirtual 45, 3) := by decide +kernel
theorem dL_law_349 : decode cL_law 349 = .ok (.aload_n 2, 1) := by decide +kernel
theorem dL_law_350 : decode cL_law 350 = .ok (.aload_n 0, 1) := by decide +kernel
theorem dL_law_351 : decode cL_law 351 = .ok (.iload_n 3, 1) := by decide +kernel
theorem dL_law_352 : decode cL_law 352 = .ok (.iconst 1, 1) := by decide +kernel
theorem dL_law_353 : decode cL_law 353 = .ok (.iadd, 1) := by decide +kernel
theorem dL_law_354 : decode cL_law 354 = .ok (.iaload, 1) := by decide +kernel
theorem dL_law_355 : decode cL_law 355 = .ok (.aload_n 0, 1) := by decide +kernel
theorem dL_law_356 : decode cL_law 356 = .ok (.iload_n 3, 1) := by decide +kernel
theorem dL_law_357 : decode cL_law 357 = .ok (.iconst 2, 1) := by decide +kernel
theorem dL_law_358 : decode cL_law 358 = .ok (.iadd, 1) := by decide +kernel
theorem dL_law_359 : decode cL_law 359 = .ok (.iaload, 1) := by decide +kernel
theorem dL_law_360 : decode cL_law 360 = .ok (.invokevirtual 48, 3) := by decide +kernel
theorem dL_law_363 : decode cL_law 363 = .ok (.if_icmp .eq 413, 3) := by decide +kernel
theorem dL_law_366 : decode cL_law 366 = .ok (.iconst 0, 1) := by decide +kernel
theorem dL_law_367 : decode cL_law 367 = .ok (.ireturn, 1) := by decide +kernel
theorem dL_law_368 : decode cL_law 368 = .ok (.aload_n 1, 1) := by decide +kernel
theorem dL_law_369 : decode cL_law 369 = .ok (.aload_n 0, 1) := by decide +kernel
theorem dL_law_370 : decode cL_law 370 = .ok (.iload_n 3, 1) := by decide +kernel
theorem dL_law_371 : decode cL_law 371 = .ok (.iconst 1, 1) := by decide +kernel
theorem dL_law_372 : decode cL_law 372 = .ok (.iadd, 1) := by decide +kernel
theorem dL_law_373 : decode cL_law 373 = .ok (.iaload, 1) := by decide +kernel
theorem dL_law_374 : decode cL_law 374 = .ok (.invokevirtual 49, 3) := by decide +kernel
theorem dL_law_377 : decode cL_law 377 = .ok (.aload_n 2, 1) := by decide +kernel
theorem dL_law_378 : decode cL_law 378 = .ok (.aload_n 0, 1) := by decide +kernel
theorem dL_law_379 : decode cL_law 379 = .ok (.iload_n 3, 1) := by decide +kernel
theorem dL_law_380 : decode cL_law 380 = .ok (.iconst 1, 1) := by decide +kernel
theorem dL_law_381 : decode cL_law 381 = .ok (.iadd, 1) := by decide +kernel
theorem dL_law_382 : decode cL_law 382 = .ok (.iaload, 1) := by decide +kernel
theorem dL_law_383 : decode cL_law 383 = .ok (.invokevirtual 52, 3) := by decide +kernel
theorem dL_law_386 : decode cL_law 386 = .ok (.if_icmp .eq 390, 3) := by decide +kernel
theorem dL_law_389 : decode cL_law 389 = .ok (.iconst 0, 1) := by decide +kernel
theorem dL_law_390 : decode cL_law 390 = .ok (.ireturn, 1) := by decide +kernel
theorem dL_law_391 : decode cL_law 391 = .ok (.aload_n 1, 1) := by decide +kernel
theorem dL_law_392 : decode cL_law 392 = .ok (.aload_n 0, 1) := by decide +kernel
theorem dL_law_393 : decode cL_law 393 = .ok (.iload_n 3, 1) := by decide +kernel
theorem dL_law_394 : decode cL_law 394 = .ok (.iconst 1, 1) := by decide +kernel
theorem dL_law_395 : decode cL_law 395 = .ok (.iadd, 1) := by decide +kernel
theorem dL_law_396 : decode cL_law 396 = .ok (.iaload, 1) := by decide +kernel
theorem dL_law_397 : decode cL_law 397 = .ok (.invokevirtual 53, 3) := by decide +kernel
theorem dL_law_400 : decode cL_law 400 = .ok (.aload_n 2, 1) := by decide +kernel
theorem dL_law_401 : decode cL_law 401 = .ok (.aload_n 0, 1) := by decide +kernel
theorem dL_law_402 : decode cL_law 402 = .ok (.iload_n 3, 1) := by decide +kernel
theorem dL_law_403 : decode cL_law 403 = .ok (.iconst 1, 1) := by decide +kernel
theorem dL_law_404 : decode cL_law 404 = .ok (.iadd, 1) := by decide +kernel
theorem dL_law_405 : decode cL_law 405 = .ok (.iaload, 1) := by decide +kernel
theorem dL_law_406 : decode cL_law 406 = .ok (.invokevirtual 56, 3) := by decide +kernel
theorem dL_law_409 : decode cL_law 409 = .ok (.if_icmp .eq 367, 3) := by decide +kernel
theorem dL_law_412 : decode cL_law 412 = .ok (.iconst 0, 1) := by decide +kernel
theorem dL_law_413 : decode cL_law 413 = .ok (.ireturn, 1) := by decide +kernel
theorem dL_law_414 : decode cL_law 414 = .ok (.aload_n 1, 1) := by decide +kernel
theorem dL_law_415 : decode cL_law 415 = .ok (.invokevirtual 57, 3) := by decide +kernel
theorem dL_law_418 : decode cL_law 418 = .ok (.aload_n 2, 1) := by decide +kernel
theorem dL_law_419 : decode cL_law 419 = .ok (.invokevirtual 60, 3) := by decide +kernel
theorem dL_law_422 : decode cL_law 422 = .ok (.if_icmp .eq 354, 3) := by decide +kernel
theorem dL_law_425 : decode cL_law 425 = .ok (.iconst 0, 1) := by decide +kernel
theorem dL_law_426 : decode cL_law 426 = .ok (.ireturn, 1) := by decide +kernel
theorem dL_law_427 : decode cL_law 427 = .ok (.aload_n 1, 1) := by decide +kernel
theorem dL_law_428 : decode cL_law 428 = .ok (.aload_n 0, 1) := by decide +kernel
theorem dL_law_429 : decode cL_law 429 = .ok (.iload_n 3, 1) := by decide +kernel
theorem dL_law_430 : decode cL_law 430 = .ok (.iconst 1, 1) := by decide +kernel
theorem dL_law_431 : decode cL_law 431 = .ok (.iadd, 1) := by decide +kernel
theorem dL_law_432 : decode cL_law 432 = .ok (.iaload, 1) := by decide +kernel
theorem dL_law_433 : decode cL_law 433 = .ok (.aload_n 0, 1) := by decide +kernel
theorem dL_law_434 : decode cL_law 434 = .ok (.iload_n 3, 1) := by decide +kernel
theorem dL_law_435 : decode cL_law 435 = .ok (.iconst 2, 1) := by decide +kernel
theorem dL_law_436 : decode cL_law 436 = .ok (.iadd, 1) := by decide +kernel
theorem dL_law_437 : decode cL_law 437 = .ok (.iaload, 1) := by decide +kernel
theorem dL_law_438 : decode cL_law 438 = .ok (.invokevirtual 61, 3) := by decide +kernel
theorem dL_law_441 : decode cL_law 441 = .ok (.aload_n 2, 1) := by decide +kernel
theorem dL_law_442 : decode cL_law 442 = .ok (.aload_n 0, 1) := by decide +kernel
theorem dL_law_443 : decode cL_law 443 = .ok (.iload_n 3, 1) := by decide +kernel
theorem dL_law_444 : decode cL_law 444 = .ok (.iconst 1, 1) := by decide +kernel
theorem dL_law_445 : decode cL_law 445 = .ok (.iadd, 1) := by decide +kernel
theorem dL_law_446 : decode cL_law 446 = .ok (.iaload, 1) := by decide +kernel
theorem dL_law_447 : decode cL_law 447 = .ok (.aload_n 0, 1) := by decide +kernel
theorem dL_law_448 : decode cL_law 448 = .ok (.iload_n 3, 1) := by decide +kernel
theorem dL_law_449 : decode cL_law 449 = .ok (.iconst 2, 1) := by decide +kernel
theorem dL_law_450 : decode cL_law 450 = .ok (.iadd, 1) := by decide +kernel
theorem dL_law_451 : decode cL_law 451 = .ok (.iaload, 1) := by decide +kernel
theorem dL_law_452 : decode cL_law 452 = .ok (.invokevirtual 64, 3) := by decide +kernel
theorem dL_law_455 : decode cL_law 455 = .ok (.if_icmp .eq 321, 3) := by decide +kernel
theorem dL_law_458 : decode cL_law 458 = .ok (.iconst 0, 1) := by decide +kernel
theorem dL_law_459 : decode cL_law 459 = .ok (.ireturn, 1) := by decide +kernel
theorem dL_law_460 : decode cL_law 460 = .ok (.aload_n 1, 1) := by decide +kernel
theorem dL_law_461 : decode cL_law 461 = .ok (.aload_n 0, 1) := by decide +kernel
theorem dL_law_462 : decode cL_law 462 = .ok (.iload_n 3, 1) := by decide +kernel
theorem dL_law_463 : decode cL_law 463 = .ok (.iconst 1, 1) := by decide +kernel
theorem dL_law_464 : decode cL_law 464 = .ok (.iadd, 1) := by decide +kernel
theorem dL_law_465 : decode cL_law 465 = .ok (.iaload, 1) := by decide +kernel
theorem dL_law_466 : decode cL_law 466 = .ok (.aload_n 0, 1) := by decide +kernel
theorem dL_law_467 : decode cL_law 467 = .ok (.iload_n 3, 1) := by decide +kernel
theorem dL_law_468 : decode cL_law 468 = .ok (.iconst 2, 1) := by decide +kernel
theorem dL_law_469 : decode cL_law 469 = .ok (.iadd, 1) := by decide +kernel
theorem dL_law_470 : decode cL_law 470 = .ok (.iaload, 1) := by decide +kernel
theorem dL_law_471 : decode cL_law 471 = .ok (.invokevirtual 65, 3) := by decide +kernel
theorem dL_law_474 : decode cL_law 474 = .ok (.aload_n 2, 1) := by decide +kernel
theorem dL_law_475 : decode cL_law 475 = .ok (.aload_n 0, 1) := by decide +kernel
theorem dL_law_476 : decode cL_law 476 = .ok (.iload_n 3, 1) := by decide +kernel
theorem dL_law_477 : decode cL_law 477 = .ok (.iconst 1, 1) := by decide +kernel
theorem dL_law_478 : decode cL_law 478 = .ok (.iadd, 1) := by decide +kernel
theorem dL_law_479 : decode cL_law 479 = .ok (.iaload, 1) := by decide +kernel
theorem dL_law_480 : decode cL_law 480 = .ok (.aload_n 0, 1) := by decide +kernel
theorem dL_law_481 : decode cL_law 481 = .ok (.iload_n 3, 1) := by decide +kernel
theorem dL_law_482 : decode cL_law 482 = .ok (.iconst 2, 1) := by decide +kernel
theorem dL_law_483 : decode cL_law 483 = .ok (.iadd, 1) := by decide +kernel
theorem dL_law_484 : decode cL_law 484 = .ok (.iaload, 1) := by decide +kernel
theorem dL_law_485 : decode cL_law 485 = .ok (.invokevirtual 68, 3) := by decide +kernel
theorem dL_law_488 : decode cL_law 488 = .ok (.if_icmp .eq 288, 3) := by decide +kernel
theorem dL_law_491 : decode cL_law 491 = .ok (.iconst 0, 1) := by decide +kernel
theorem dL_law_492 : decode cL_law 492 = .ok (.ireturn, 1) := by decide +kernel
theorem dL_law_493 : decode cL_law 493 = .ok (.aload_n 1, 1) := by decide +kernel
theorem dL_law_494 : decode cL_law 494 = .ok (.aload_n 0, 1) := by decide +kernel
theorem dL_law_495 : decode cL_law 495 = .ok (.iload_n 3, 1) := by decide +kernel
theorem dL_law_496 : decode cL_law 496 = .ok (.iconst 1, 1) := by decide +kernel
theorem dL_law_497 : decode cL_law 497 = .ok (.iadd, 1) := by decide +kernel
theorem dL_law_498 : decode cL_law 498 = .ok (.iaload, 1) := by decide +kernel
theorem dL_law_499 : decode cL_law 499 = .ok (.aload_n 0, 1) := by decide +kernel
theorem dL_law_500 : decode cL_law 500 = .ok (.iload_n 3, 1) := by decide +kernel
theorem dL_law_501 : decode cL_law 501 = .ok (.iconst 2, 1) := by decide +kernel
theorem dL_law_502 : decode cL_law 502 = .ok (.iadd, 1) := by decide +kernel
theorem dL_law_503 : decode cL_law 503 = .ok (.iaload, 1) := by decide +kernel
theorem dL_law_504 : decode cL_law 504 = .ok (.invokevirtual 69, 3) := by decide +kernel
theorem dL_law_507 : decode cL_law 507 = .ok (.aload_n 2, 1) := by decide +kernel
theorem dL_law_508 : decode cL_law 508 = .ok (.aload_n 0, 1) := by decide +kernel
theorem dL_law_509 : decode cL_law 509 = .ok (.iload_n 3, 1) := by decide +kernel
theorem dL_law_510 : decode cL_law 510 = .ok (.iconst 1, 1) := by decide +kernel
theorem dL_law_511 : decode cL_law 511 = .ok (.iadd, 1) := by decide +kernel
theorem dL_law_512 : decode cL_law 512 = .ok (.iaload, 1) := by decide +kernel
theorem dL_law_513 : decode cL_law 513 = .ok (.aload_n 0, 1) := by decide +kernel
theorem dL_law_514 : decode cL_law 514 = .ok (.iload_n 3, 1) := by decide +kernel
theorem dL_law_515 : decode cL_law 515 = .ok (.iconst 2, 1) := by decide +kernel
theorem dL_law_516 : decode cL_law 516 = .ok (.iadd, 1) := by decide +kernel
theorem dL_law_517 : decode cL_law 517 = .ok (.iaload, 1) := by decide +kernel
theorem dL_law_518 : decode cL_law 518 = .ok (.invokevirtual 72, 3) := by decide +kernel
theorem dL_law_521 : decode cL_law 521 = .ok (.if_icmp .eq 255, 3) := by decide +kernel
theorem dL_law_524 : decode cL_law 524 = .ok (.iconst 0, 1) := by decide +kernel
theorem dL_law_525 : decode cL_law 525 = .ok (.ireturn, 1) := by decide +kernel
theorem dL_law_526 : decode cL_law 526 = .ok (.aload_n 1, 1) := by decide +kernel
theorem dL_law_527 : decode cL_law 527 = .ok (.aload_n 0, 1) := by decide +kernel
theorem dL_law_528 : decode cL_law 528 = .ok (.iload_n 3, 1) := by decide +kernel
theorem dL_law_529 : decode cL_law 529 = .ok (.iconst 1, 1) := by decide +kernel
theorem dL_law_530 : decode cL_law 530 = .ok (.iadd, 1) := by decide +kernel
theorem dL_law_531 : decode cL_law 531 = .ok (.iaload, 1) := by decide +kernel
theorem dL_law_532 : decode cL_law 532 = .ok (.aload_n 0, 1) := by decide +kernel
theorem dL_law_533 : decode cL_law 533 = .ok (.iload_n 3, 1) := by decide +kernel
theorem dL_law_534 : decode cL_law 534 = .ok (.iconst 2, 1) := by decide +kernel
theorem dL_law_535 : decode cL_law 535 = .ok (.iadd, 1) := by decide +kernel
theorem dL_law_536 : decode cL_law 536 = .ok (.iaload, 1) := by decide +kernel
theorem dL_law_537 : decode cL_law 537 = .ok (.invokevirtual 73, 3) := by decide +kernel
theorem dL_law_540 : decode cL_law 540 = .ok (.aload_n 2, 1) := by decide +kernel
theorem dL_law_541 : decode cL_law 541 = .ok (.aload_n 0, 1) := by decide +kernel
theorem dL_law_542 : decode cL_law 542 = .ok (.iload_n 3, 1) := by decide +kernel
theorem dL_law_543 : decode cL_law 543 = .ok (.iconst 1, 1) := by decide +kernel
theorem dL_law_544 : decode cL_law 544 = .ok (.iadd, 1) := by decide +kernel
theorem dL_law_545 : decode cL_law 545 = .ok (.iaload, 1) := by decide +kernel
theorem dL_law_546 : decode cL_law 546 = .ok (.aload_n 0, 1) := by decide +kernel
theorem dL_law_547 : decode cL_law 547 = .ok (.iload_n 3, 1) := by decide +kernel
theorem dL_law_548 : decode cL_law 548 = .ok (.iconst 2, 1) := by decide +kernel
theorem dL_law_549 : decode cL_law 549 = .ok (.iadd, 1) := by decide +kernel
theorem dL_law_550 : decode cL_law 550 = .ok (.iaload, 1) := by decide +kernel
theorem dL_law_551 : decode cL_law 551 = .ok (.invokevirtual 76, 3) := by decide +kernel
theorem dL_law_554 : decode cL_law 554 = .ok (.if_icmp .eq 222, 3) := by decide +kernel
theorem dL_law_557 : decode cL_law 557 = .ok (.iconst 0, 1) := by decide +kernel
theorem dL_law_558 : decode cL_law 558 = .ok (.ireturn, 1) := by decide +kernel
theorem dL_law_559 : decode cL_law 559 = .ok (.aload_n 1, 1) := by decide +kernel
theorem dL_law_560 : decode cL_law 560 = .ok (.aload_n 0, 1) := by decide +kernel
theorem dL_law_561 : decode cL_law 561 = .ok (.iload_n 3, 1) := by decide +kernel
theorem dL_law_562 : decode cL_law 562 = .ok (.iconst 1, 1) := by decide +kernel
theorem dL_law_563 : decode cL_law 563 = .ok (.iadd, 1) := by decide +kernel
theorem dL_law_564 : decode cL_law 564 = .ok (.iaload, 1) := by decide +kernel
theorem dL_law_565 : decode cL_law 565 = .ok (.aload_n 0, 1) := by decide +kernel
theorem dL_law_566 : decode cL_law 566 = .ok (.iload_n 3, 1) := by decide +kernel
theorem dL_law_567 : decode cL_law 567 = .ok (.iconst 2, 1) := by decide +kernel
theorem dL_law_568 : decode cL_law 568 = .ok (.iadd, 1) := by decide +kernel
theorem dL_law_569 : decode cL_law 569 = .ok (.iaload, 1) := by decide +kernel
theorem dL_law_570 : decode cL_law 570 = .ok (.invokevirtual 77, 3) := by decide +kernel
theorem dL_law_573 : decode cL_law 573 = .ok (.aload_n 2, 1) := by decide +kernel
theorem dL_law_574 : decode cL_law 574 = .ok (.aload_n 0, 1) := by decide +kernel
theorem dL_law_575 : decode cL_law 575 = .ok (.iload_n 3, 1) := by decide +kernel
theorem dL_law_576 : decode cL_law 576 = .ok (.iconst 1, 1) := by decide +kernel
theorem dL_law_577 : decode cL_law 577 = .ok (.iadd, 1) := by decide +kernel
theorem dL_law_578 : decode cL_law 578 = .ok (.iaload, 1) := by decide +kernel
theorem dL_law_579 : decode cL_law 579 = .ok (.aload_n 0, 1) := by decide +kernel
theorem dL_law_580 : decode cL_law 580 = .ok (.iload_n 3, 1) := by decide +kernel
theorem dL_law_581 : decode cL_law 581 = .ok (.iconst 2, 1) := by decide +kernel
theorem dL_law_582 : decode cL_law 582 = .ok (.iadd, 1) := by decide +kernel
theorem dL_law_583 : decode cL_law 583 = .ok (.iaload, 1) := by decide +kernel
theorem dL_law_584 : decode cL_law 584 = .ok (.invokevirtual 80, 3) := by decide +kernel
theorem dL_law_587 : decode cL_law 587 = .ok (.if_icmp .eq 189, 3) := by decide +kernel
theorem dL_law_590 : decode cL_law 590 = .ok (.iconst 0, 1) := by decide +kernel
theorem dL_law_591 : decode cL_law 591 = .ok (.ireturn, 1) := by decide +kernel
theorem dL_law_592 : decode cL_law 592 = .ok (.aload_n 1, 1) := by decide +kernel
theorem dL_law_593 : decode cL_law 593 = .ok (.aload_n 0, 1) := by decide +kernel
theorem dL_law_594 : decode cL_law 594 = .ok (.iload_n 3, 1) := by decide +kernel
theorem dL_law_595 : decode cL_law 595 = .ok (.iconst 1, 1) := by decide +kernel
theorem dL_law_596 : decode cL_law 596 = .ok (.iadd, 1) := by decide +kernel
theorem dL_law_597 : decode cL_law 597 = .ok (.iaload, 1) := by decide +kernel
theorem dL_law_598 : decode cL_law 598 = .ok (.invokevirtual 81, 3) := by decide +kernel
theorem dL_law_601 : decode cL_law 601 = .ok (.aload_n 2, 1) := by decide +kernel
theorem dL_law_602 : decode cL_law 602 = .ok (.aload_n 0, 1) := by decide +kernel
theorem dL_law_603 : decode cL_law 603 = .ok (.iload_n 3, 1) := by decide +kernel
theorem dL_law_604 : decode cL_law 604 = .ok (.iconst 1, 1) := by decide +kernel
theorem dL_law_605 : decode cL_law 605 = .ok (.iadd, 1) := by decide +kernel
theorem dL_law_606 : decode cL_law 606 = .ok (.iaload, 1) := by decide +kernel
theorem dL_law_607 : decode cL_law 607 = .ok (.invokevirtual 84, 3) := by decide +kernel
theorem dL_law_610 : decode cL_law 610 = .ok (.if_icmp .eq 166, 3) := by decide +kernel
theorem dL_law_613 : decode cL_law 613 = .ok (.iconst 0, 1) := by decide +kernel
theorem dL_law_614 : decode cL_law 614 = .ok (.ireturn, 1) := by decide +kernel
theorem dL_law_615 : decode cL_law 615 = .ok (.aload_n 1, 1) := by decide +kernel
theorem dL_law_616 : decode cL_law 616 = .ok (.aload_n 0, 1) := by decide +kernel
theorem dL_law_617 : decode cL_law 617 = .ok (.iload_n 3, 1) := by decide +kernel
theorem dL_law_618 : decode cL_law 618 = .ok (.iconst 1, 1) := by decide +kernel
theorem dL_law_619 : decode cL_law 619 = .ok (.iadd, 1) := by decide +kernel
theorem dL_law_620 : decode cL_law 620 = .ok (.iaload, 1) := by decide +kernel
theorem dL_law_621 : decode cL_law 621 = .ok (.aload_n 0, 1) := by decide +kernel
theorem dL_law_622 : decode cL_law 622 = .ok (.iload_n 3, 1) := by decide +kernel
theorem dL_law_623 : decode cL_law 623 = .ok (.iconst 2, 1) := by decide +kernel
theorem dL_law_624 : decode cL_law 624 = .ok (.iadd, 1) := by decide +kernel
theorem dL_law_625 : decode cL_law 625 = .ok (.iaload, 1) := by decide +kernel
theorem dL_law_626 : decode cL_law 626 = .ok (.aload_n 0, 1) := by decide +kernel
theorem dL_law_627 : decode cL_law 627 = .ok (.iload_n 3, 1) := by decide +kernel
theorem dL_law_628 : decode cL_law 628 = .ok (.iconst 3, 1) := by decide +kernel
theorem dL_law_629 : decode cL_law 629 = .ok (.iadd, 1) := by decide +kernel
theorem dL_law_630 : decode cL_law 630 = .ok (.iaload, 1) := by decide +kernel
theorem dL_law_631 : decode cL_law 631 = .ok (.invokevirtual 85, 3) := by decide +kernel
theorem dL_law_634 : decode cL_law 634 = .ok (.aload_n 2, 1) := by decide +kernel
theorem dL_law_635 : decode cL_law 635 = .ok (.aload_n 0, 1) := by decide +kernel
theorem dL_law_636 : decode cL_law 636 = .ok (.iload_n 3, 1) := by decide +kernel
theorem dL_law_637 : decode cL_law 637 = .ok (.iconst 1, 1) := by decide +kernel
theorem dL_law_638 : decode cL_law 638 = .ok (.iadd, 1) := by decide +kernel
theorem dL_law_639 : decode cL_law 639 = .ok (.iaload, 1) := by decide +kernel
theorem dL_law_640 : decode cL_law 640 = .ok (.aload_n 0, 1) := by decide +kernel
theorem dL_law_641 : decode cL_law 641 = .ok (.iload_n 3, 1) := by decide +kernel
theorem dL_law_642 : decode cL_law 642 = .ok (.iconst 2, 1) := by decide +kernel
theorem dL_law_643 : decode cL_law 643 = .ok (.iadd, 1) := by decide +kernel
theorem dL_law_644 : decode cL_law 644 = .ok (.iaload, 1) := by decide +kernel
theorem dL_law_645 : decode cL_law 645 = .ok (.aload_n 0, 1) := by decide +kernel
theorem dL_law_646 : decode cL_law 646 = .ok (.iload_n 3, 1) := by decide +kernel
theorem dL_law_647 : decode cL_law 647 = .ok (.iconst 3, 1) := by decide +kernel
theorem dL_law_648 : decode cL_law 648 = .ok (.iadd, 1) := by decide +kernel
theorem dL_law_649 : decode cL_law 649 = .ok (.iaload, 1) := by decide +kernel
theorem dL_law_650 : decode cL_law 650 = .ok (.invokevirtual 88, 3) := by decide +kernel
theorem dL_law_653 : decode cL_law 653 = .ok (.if_icmp .eq 123, 3) := by decide +kernel
theorem dL_law_656 : decode cL_law 656 = .ok (.iconst 0, 1) := by decide +kernel
theorem dL_law_657 : decode cL_law 657 = .ok (.ireturn, 1) := by decide +kernel
theorem dL_law_658 : decode cL_law 658 = .ok (.aload_n 1, 1) := by decide +kernel
theorem dL_law_659 : decode cL_law 659 = .ok (.invokevirtual 89, 3) := by decide +kernel
theorem dL_law_662 : decode cL_law 662 = .ok (.aload_n 2, 1) := by decide +kernel
theorem dL_law_663 : decode cL_law 663 = .ok (.invokevirtual 92, 3) := by decide +kernel
theorem dL_law_666 : decode cL_law 666 = .ok (.if_icmp .eq 110, 3) := by decide +kernel
theorem dL_law_669 : decode cL_law 669 = .ok (.iconst 0, 1) := by decide +kernel
theorem dL_law_670 : decode cL_law 670 = .ok (.ireturn, 1) := by decide +kernel
theorem dL_law_671 : decode cL_law 671 = .ok (.aload_n 1, 1) := by decide +kernel
theorem dL_law_672 : decode cL_law 672 = .ok (.aload_n 0, 1) := by decide +kernel
theorem dL_law_673 : decode cL_law 673 = .ok (.iload_n 3, 1) := by decide +kernel
theorem dL_law_674 : decode cL_law 674 = .ok (.iconst 1, 1) := by decide +kernel
theorem dL_law_675 : decode cL_law 675 = .ok (.iadd, 1) := by decide +kernel
theorem dL_law_676 : decode cL_law 676 = .ok (.iaload, 1) := by decide +kernel
theorem dL_law_677 : decode cL_law 677 = .ok (.invokevirtual 93, 3) := by decide +kernel
theorem dL_law_680 : decode cL_law 680 = .ok (.aload_n 2, 1) := by decide +kernel
theorem dL_law_681 : decode cL_law 681 = .ok (.aload_n 0, 1) := by decide +kernel
theorem dL_law_682 : decode cL_law 682 = .ok (.iload_n 3, 1) := by decide +kernel
theorem dL_law_683 : decode cL_law 683 = .ok (.iconst 1, 1) := by decide +kernel
theorem dL_law_684 : decode cL_law 684 = .ok (.iadd, 1) := by decide +kernel
theorem dL_law_685 : decode cL_law 685 = .ok (.iaload, 1) := by decide +kernel
theorem dL_law_686 : decode cL_law 686 = .ok (.invokevirtual 96, 3) := by decide +kernel
theorem dL_law_689 : decode cL_law 689 = .ok (.if_icmp .eq 87, 3) := by decide +kernel
theorem dL_law_692 : decode cL_law 692 = .ok (.iconst 0, 1) := by decide +kernel
theorem dL_law_693 : decode cL_law 693 = .ok (.ireturn, 1) := by decide +kernel
theorem dL_law_694 : decode cL_law 694 = .ok (.aload_n 1, 1) := by decide +kernel
theorem dL_law_695 : decode cL_law 695 = .ok (.invokevirtual 97, 3) := by decide +kernel
theorem dL_law_698 : decode cL_law 698 = .ok (.aload_n 2, 1) := by decide +kernel
theorem dL_law_699 : decode cL_law 699 = .ok (.invokevirtual 100, 3) := by decide +kernel
theorem dL_law_702 : decode cL_law 702 = .ok (.if_icmp .eq 74, 3) := by decide +kernel
theorem dL_law_705 : decode cL_law 705 = .ok (.iconst 0, 1) := by decide +kernel
theorem dL_law_706 : decode cL_law 706 = .ok (.ireturn, 1) := by decide +kernel
theorem dL_law_707 : decode cL_law 707 = .ok (.aload_n 1, 1) := by decide +kernel
theorem dL_law_708 : decode cL_law 708 = .ok (.aload_n 0, 1) := by decide +kernel
theorem dL_law_709 : decode cL_law 709 = .ok (.iload_n 3, 1) := by decide +kernel
theorem dL_law_710 : decode cL_law 710 = .ok (.iconst 1, 1) := by decide +kernel
theorem dL_law_711 : decode cL_law 711 = .ok (.iadd, 1) := by decide +kernel
theorem dL_law_712 : decode cL_law 712 = .ok (.iaload, 1) := by decide +kernel
theorem dL_law_713 : decode cL_law 713 = .ok (.invokevirtual 101, 3) := by decide +kernel
theorem dL_law_716 : decode cL_law 716 = .ok (.aload_n 2, 1) := by decide +kernel
theorem dL_law_717 : decode cL_law 717 = .ok (.aload_n 0, 1) := by decide +kernel
theorem dL_law_718 : decode cL_law 718 = .ok (.iload_n 3, 1) := by decide +kernel
theorem dL_law_719 : decode cL_law 719 = .ok (.iconst 1, 1) := by decide +kernel
theorem dL_law_720 : decode cL_law 720 = .ok (.iadd, 1) := by decide +kernel
theorem dL_law_721 : decode cL_law 721 = .ok (.iaload, 1) := by decide +kernel
theorem dL_law_722 : decode cL_law 722 = .ok (.invokevirtual 104, 3) := by decide +kernel
theorem dL_law_725 : decode cL_law 725 = .ok (.if_icmp .eq 51, 3) := by decide +kernel
theorem dL_law_728 : decode cL_law 728 = .ok (.iconst 0, 1) := by decide +kernel
theorem dL_law_729 : decode cL_law 729 = .ok (.ireturn, 1) := by decide +kernel
theorem dL_law_730 : decode cL_law 730 = .ok (.aload_n 1, 1) := by decide +kernel
theorem dL_law_731 : decode cL_law 731 = .ok (.aload_n 0, 1) := by decide +kernel
theorem dL_law_732 : decode cL_law 732 = .ok (.iload_n 3, 1) := by decide +kernel
theorem dL_law_733 : decode cL_law 733 = .ok (.iconst 1, 1) := by decide +kernel
theorem dL_law_734 : decode cL_law 734 = .ok (.iadd, 1) := by decide +kernel
theorem dL_law_735 : decode cL_law 735 = .ok (.iaload, 1) := by decide +kernel
theorem dL_law_736 : decode cL_law 736 = .ok (.invokevirtual 105, 3) := by decide +kernel
theorem dL_law_739 : decode cL_law 739 = .ok (.aload_n 2, 1) := by decide +kernel
theorem dL_law_740 : decode cL_law 740 = .ok (.aload_n 0, 1) := by decide +kernel
theorem dL_law_741 : decode cL_law 741 = .ok (.iload_n 3, 1) := by decide +kernel
theorem dL_law_742 : decode cL_law 742 = .ok (.iconst 1, 1) := by decide +kernel
theorem dL_law_743 : decode cL_law 743 = .ok (.iadd, 1) := by decide +kernel
theorem dL_law_744 : decode cL_law 744 = .ok (.iaload, 1) := by decide +kernel
theorem dL_law_745 : decode cL_law 745 = .ok (.invokevirtual 108, 3) := by decide +kernel
theorem dL_law_748 : decode cL_law 748 = .ok (.if_icmp .eq 28, 3) := by decide +kernel
theorem dL_law_751 : decode cL_law 751 = .ok (.iconst 0, 1) := by decide +kernel
theorem dL_law_752 : decode cL_law 752 = .ok (.ireturn, 1) := by decide +kernel
theorem dL_law_753 : decode cL_law 753 = .ok (.aload_n 1, 1) := by decide +kernel
theorem dL_law_754 : decode cL_law 754 = .ok (.aload_n 0, 1) := by decide +kernel
theorem dL_law_755 : decode cL_law 755 = .ok (.iload_n 3, 1) := by decide +kernel
theorem dL_law_756 : decode cL_law 756 = .ok (.iconst 1, 1) := by decide +kernel
theorem dL_law_757 : decode cL_law 757 = .ok (.iadd, 1) := by decide +kernel
theorem dL_law_758 : decode cL_law 758 = .ok (.iaload, 1) := by decide +kernel
theorem dL_law_759 : decode cL_law 759 = .ok (.invokevirtual 109, 3) := by decide +kernel
theorem dL_law_762 : decode cL_law 762 = .ok (.aload_n 2, 1) := by decide +kernel
theorem dL_law_763 : decode cL_law 763 = .ok (.aload_n 0, 1) := by decide +kernel
theorem dL_law_764 : decode cL_law 764 = .ok (.iload_n 3, 1) := by decide +kernel
theorem dL_law_765 : decode cL_law 765 = .ok (.iconst 1, 1) := by decide +kernel
theorem dL_law_766 : decode cL_law 766 = .ok (.iadd, 1) := by decide +kernel
theorem dL_law_767 : decode cL_law 767 = .ok (.iaload, 1) := by decide +kernel
theorem dL_law_768 : decode cL_law 768 = .ok (.invokevirtual 112, 3) := by decide +kernel
theorem dL_law_771 : decode cL_law 771 = .ok (.if_icmp .eq 5, 3) := by decide +kernel
theorem dL_law_774 : decode cL_law 774 = .ok (.iconst 0, 1) := by decide +kernel
theorem dL_law_775 : decode cL_law 775 = .ok (.ireturn, 1) := by decide +kernel
theorem dL_law_776 : decode cL_law 776 = .ok (.iinc 3 4, 3) := by decide +kernel
theorem dL_law_779 : decode cL_law 779 = .ok (.goto (-761), 3) := by decide +kernel
theorem dL_law_782 : decode cL_law 782 = .ok (.iconst 1, 1) := by decide +kernel
theorem dL_law_783 : decode cL_law 783 = .ok (.ireturn, 1) := by decide +kernel
end
section
/-! THE LAYER: methods that make no cell; a contract says: from the world w it returns v0, and the world is w0 -/
abbrev EV : Type := va_G × (Nat → ClassId)
def Nst (U : State) : Prop := ∀ w ∈ nestL, va_Nw w U
theorem nestL_form : ∀ w ∈ nestL, ∃ (a : String) (i : Nat) (y : MethodName) (h : String), w = .methodLinkNest a i y h := by
  intro w hw
  simp only [nestL, List.mem_cons, List.not_mem_nil, or_false] at hw
  rcases hw with rfl | rfl | rfl | rfl | rfl | rfl | rfl | rfl | rfl | rfl | rfl | rfl | rfl | rfl <;> exact ⟨_, _, _, _, rfl⟩
theorem Nst.warm {s U : State} (hW : s.WarmedH U.vm) (h : Nst s) : Nst U := by
  intro w hw
  obtain ⟨a, i, y, k, rfl⟩ := nestL_form w hw
  exact va_Nw.warmM hW (h _ hw)
theorem Nst.calling {U : State} (g : JFrame) (mk : MethodId) (a : Array Value) (h : Nst U) : Nst (U.calling g mk a) := by
  intro w hw
  obtain ⟨x, i, y, k, rfl⟩ := nestL_form w hw
  exact va_Nw.same rfl (u := U) (U := U.calling g mk a) rfl (h _ hw)
abbrev tyL (E : EV) : List (ClassId × FieldType) := [(E.2 0, .int), (E.2 1, .long), (E.2 2, .boolean), (E.2 3, .object "NamedFabric$Net")]
def KK (E : EV) (U : State) : Prop := va_K E.1 vwCl (tyL E) U ∧ Nst U
theorem KK.warm {E : EV} {s U : State} (hW : s.WarmedH U.vm) (h : KK E s) : KK E U := ⟨va_K.moved hW.alike h.1, h.2.warm hW⟩
theorem KK.calling {E : EV} {U : State} (g : JFrame) (mk : MethodId) (a : Array Value) (h : KK E U) : KK E (U.calling g mk a) :=
  ⟨va_K.moved (u := U) (U := U.calling g mk a) (Vm.Alike.refl U.vm) h.1, h.2.calling g mk a⟩
/-- the addresses of a world -/
def AD (w : va_W) : Nat → Prop := fun q => q ∈ w.map Prod.fst
def QN (E : EV) (w : va_W) (v0 : Option Value) (w0 : va_W) : Array Value → State → Outcome → State → Prop := fun _ st oc t =>
  oc = .returned v0 ∧ va_P E.1 vwCl w0 t.heap ∧ va_F (AD w) st t
/-- a method's contract at these arguments and this world -/
def Cn (l : Launch) (E : EV) (y : MethodName) (cc : ByteArray) (maxL : Nat) (ret : Option FieldType) (fr lo : Nat) (As : List Value) (w w0 : va_W) (v0 : Option Value) : Prop :=
  Met l y (WS y cc maxL ret) ({ frames := fr, cells := 0, slots := 0, locals := lo }) (va_Pc As (fun U => va_P E.1 vwCl w U.heap ∧ KK E U ∧ va_D (fun _ => True) w)) (QN E w v0 w0) 0 0 (AD w)
/-- what stays so through a method -/
def Cx (p : Program) (E : EV) (s : State) (m : MethodId) (args : Array Value) (meth : Method) (c : Code) (cc : ByteArray) (nL : Nat) (own : String) (ret : Option FieldType) : Prop :=
  p.tables.exec = Jvm.exec ∧ c.code = cc ∧ c.maxLocals = nL ∧ s.vm.findClass own = some m.cls ∧ (∀ w ∈ GG, w.before args s = true) ∧ meth.locks = false ∧ meth.sig.returnType = ret ∧ KK E s
/-- the world now -/
def Nw (E : EV) (s : State) (B : Nat → Prop) (ws : va_W) (H : Heap) (locs : List Loc) : Prop := va_P E.1 vwCl ws H ∧ va_D B ws ∧ va_S B s.heap H locs
theorem AD.in {w : va_W} {k : Nat} {q : Nat × va_E} (h : w[k]? = some q) : AD w q.1 := List.mem_map.mpr ⟨q, List.mem_of_getElem? h, rfl⟩
theorem Cn.ofW {l : Launch} {E : EV} {y : MethodName} {cc : ByteArray} {maxL : Nat} {ret : Option FieldType} {fr lo : Nat} {As : List Value} {w w0 : va_W} {v0 : Option Value}
    (hy : plainName y.cls = true) (hA : (lg_sl As).length ≤ maxL)
    (body : ∀ (p : Program) (e : Env) (s : State) (m : MethodId) (args : Array Value) (below : List Frame) (meth : Method) (c : Code) (ls : Array Slot), Cx p E s m args meth c cc maxL y.cls ret → Nw E s (AD w) w s.heap [] → lv_has ls maxL (lv_args 0 As) →
      W p l e ({ frames := fr, cells := 0, slots := 0, locals := lo }) s m args below meth c s.heap [] 0 0 (MQ below (QN E w v0 w0) args s 0 0 (AD w)) (F0 m 0 ls [])) : Cn l E y cc maxL ret fr lo As w w0 v0 := by
  refine Met.ofW (cc := cc) (maxL := maxL) (ret := ret) hy rfl ?_
  intro p e s m args below meth c s₁ B hml hv
  obtain ⟨rfl, hP, hK, hD⟩ := hv
  have hts := atoms_spec (ws := WS y cc maxL ret) B.pre
  have hl := lv_entry As (n := maxL) hA
  rw [lg_entry_eq]
  exact body p e s m As.toArray below meth c _ ⟨B.exec, B.bytes, hml, findClass_of_methodNamed B.named, fun w hw => hts w (List.mem_cons_of_mem _ hw), B.notSynchronized, B.returns, hK⟩
    ⟨hP, ⟨hD.1, fun k q hk => AD.in hk⟩, va_S.rf⟩ hl
section R1
variable {p : Program} {l : Launch} {e : Env} {R : Room} {s : State} {m : MethodId} {args : Array Value} {below : List Frame} {meth : Method} {c : Code} {H : Heap} {locs : List Loc} {cells slots : Nat} {Q : State → Prop}
variable {cc : ByteArray} {pc nL : Nat} {ls : Array Slot} {rest : List Value} {E : EV} {own : String} {ret : Option FieldType} {B : Nat → Prop} {ws : va_W} {a : Nat}
theorem n_get {C : String} {T : u_T} {N ci index : Nat} (k : Nat) (hin : ∀ w ∈ u_ws C T N, w ∈ GG) (hc : vwCl[ci]? = some (C, T, N)) (hk : k < N) (hlink : Cond.fieldLink own index (T k).1 (T k).2.1 (T k).2.2.1 ∈ GG)
    (hC : Cx p E s m args meth c cc nL own ret) (hN : Nw E s B ws H locs) (q0 : Nat) {fs : List Value} (he : ws[q0]? = some (a, .inr (ci, fs))) {v : Value} (hv : fs[k]? = some v) (hdg : decode cc pc = .ok (.getfield index, 3))
    (kk : W p l e R s m args below meth c H locs cells slots Q (F0 m (pc + 3) ls (v :: rest))) : W p l e R s m args below meth c H locs cells slots Q (F0 m pc ls (.ref a :: rest)) :=
  va_get hC.1 hC.2.1 hC.2.2.2.2.1 hin hC.2.2.2.1 hC.2.2.2.2.2.2.2.1 hN.1 q0 he hc k hk (hC.2.2.2.2.1 _ hlink) (fun _ h => h) hv hdg kk
theorem n_put {C : String} {T : u_T} {N ci index : Nat} (k : Nat) (ty0 : Nat → FieldType) (hty : ∀ k, k < N → parseFieldDescriptor (T k).2.2.1 = some (ty0 k)) (hnm : ∀ a, a < N → ∀ b, b < N → a ≠ b → (T a).2.1 ≠ (T b).2.1) (hin : ∀ w ∈ u_ws C T N, w ∈ GG) (hc : vwCl[ci]? = some (C, T, N)) (hk : k < N) (hlink : Cond.fieldLink own index (T k).1 (T k).2.1 (T k).2.2.1 ∈ GG) (hfin : (T k).2.2.2 = false)
    (hC : Cx p E s m args meth c cc nL own ret) (hN : Nw E s B ws H locs) (q0 : Nat) {fs : List Value} (he : ws[q0]? = some (a, .inr (ci, fs))) {v : Value} (hn : narrow (ty0 k) v = v) (hfit : fits (ty0 k) v = true) (hl : k < fs.length) {ws' : va_W} (hw' : ws.set q0 (a, .inr (ci, fs.set k v)) = ws')
    (hdg : decode cc pc = .ok (.putfield index, 3)) (kk : ∀ (H1 : Heap) (locs1 : List Loc), Nw E s B ws' H1 locs1 → W p l e R s m args below meth c H1 locs1 cells slots Q (F0 m (pc + 3) ls rest)) : W p l e R s m args below meth c H locs cells slots Q (F0 m pc ls (v :: .ref a :: rest)) := by
  subst hw'
  exact va_put hC.1 hC.2.1 hC.2.2.2.2.1 hin ty0 hty hnm hC.2.2.2.1 hC.2.2.2.2.2.2.2.1 hN.1 hN.2.1 hN.2.2 q0 he hc k hk (hC.2.2.2.2.1 _ hlink) (fun _ h => h) hfin (hty k hk) hn hfit hl hdg (fun H1 locs1 h1 h2 h3 => kk H1 locs1 ⟨h1, h2, h3⟩)
theorem n_iald (hC : Cx p E s m args meth c cc nL own ret) (hN : Nw E s B ws H locs) (q0 : Nat) {n : Nat} {f : Nat → Int32} (ha : ws[q0]? = some (a, .inl (E.2 0, n, .inl f))) {i : Int32} (hin : vp_in i n) (hdg : decode cc pc = .ok (.iaload, 1))
    (kk : W p l e R s m args below meth c H locs cells slots Q (F0 m (pc + 1) ls (.int (f i.toNatClampNeg) :: rest))) : W p l e R s m args below meth c H locs cells slots Q (F0 m pc ls (.int i :: .ref a :: rest)) :=
  va_iald hC.1 hC.2.1 hC.2.2.2.2.2.2.2.1 hN.1 q0 0 ha rfl hin hdg kk
theorem n_lald (hC : Cx p E s m args meth c cc nL own ret) (hN : Nw E s B ws H locs) (q0 : Nat) {n : Nat} {f : Nat → Int64} (ha : ws[q0]? = some (a, .inl (E.2 1, n, .inr (.inl f)))) {i : Int32} (hin : vp_in i n) (hdg : decode cc pc = .ok (.laload, 1))
    (kk : W p l e R s m args below meth c H locs cells slots Q (F0 m (pc + 1) ls (.long (f i.toNatClampNeg) :: rest))) : W p l e R s m args below meth c H locs cells slots Q (F0 m pc ls (.int i :: .ref a :: rest)) :=
  va_lald hC.1 hC.2.1 hC.2.2.2.2.2.2.2.1 hN.1 q0 1 ha rfl hin hdg kk
theorem n_zald (hC : Cx p E s m args meth c cc nL own ret) (hN : Nw E s B ws H locs) (q0 : Nat) {n : Nat} {f : Nat → Int32} (ha : ws[q0]? = some (a, .inl (E.2 2, n, .inl f))) {i : Int32} (hin : vp_in i n) (hdg : decode cc pc = .ok (.baload, 1))
    (kk : W p l e R s m args below meth c H locs cells slots Q (F0 m (pc + 1) ls (.int (f i.toNatClampNeg) :: rest))) : W p l e R s m args below meth c H locs cells slots Q (F0 m pc ls (.int i :: .ref a :: rest)) :=
  va_zald hC.1 hC.2.1 hC.2.2.2.2.2.2.2.1 hN.1 q0 2 ha rfl hin hdg kk
theorem n_aald (hC : Cx p E s m args meth c cc nL own ret) (hN : Nw E s B ws H locs) (q0 : Nat) {n : Nat} {f : Nat → Option Nat} (ha : ws[q0]? = some (a, .inl (E.2 3, n, .inr (.inr (.inr (.inr f)))))) {i : Int32} (hin : vp_in i n) {b : Nat} (hb : f i.toNatClampNeg = some b) (hdg : decode cc pc = .ok (.aaload, 1))
    (kk : W p l e R s m args below meth c H locs cells slots Q (F0 m (pc + 1) ls (.ref b :: rest))) : W p l e R s m args below meth c H locs cells slots Q (F0 m pc ls (.int i :: .ref a :: rest)) :=
  va_aldq hC.1 hC.2.1 hC.2.2.2.2.2.2.2.1 hN.1 q0 3 ha rfl hin hdg (by rw [hb]; exact kk)
theorem n_alen (hC : Cx p E s m args meth c cc nL own ret) (hN : Nw E s B ws H locs) (q0 : Nat) {x : vp_A} (ha : ws[q0]? = some (a, .inl (E.2 0, x))) {v : Int32} (hv : Int32.ofNat x.1 = v) (hdg : decode cc pc = .ok (.arraylength, 1))
    (kk : W p l e R s m args below meth c H locs cells slots Q (F0 m (pc + 1) ls (.int v :: rest))) : W p l e R s m args below meth c H locs cells slots Q (F0 m pc ls (.ref a :: rest)) :=
  va_alen hC.1 hC.2.1 hC.2.2.2.2.2.2.2.1 hN.1 q0 0 ha rfl hv hdg kk
theorem n_iast (hC : Cx p E s m args meth c cc nL own ret) (hN : Nw E s B ws H locs) (q0 : Nat) {n : Nat} {f : Nat → Int32} (ha : ws[q0]? = some (a, .inl (E.2 0, n, .inl f))) {i x : Int32} (hin : vp_in i n) {f' : Nat → Int32} (hf' : f' = upd f i.toNatClampNeg x) {ws' : va_W} (hw' : ws.set q0 (a, .inl (E.2 0, n, .inl f')) = ws') (hdg : decode cc pc = .ok (.iastore, 1))
    (kk : ∀ (H1 : Heap) (locs1 : List Loc), Nw E s B ws' H1 locs1 → W p l e R s m args below meth c H1 locs1 cells slots Q (F0 m (pc + 1) ls rest)) : W p l e R s m args below meth c H locs cells slots Q (F0 m pc ls (.int x :: .int i :: .ref a :: rest)) := by
  subst hf' hw'
  exact va_iast hC.1 hC.2.1 hC.2.2.2.2.2.2.2.1 hN.1 hN.2.1 hN.2.2 q0 0 ha rfl hin hdg (fun H1 locs1 h1 h2 h3 => kk H1 locs1 ⟨h1, h2, h3⟩)
theorem n_zast (hC : Cx p E s m args meth c cc nL own ret) (hN : Nw E s B ws H locs) (q0 : Nat) {n : Nat} {f : Nat → Int32} (ha : ws[q0]? = some (a, .inl (E.2 2, n, .inl f))) {i x : Int32} (hin : vp_in i n) {f' : Nat → Int32} (hf' : f' = upd f i.toNatClampNeg (vp_nar .boolean x)) {ws' : va_W} (hw' : ws.set q0 (a, .inl (E.2 2, n, .inl f')) = ws') (hdg : decode cc pc = .ok (.bastore, 1))
    (kk : ∀ (H1 : Heap) (locs1 : List Loc), Nw E s B ws' H1 locs1 → W p l e R s m args below meth c H1 locs1 cells slots Q (F0 m (pc + 1) ls rest)) : W p l e R s m args below meth c H locs cells slots Q (F0 m pc ls (.int x :: .int i :: .ref a :: rest)) := by
  subst hf' hw'
  exact va_zast hC.1 hC.2.1 hC.2.2.2.2.2.2.2.1 hN.1 hN.2.1 hN.2.2 q0 2 ha rfl hin hdg (fun H1 locs1 h1 h2 h3 => kk H1 locs1 ⟨h1, h2, h3⟩)
theorem n_last (hC : Cx p E s m args meth c cc nL own ret) (hN : Nw E s B ws H locs) (q0 : Nat) {n : Nat} {f : Nat → Int64} (ha : ws[q0]? = some (a, .inl (E.2 1, n, .inr (.inl f)))) {i : Int32} {x : Int64} (hin : vp_in i n) {f' : Nat → Int64} (hf' : f' = vp_updL f i.toNatClampNeg x) {ws' : va_W} (hw' : ws.set q0 (a, .inl (E.2 1, n, .inr (.inl f'))) = ws') (hdg : decode cc pc = .ok (.lastore, 1))
    (kk : ∀ (H1 : Heap) (locs1 : List Loc), Nw E s B ws' H1 locs1 → W p l e R s m args below meth c H1 locs1 cells slots Q (F0 m (pc + 1) ls rest)) : W p l e R s m args below meth c H locs cells slots Q (F0 m pc ls (.long x :: .int i :: .ref a :: rest)) := by
  subst hf' hw'
  exact va_last hC.1 hC.2.1 hC.2.2.2.2.2.2.2.1 hN.1 hN.2.1 hN.2.2 q0 1 ha rfl hin hdg (fun H1 locs1 h1 h2 h3 => kk H1 locs1 ⟨h1, h2, h3⟩)
variable {w w0 : va_W}
theorem n_iret (hC : Cx p E s m args meth c cc nL own (some .int)) (hN : Nw E s (AD w) w0 H locs) {v : Int32} (hdg : decode cc pc = .ok (.ireturn, 1)) : W p l e R s m args below meth c H locs cells slots (MQ below (QN E w (some (.int v)) w0) args s cells slots (AD w)) (F0 m pc ls [.int v]) :=
  W.iret hC.1 hC.2.1 hC.2.2.2.2.2.2.1 (fun t ht hW => ⟨rfl, by rw [ht]; exact hN.1, hN.2.2.F ht⟩) hN.2.2.2.2 hdg (hlocks := hC.2.2.2.2.2.1)
theorem n_lret (hC : Cx p E s m args meth c cc nL own (some .long)) (hN : Nw E s (AD w) w0 H locs) {v : Int64} (hdg : decode cc pc = .ok (.lreturn, 1)) : W p l e R s m args below meth c H locs cells slots (MQ below (QN E w (some (.long v)) w0) args s cells slots (AD w)) (F0 m pc ls [.long v]) :=
  W.lret hC.1 hC.2.1 hC.2.2.2.2.2.2.1 (fun t ht hW => ⟨rfl, by rw [ht]; exact hN.1, hN.2.2.F ht⟩) hN.2.2.2.2 hdg (hlocks := hC.2.2.2.2.2.1)
theorem n_vret (hC : Cx p E s m args meth c cc nL own none) (hN : Nw E s (AD w) w0 H locs) (hdg : decode cc pc = .ok (.return_, 1)) : W p l e R s m args below meth c H locs cells slots (MQ below (QN E w none w0) args s cells slots (AD w)) (F0 m pc ls []) :=
  W.vret hC.1 hC.2.1 hC.2.2.2.2.2.2.1 (fun t ht hW => ⟨rfl, by rw [ht]; exact hN.1, hN.2.2.F ht⟩) hN.2.2.2.2 hdg (hlocks := hC.2.2.2.2.2.1)
theorem isB {v : Int32} (h : v = 0 ∨ v = 1) : narrow .boolean (.int v) = .int v := by rcases h with rfl | rfl <;> rfl
theorem isBf {v : Int32} (h : v = 0 ∨ v = 1) : fits .boolean (.int v) = true := by rcases h with rfl | rfl <;> rfl
theorem n_zret (hC : Cx p E s m args meth c cc nL own (some .boolean)) (hN : Nw E s (AD w) w0 H locs) {v : Int32} (hv : v = 0 ∨ v = 1) (hdg : decode cc pc = .ok (.ireturn, 1)) : W p l e R s m args below meth c H locs cells slots (MQ below (QN E w (some (.int v)) w0) args s cells slots (AD w)) (F0 m pc ls [.int v]) :=
  W.zret hC.1 hC.2.1 hC.2.2.2.2.2.2.1 (isB hv) (fun t ht hW => ⟨rfl, by rw [ht]; exact hN.1, hN.2.2.F ht⟩) hN.2.2.2.2 hdg (hlocks := hC.2.2.2.2.2.1)
theorem n_aret {C : String} (hC : Cx p E s m args meth c cc nL own (some (.object C))) (hN : Nw E s (AD w) w0 H locs) {v : Nat} (hdg : decode cc pc = .ok (.areturn, 1)) : W p l e R s m args below meth c H locs cells slots (MQ below (QN E w (some (.ref v)) w0) args s cells slots (AD w)) (F0 m pc ls [.ref v]) :=
  W.aret hC.1 hC.2.1 hC.2.2.2.2.2.2.1 (Or.inl ⟨C, rfl⟩) (Or.inr ⟨v, rfl⟩) (fun t ht hW => ⟨rfl, by rw [ht]; exact hN.1, hN.2.2.F ht⟩) hN.2.2.2.2 hdg (hlocks := hC.2.2.2.2.2.1)
/-- what the tables say of a callee -/
def CY (y : MethodName) (cc : ByteArray) (n : Nat) (r : Option FieldType) (k : Nat) : Prop :=
  Cond.code y cc n r ∈ GG ∧ Cond.initialized y.cls ∈ GG ∧ (y.cls ≠ "java/lang/invoke/MethodHandle" ∧ y.cls ≠ "java/lang/invoke/VarHandle") ∧ (parseMethodDescriptor y.desc).map (fun d => d.parameters.length) = some k
theorem n_blind {As : List Value} : FrameBlind (va_Pc As (fun U => va_P E.1 vwCl w U.heap ∧ KK E U ∧ va_D (fun _ => True) w)) := fun a U g mk q => ⟨q.1, q.2.1, q.2.2.1.calling g mk a, q.2.2.2⟩
theorem n_atU {As : List Value} (hC : Cx p E s m args meth c cc nL own ret) (hP : va_P E.1 vwCl w H) (hD : va_D B w) : ∀ U : State, U.heap = H → s.WarmedH U.vm → va_Pc As (fun U => va_P E.1 vwCl w U.heap ∧ KK E U ∧ va_D (fun _ => True) w) As.toArray U :=
  fun U hU hW => ⟨rfl, by rw [hU]; exact hP, hC.2.2.2.2.2.2.2.warm hW, hD.weaken (fun _ _ _ _ => trivial)⟩
theorem n_B {y : MethodName} {bytes : ByteArray} {maxL fr lo n index : Nat} {rt : Option FieldType} (hC : Cx p E s m args meth c cc nL own ret) (cy : CY y bytes maxL rt n) (hl : Cond.methodLink own index y ∈ GG) (hR : fr + 1 ≤ R.frames ∧ 8 + (maxL + 11) + lo ≤ R.locals) :
    CallB R s args own index y bytes maxL rt (WS y bytes maxL rt) ({ frames := fr, cells := 0, slots := 0, locals := lo }) 0 0 n :=
  callB_of n hC.2.2.2.2.1 (ws_goodG cy.1) rfl rfl rfl (hC.2.2.2.2.1 _ cy.2.1) (hC.2.2.2.2.1 _ hl) ⟨cy.2.2.1.1, cy.2.2.1.2, cy.2.2.2⟩ hR
theorem n_CN {y : MethodName} {bytes : ByteArray} {maxL fr lo n index : Nat} {rt : Option FieldType} {host : String} (hC : Cx p E s m args meth c cc nL own ret) (cy : CY y bytes maxL rt n) (hl : Cond.methodLinkNest own index y host ∈ nestL) (hR : fr + 1 ≤ R.frames ∧ 8 + (maxL + 11) + lo ≤ R.locals) :
    va_CN R s args own index y host bytes maxL rt (WS y bytes maxL rt) ({ frames := fr, cells := 0, slots := 0, locals := lo }) 0 0 n :=
  va_cnB n hC.2.2.2.2.1 (ws_goodG cy.1) rfl rfl rfl (hC.2.2.2.2.2.2.2.2 _ hl) (hC.2.2.2.2.1 _ cy.2.1) ⟨cy.2.2.1.1, cy.2.2.1.2, cy.2.2.2⟩ hR
end R1
section R2
variable {p : Program} {l : Launch} {e : Env} {R : Room} {s : State} {m : MethodId} {args : Array Value} {below : List Frame} {meth : Method} {c : Code} {H : Heap} {locs : List Loc} {cells slots : Nat} {Q : State → Prop}
variable {cc : ByteArray} {pc nL : Nat} {ls : Array Slot} {rest st : List Value} {E : EV} {own : String} {ret : Option FieldType} {B : Nat → Prop} {ws ws' wc wc0 wr : va_W} {a : Nat}
theorem va_P.mem {D : va_G} {cl : List vw_C} (h : ∀ q ∈ ws, va_at D cl q H) : va_P D cl ws H := fun k q hk => h q (List.mem_of_getElem? hk)
theorem va_P.of {D : va_G} {cl : List vw_C} (h : va_P D cl ws H) : ∀ q ∈ ws, va_at D cl q H := fun q hq => by
  obtain ⟨k, hk⟩ := List.getElem?_of_mem hq
  exact h k q hk
theorem va_P.perm {D : va_G} {cl : List vw_C} (h : va_P D cl ws H) (hp : ws.Perm ws') : va_P D cl ws' H := va_P.mem (fun q hq => h.of q (hp.mem_iff.mpr hq))
theorem nd_inj : ∀ {l : List Nat}, l.Nodup → ∀ (i j a : Nat), l[i]? = some a → l[j]? = some a → i = j := by
  intro l hl i j a hi hj
  obtain ⟨h1, e1⟩ := List.getElem?_eq_some_iff.mp hi
  obtain ⟨h2, e2⟩ := List.getElem?_eq_some_iff.mp hj
  have hp := List.pairwise_iff_getElem.mp (List.nodup_iff_pairwise_ne.mp hl)
  rcases Nat.lt_trichotomy i j with h | h | h
  · exact absurd (e1.trans e2.symm) (hp i j h1 h2 h)
  · exact h
  · exact absurd (e2.trans e1.symm) (hp j i h2 h1 h)
theorem va_D.nd (h : va_D B ws) : (ws.map Prod.fst).Nodup := by
  rw [List.nodup_iff_pairwise_ne, List.pairwise_iff_getElem]
  intro i j hi hj hij he
  rw [List.length_map] at hi hj
  rw [List.getElem_map, List.getElem_map] at he
  have := h.1 i j _ _ (List.getElem?_eq_getElem hi) (List.getElem?_eq_getElem hj) he
  omega
theorem va_D.mk' (h : (ws.map Prod.fst).Nodup) (h2 : ∀ q ∈ ws.map Prod.fst, B q) : va_D B ws := by
  refine ⟨fun i j x y hi hj he => ?_, fun k q hk => h2 _ (List.mem_map.mpr ⟨q, List.mem_of_getElem? hk, rfl⟩)⟩
  exact nd_inj h i j x.1 (by rw [List.getElem?_map, hi]; rfl) (by rw [List.getElem?_map, hj, he]; rfl)
theorem va_D.all (h : va_D B ws) : ∀ q ∈ ws.map Prod.fst, B q := fun q hq => by
  obtain ⟨x, hx, rfl⟩ := List.mem_map.mp hq
  obtain ⟨k, hk⟩ := List.getElem?_of_mem hx
  exact h.2 k x hk
theorem va_D.perm (h : va_D B ws) (hp : (ws.map Prod.fst).Perm (ws'.map Prod.fst)) : va_D B ws' := va_D.mk' (hp.nodup_iff.mp h.nd) (fun q hq => h.all q (hp.mem_iff.mpr hq))
/-- behind a call -/
theorem n_join (hN : Nw E s B ws H locs) (h1 : ws.Perm (wc ++ wr)) (h2 : ws'.Perm (wc0 ++ wr)) (ha : wc0.map Prod.fst = wc.map Prod.fst) {H1 : Heap} {locs1 : List Loc} (hP1 : va_P E.1 vwCl wc0 H1) (hk : ∀ q : Nat, q < H.size → ¬ AD wc q → H1[q]? = H[q]?) (hS : va_S B s.heap H1 locs1) : Nw E s B ws' H1 locs1 := by
  have hD1 := hN.2.1.perm (h1.map Prod.fst)
  have hnd := hD1.nd
  refine ⟨va_P.perm (va_P.app hP1 (va_P.mem (fun q hq => ?_))) h2.symm, hN.2.1.perm ?_, hS⟩
  · have h3 : va_at E.1 vwCl q H := hN.1.of q (h1.mem_iff.mpr (List.mem_append_right _ hq))
    refine h3.kept (hk q.1 h3.lt (fun hm => ?_))
    rw [List.map_append] at hnd
    exact (List.nodup_append.mp hnd).2.2 q.1 hm q.1 (List.mem_map.mpr ⟨q, hq, rfl⟩) rfl
  · refine (h1.map Prod.fst).trans (List.Perm.trans ?_ (h2.map Prod.fst).symm)
    rw [List.map_append, List.map_append, ha]
theorem n_sub (hN : Nw E s B ws H locs) (h1 : ws.Perm (wc ++ wr)) : va_P E.1 vwCl wc H ∧ va_D B wc ∧ ∀ q, AD wc q → B q := by
  have hD1 := hN.2.1.perm (h1.map Prod.fst)
  have hnd := hD1.nd
  have hall := hD1.all
  rw [List.map_append] at hnd hall
  refine ⟨va_P.mem (fun q hq => hN.1.of q (h1.mem_iff.mpr (List.mem_append_left _ hq))), va_D.mk' (List.nodup_append.mp hnd).1 (fun q hq => hall q (List.mem_append_left _ hq)), fun q hq => hall q (List.mem_append_left _ hq)⟩
theorem n_after {v0 : Option Value} {free : Addr → Prop} {a' : Array Value} (hr : va_Run p l e R s m args below meth c H locs cells slots 0 0 (F0 m pc ls st) rest (QN E wc v0 wc0 a') (AD wc)) (hN : Nw E s B ws H locs) (h1 : ws.Perm (wc ++ wr)) (h2 : ws'.Perm (wc0 ++ wr)) (ha : wc0.map Prod.fst = wc.map Prod.fst)
    (kk : ∀ (H1 : Heap) (locs1 : List Loc), Nw E s B ws' H1 locs1 → W p l e R s m args below meth c H1 locs1 cells slots Q (F0 m (pc + 3) ls (v0.toList ++ rest))) : W p l e R s m args below meth c H locs cells slots Q (F0 m pc ls st) := by
  intro T hT X
  obtain ⟨hPc, hDc, hB⟩ := n_sub hN h1
  obtain ⟨v, st₀, t, T', L, h0, X', hL, e1, e2, ⟨hv, hP1, hz, hk⟩, stp⟩ := hr T hT X
  cases hv
  rw [h0] at hz hk
  have hS := hN.2.2
  obtain ⟨t2, a1, b1⟩ := kk T'.heap (locs ++ L) (n_join hN h1 h2 ha (by rw [e1]; exact hP1) (fun q h1 h2 => by rw [e1]; exact hk q h1 h2)
    ⟨Nat.le_trans hS.1 (by rw [e1]; exact hz), fun q h1 h2 => by rw [e1, hk q (Nat.lt_of_lt_of_le h1 hS.1) (fun z => h2 (hB q z))]; exact hS.2.1 q h1 h2, fun q hq => by
      rcases List.mem_append.mp hq with h | h
      · exact hS.2.2 q h
      · exact hB _ (hL q h)⟩) T' rfl X'
  exact ⟨t2, stp t2 a1, b1⟩
variable {y : MethodName} {bytes : ByteArray} {maxL fr lo n index : Nat} {rt : Option FieldType} {As : List Value} {v0 : Option Value} {b : Nat}
/-- a call of a method of an object; the rest of the world stays -/
theorem n_callV {C : String} {ci : Nat} {r : vw_C} {fs : List Value} (hC : Cx p E s m args meth c cc nL own ret) (hN : Nw E s B ws H locs) (hM : Cn l E y bytes maxL rt fr lo (.ref b :: As) wc wc0 v0) (cy : CY y bytes maxL rt n) (hl : Cond.methodLink own index y ∈ GG) (hi : Cond.instanceMethod y ∈ GG) (hse : Cond.selects C y y ∈ GG)
    (hc : vwCl[ci]? = some r) (hrC : r.1 = C) {k : Nat} (hq : wc[k]? = some (b, .inr (ci, fs))) (h1 : ws.Perm (wc ++ wr)) (h2 : ws'.Perm (wc0 ++ wr)) (ha : wc0.map Prod.fst = wc.map Prod.fst)
    (hn : As.length = n) (hs : ls.size = nL) (hst : st = As.reverse ++ .ref b :: rest) (hW : (rest.map fun v => v.category).sum ≤ 8) (hdg : decode cc pc = .ok (.invokevirtual index, 3)) (hR : fr + 1 ≤ R.frames ∧ 8 + (maxL + 11) + lo ≤ R.locals) (hf : cells ≤ R.cells ∧ slots ≤ R.slots)
    (kk : ∀ (H1 : Heap) (locs1 : List Loc), Nw E s B ws' H1 locs1 → W p l e R s m args below meth c H1 locs1 cells slots Q (F0 m (pc + 3) ls (v0.toList ++ rest))) : W p l e R s m args below meth c H locs cells slots Q (F0 m pc ls st) := by
  subst hst hrC
  obtain ⟨hPc, hDc, hB⟩ := n_sub hN h1
  exact n_after (free := AD wc) (va_runV (C := r.1) (As := As) (rest := rest) ⟨hC.1, hC.2.1, hC.2.2.1, hC.2.2.2.1, hC.2.2.2.2.1⟩ hM ⟨n_B hC cy hl hR, hC.2.2.2.2.1 _ hi, hC.2.2.2.2.1 _ hse⟩ ⟨n_blind, va_recv hC.2.2.2.2.2.2.2.1 hPc hc hq, n_atU hC hPc hDc⟩ rfl hn hs rfl (lv_room hW) hdg hf) hN h1 h2 ha kk
theorem n_callS (hC : Cx p E s m args meth c cc nL own ret) (hN : Nw E s B ws H locs) (hM : Cn l E y bytes maxL rt fr lo As wc wc0 v0) (cy : CY y bytes maxL rt n) (hl : Cond.methodLink own index y ∈ GG) (hi : Cond.static y ∈ GG)
    (h1 : ws.Perm (wc ++ wr)) (h2 : ws'.Perm (wc0 ++ wr)) (ha : wc0.map Prod.fst = wc.map Prod.fst)
    (hn : As.length = n) (hs : ls.size = nL) (hst : st = As.reverse ++ rest) (hW : (rest.map fun v => v.category).sum ≤ 8) (hdg : decode cc pc = .ok (.invokestatic index, 3)) (hR : fr + 1 ≤ R.frames ∧ 8 + (maxL + 11) + lo ≤ R.locals) (hf : cells ≤ R.cells ∧ slots ≤ R.slots)
    (kk : ∀ (H1 : Heap) (locs1 : List Loc), Nw E s B ws' H1 locs1 → W p l e R s m args below meth c H1 locs1 cells slots Q (F0 m (pc + 3) ls (v0.toList ++ rest))) : W p l e R s m args below meth c H locs cells slots Q (F0 m pc ls st) := by
  subst hst
  obtain ⟨hPc, hDc, hB⟩ := n_sub hN h1
  exact n_after (free := AD wc) (va_runS (As := As) (rest := rest) ⟨hC.1, hC.2.1, hC.2.2.1, hC.2.2.2.1, hC.2.2.2.2.1⟩ hM ⟨n_B hC cy hl hR, hC.2.2.2.2.1 _ hi⟩ ⟨n_blind, n_atU hC hPc hDc⟩ rfl hn hs rfl (lv_room hW) hdg hf) hN h1 h2 ha kk
theorem n_callSN {host : String} (hC : Cx p E s m args meth c cc nL own ret) (hN : Nw E s B ws H locs) (hM : Cn l E y bytes maxL rt fr lo As wc wc0 v0) (cy : CY y bytes maxL rt n) (hl : Cond.methodLinkNest own index y host ∈ nestL) (hi : Cond.static y ∈ GG)
    (h1 : ws.Perm (wc ++ wr)) (h2 : ws'.Perm (wc0 ++ wr)) (ha : wc0.map Prod.fst = wc.map Prod.fst)
    (hn : As.length = n) (hs : ls.size = nL) (hst : st = As.reverse ++ rest) (hW : (rest.map fun v => v.category).sum ≤ 8) (hdg : decode cc pc = .ok (.invokestatic index, 3)) (hR : fr + 1 ≤ R.frames ∧ 8 + (maxL + 11) + lo ≤ R.locals) (hf : cells ≤ R.cells ∧ slots ≤ R.slots)
    (kk : ∀ (H1 : Heap) (locs1 : List Loc), Nw E s B ws' H1 locs1 → W p l e R s m args below meth c H1 locs1 cells slots Q (F0 m (pc + 3) ls (v0.toList ++ rest))) : W p l e R s m args below meth c H locs cells slots Q (F0 m pc ls st) := by
  subst hst
  obtain ⟨hPc, hDc, hB⟩ := n_sub hN h1
  exact n_after (free := AD wc) (va_runSN (As := As) (rest := rest) ⟨hC.1, hC.2.1, hC.2.2.1, hC.2.2.2.1, hC.2.2.2.2.1⟩ hM ⟨n_CN hC cy hl hR, hC.2.2.2.2.1 _ hi, trivial⟩ ⟨n_blind, n_atU hC hPc hDc⟩ rfl hn hs rfl (lv_room hW) hdg hf) hN h1 h2 ha kk
end R2
/-! pure steps -/
def bd {α β : Type} (a : α) (k : α → Option β) : Option β := k a
def gd {β : Type} (c : Prop) [Decidable c] (t : Option β) : Option β := if c then t else none
theorem bd_e {α β : Type} {a : α} {k : α → Option β} {r : Option β} (h : bd a k = r) (x : α) (ex : x = a) : k x = r := by subst ex; exact h
theorem gd_c {β : Type} {c : Prop} [Decidable c] {t : Option β} {r : β} (h : gd c t = some r) : c := by
  unfold gd at h
  split at h
  · assumption
  · cases h
theorem gd_e {β : Type} {c : Prop} [Decidable c] {t : Option β} {r : β} (h : gd c t = some r) : t = some r := by
  unfold gd at h
  split at h
  · exact h
  · cases h
theorem if_t {β : Type} {c : Prop} [Decidable c] {a b r : β} (h : (if c then a else b) = r) (hc : c) : a = r := by rw [if_pos hc] at h; exact h
theorem if_f {β : Type} {c : Prop} [Decidable c] {a b r : β} (h : (if c then a else b) = r) (hc : ¬ c) : b = r := by rw [if_neg hc] at h; exact h
theorem if_n {β : Type} {c : Prop} [Decidable c] {a b r : β} (h : (if c then a else b) = r) (hc : ¬ ¬ c) : a = r := by rw [if_pos (Decidable.not_not.mp hc)] at h; exact h
theorem bi_e {α β : Type} {o : Option α} {k : α → Option β} {r : β} (h : o.bind k = some r) : ∃ x, o = some x ∧ k x = some r := Option.bind_eq_some_iff.mp h
theorem perm_self {α : Type} (l : List α) : l.Perm (l ++ []) := by rw [List.append_nil]
theorem perm_nil {α : Type} (l : List α) : l.Perm ([] ++ l) := List.Perm.refl _
end
