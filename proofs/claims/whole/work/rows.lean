section
-- ===== PART A: goes FIRST, ahead of the names: the tables' words, and 'selects' of the private methods out of them =====
/-- a private method of a class that the tables say can be made, by its rows of tables_1 -/
def lw_okq (q : MethodName × Nat) : Prop := (q.1.cls ≠ "java/lang/invoke/MethodHandle" ∧ q.1.cls ≠ "java/lang/invoke/VarHandle") ∧ Cond.instantiable q.1.cls q.2 ∈ tables_1 ∧ Cond.privateMethod q.1 ∈ tables_1 ∧ Cond.instanceMethod q.1 ∈ tables_1
theorem lw_p0 : lw_okq (⟨"PackLanes", "restart", "(III)V"⟩, 14) := ⟨⟨by decide +kernel, by decide +kernel⟩, List.mem_of_getElem? (i := 16) (by decide +kernel), List.mem_of_getElem? (i := 293) (by decide +kernel), List.mem_of_getElem? (i := 294) (by decide +kernel)⟩
theorem lw_p1 : lw_okq (⟨"PackLanes$Links", "link", "(IIII)V"⟩, 5) := ⟨⟨by decide +kernel, by decide +kernel⟩, List.mem_of_getElem? (i := 146) (by decide +kernel), List.mem_of_getElem? (i := 320) (by decide +kernel), List.mem_of_getElem? (i := 321) (by decide +kernel)⟩
theorem lw_p2 : lw_okq (⟨"PackLanes$Links", "clashInMemory", "(IIII)Z"⟩, 5) := ⟨⟨by decide +kernel, by decide +kernel⟩, List.mem_of_getElem? (i := 146) (by decide +kernel), List.mem_of_getElem? (i := 328) (by decide +kernel), List.mem_of_getElem? (i := 329) (by decide +kernel)⟩
theorem lw_p3 : lw_okq (⟨"PackLanes$Links", "clashByStop", "(II)Z"⟩, 5) := ⟨⟨by decide +kernel, by decide +kernel⟩, List.mem_of_getElem? (i := 146) (by decide +kernel), List.mem_of_getElem? (i := 340) (by decide +kernel), List.mem_of_getElem? (i := 341) (by decide +kernel)⟩
theorem lw_p4 : lw_okq (⟨"PackLanes$Packer", "leastStore", "(II)I"⟩, 14) := ⟨⟨by decide +kernel, by decide +kernel⟩, List.mem_of_getElem? (i := 140) (by decide +kernel), List.mem_of_getElem? (i := 348) (by decide +kernel), List.mem_of_getElem? (i := 349) (by decide +kernel)⟩
theorem lw_p5 : lw_okq (⟨"PackLanes$Packer", "considerRoot", "(I)V"⟩, 14) := ⟨⟨by decide +kernel, by decide +kernel⟩, List.mem_of_getElem? (i := 140) (by decide +kernel), List.mem_of_getElem? (i := 372) (by decide +kernel), List.mem_of_getElem? (i := 373) (by decide +kernel)⟩
theorem lw_p6 : lw_okq (⟨"PackLanes$Tree", "addPack", "(I)V"⟩, 11) := ⟨⟨by decide +kernel, by decide +kernel⟩, List.mem_of_getElem? (i := 172) (by decide +kernel), List.mem_of_getElem? (i := 380) (by decide +kernel), List.mem_of_getElem? (i := 381) (by decide +kernel)⟩
theorem lw_p7 : lw_okq (⟨"PackLanes$Tree", "operands", "(II)I"⟩, 11) := ⟨⟨by decide +kernel, by decide +kernel⟩, List.mem_of_getElem? (i := 172) (by decide +kernel), List.mem_of_getElem? (i := 385) (by decide +kernel), List.mem_of_getElem? (i := 386) (by decide +kernel)⟩
theorem lw_p8 : lw_okq (⟨"PackLanes$Tree", "append", "(I)V"⟩, 11) := ⟨⟨by decide +kernel, by decide +kernel⟩, List.mem_of_getElem? (i := 172) (by decide +kernel), List.mem_of_getElem? (i := 392) (by decide +kernel), List.mem_of_getElem? (i := 393) (by decide +kernel)⟩
theorem lw_p9 : lw_okq (⟨"PackLanes$Tree", "handle", "(I)V"⟩, 11) := ⟨⟨by decide +kernel, by decide +kernel⟩, List.mem_of_getElem? (i := 172) (by decide +kernel), List.mem_of_getElem? (i := 396) (by decide +kernel), List.mem_of_getElem? (i := 397) (by decide +kernel)⟩
theorem lw_p10 : lw_okq (⟨"PackLanes$Tree", "turnedLanes", "(I)I"⟩, 11) := ⟨⟨by decide +kernel, by decide +kernel⟩, List.mem_of_getElem? (i := 172) (by decide +kernel), List.mem_of_getElem? (i := 401) (by decide +kernel), List.mem_of_getElem? (i := 402) (by decide +kernel)⟩
theorem lw_p11 : lw_okq (⟨"PackLanes$Tree", "hasPack", "(I)Z"⟩, 11) := ⟨⟨by decide +kernel, by decide +kernel⟩, List.mem_of_getElem? (i := 172) (by decide +kernel), List.mem_of_getElem? (i := 405) (by decide +kernel), List.mem_of_getElem? (i := 406) (by decide +kernel)⟩
theorem lw_p12 : lw_okq (⟨"PackLanes$Tree", "takeOneByOne", "(I)V"⟩, 11) := ⟨⟨by decide +kernel, by decide +kernel⟩, List.mem_of_getElem? (i := 172) (by decide +kernel), List.mem_of_getElem? (i := 409) (by decide +kernel), List.mem_of_getElem? (i := 410) (by decide +kernel)⟩
theorem lw_p13 : lw_okq (⟨"PackLanes$Tree", "isTakenOut", "(I)Z"⟩, 11) := ⟨⟨by decide +kernel, by decide +kernel⟩, List.mem_of_getElem? (i := 172) (by decide +kernel), List.mem_of_getElem? (i := 418) (by decide +kernel), List.mem_of_getElem? (i := 419) (by decide +kernel)⟩
theorem lw_p14 : lw_okq (⟨"PackLanes$Packer", "joinTree", "(Z)V"⟩, 14) := ⟨⟨by decide +kernel, by decide +kernel⟩, List.mem_of_getElem? (i := 140) (by decide +kernel), List.mem_of_getElem? (i := 422) (by decide +kernel), List.mem_of_getElem? (i := 423) (by decide +kernel)⟩
theorem lw_p15 : lw_okq (⟨"PackLanes$Packer", "putInOrder", "()Z"⟩, 14) := ⟨⟨by decide +kernel, by decide +kernel⟩, List.mem_of_getElem? (i := 140) (by decide +kernel), List.mem_of_getElem? (i := 428) (by decide +kernel), List.mem_of_getElem? (i := 429) (by decide +kernel)⟩
def lw_privs_1 : List (MethodName × Nat) := [(⟨"PackLanes", "restart", "(III)V"⟩, 14), (⟨"PackLanes$Links", "link", "(IIII)V"⟩, 5), (⟨"PackLanes$Links", "clashInMemory", "(IIII)Z"⟩, 5), (⟨"PackLanes$Links", "clashByStop", "(II)Z"⟩, 5), (⟨"PackLanes$Packer", "leastStore", "(II)I"⟩, 14), (⟨"PackLanes$Packer", "considerRoot", "(I)V"⟩, 14), (⟨"PackLanes$Tree", "addPack", "(I)V"⟩, 11), (⟨"PackLanes$Tree", "operands", "(II)I"⟩, 11), (⟨"PackLanes$Tree", "append", "(I)V"⟩, 11), (⟨"PackLanes$Tree", "handle", "(I)V"⟩, 11), (⟨"PackLanes$Tree", "turnedLanes", "(I)I"⟩, 11), (⟨"PackLanes$Tree", "hasPack", "(I)Z"⟩, 11), (⟨"PackLanes$Tree", "takeOneByOne", "(I)V"⟩, 11), (⟨"PackLanes$Tree", "isTakenOut", "(I)Z"⟩, 11), (⟨"PackLanes$Packer", "joinTree", "(Z)V"⟩, 14), (⟨"PackLanes$Packer", "putInOrder", "()Z"⟩, 14)]
theorem lw_r1 : ∀ q ∈ lw_privs_1, lw_okq q := List.forall_mem_cons.mpr ⟨lw_p0, List.forall_mem_cons.mpr ⟨lw_p1, List.forall_mem_cons.mpr ⟨lw_p2, List.forall_mem_cons.mpr ⟨lw_p3, List.forall_mem_cons.mpr ⟨lw_p4, List.forall_mem_cons.mpr ⟨lw_p5, List.forall_mem_cons.mpr ⟨lw_p6, List.forall_mem_cons.mpr ⟨lw_p7, List.forall_mem_cons.mpr ⟨lw_p8, List.forall_mem_cons.mpr ⟨lw_p9, List.forall_mem_cons.mpr ⟨lw_p10, List.forall_mem_cons.mpr ⟨lw_p11, List.forall_mem_cons.mpr ⟨lw_p12, List.forall_mem_cons.mpr ⟨lw_p13, List.forall_mem_cons.mpr ⟨lw_p14, List.forall_mem_cons.mpr ⟨lw_p15, fun _ h => absurd h List.not_mem_nil⟩⟩⟩⟩⟩⟩⟩⟩⟩⟩⟩⟩⟩⟩⟩⟩
theorem lw_p16 : lw_okq (⟨"PackLanes$Packer", "leastReady", "(I)I"⟩, 14) := ⟨⟨by decide +kernel, by decide +kernel⟩, List.mem_of_getElem? (i := 140) (by decide +kernel), List.mem_of_getElem? (i := 432) (by decide +kernel), List.mem_of_getElem? (i := 433) (by decide +kernel)⟩
theorem lw_p17 : lw_okq (⟨"PackLanes$Packer", "followedBy", "(I)I"⟩, 14) := ⟨⟨by decide +kernel, by decide +kernel⟩, List.mem_of_getElem? (i := 140) (by decide +kernel), List.mem_of_getElem? (i := 436) (by decide +kernel), List.mem_of_getElem? (i := 437) (by decide +kernel)⟩
theorem lw_p18 : lw_okq (⟨"PackLanes$Packer", "appendNode", "(II)V"⟩, 14) := ⟨⟨by decide +kernel, by decide +kernel⟩, List.mem_of_getElem? (i := 140) (by decide +kernel), List.mem_of_getElem? (i := 440) (by decide +kernel), List.mem_of_getElem? (i := 441) (by decide +kernel)⟩
theorem lw_p19 : lw_okq (⟨"PackLanes$Machine", "begin", "([I)V"⟩, 5) := ⟨⟨by decide +kernel, by decide +kernel⟩, List.mem_of_getElem? (i := 268) (by decide +kernel), List.mem_of_getElem? (i := 571) (by decide +kernel), List.mem_of_getElem? (i := 572) (by decide +kernel)⟩
theorem lw_p20 : lw_okq (⟨"PackLanes$Machine", "carryOut", "(I)V"⟩, 5) := ⟨⟨by decide +kernel, by decide +kernel⟩, List.mem_of_getElem? (i := 268) (by decide +kernel), List.mem_of_getElem? (i := 578) (by decide +kernel), List.mem_of_getElem? (i := 579) (by decide +kernel)⟩
theorem lw_p21 : lw_okq (⟨"PackLanes", "bestWidth", "()I"⟩, 14) := ⟨⟨by decide +kernel, by decide +kernel⟩, List.mem_of_getElem? (i := 16) (by decide +kernel), List.mem_of_getElem? (i := 587) (by decide +kernel), List.mem_of_getElem? (i := 588) (by decide +kernel)⟩
theorem lw_p22 : lw_okq (⟨"PackLanes", "isRight", "(I)Z"⟩, 14) := ⟨⟨by decide +kernel, by decide +kernel⟩, List.mem_of_getElem? (i := 16) (by decide +kernel), List.mem_of_getElem? (i := 649) (by decide +kernel), List.mem_of_getElem? (i := 650) (by decide +kernel)⟩
theorem lw_p23 : lw_okq (⟨"PackLanes", "sumGainsOfAllChoices", "(I)V"⟩, 14) := ⟨⟨by decide +kernel, by decide +kernel⟩, List.mem_of_getElem? (i := 16) (by decide +kernel), List.mem_of_getElem? (i := 682) (by decide +kernel), List.mem_of_getElem? (i := 683) (by decide +kernel)⟩
theorem lw_p24 : lw_okq (⟨"PackLanes", "storesOutside", "(I)I"⟩, 14) := ⟨⟨by decide +kernel, by decide +kernel⟩, List.mem_of_getElem? (i := 16) (by decide +kernel), List.mem_of_getElem? (i := 686) (by decide +kernel), List.mem_of_getElem? (i := 687) (by decide +kernel)⟩
theorem lw_p25 : lw_okq (⟨"PackLanes", "drawStartValues", "()V"⟩, 14) := ⟨⟨by decide +kernel, by decide +kernel⟩, List.mem_of_getElem? (i := 16) (by decide +kernel), List.mem_of_getElem? (i := 717) (by decide +kernel), List.mem_of_getElem? (i := 718) (by decide +kernel)⟩
theorem lw_p26 : lw_okq (⟨"PackLanesModel", "readText", "()I"⟩, 50) := ⟨⟨by decide +kernel, by decide +kernel⟩, List.mem_of_getElem? (i := 740) (by decide +kernel), List.mem_of_getElem? (i := 916) (by decide +kernel), List.mem_of_getElem? (i := 917) (by decide +kernel)⟩
theorem lw_p27 : lw_okq (⟨"PackLanesModel", "takeHead", "(I)Z"⟩, 50) := ⟨⟨by decide +kernel, by decide +kernel⟩, List.mem_of_getElem? (i := 740) (by decide +kernel), List.mem_of_getElem? (i := 920) (by decide +kernel), List.mem_of_getElem? (i := 921) (by decide +kernel)⟩
theorem lw_p28 : lw_okq (⟨"PackLanesModel", "takeSign", "(I)Z"⟩, 50) := ⟨⟨by decide +kernel, by decide +kernel⟩, List.mem_of_getElem? (i := 740) (by decide +kernel), List.mem_of_getElem? (i := 925) (by decide +kernel), List.mem_of_getElem? (i := 926) (by decide +kernel)⟩
theorem lw_p29 : lw_okq (⟨"PackLanesModel", "isAnyValueAsRead", "()Z"⟩, 50) := ⟨⟨by decide +kernel, by decide +kernel⟩, List.mem_of_getElem? (i := 740) (by decide +kernel), List.mem_of_getElem? (i := 932) (by decide +kernel), List.mem_of_getElem? (i := 933) (by decide +kernel)⟩
theorem lw_p30 : lw_okq (⟨"PackLanesModel", "takeOf", "(I)Z"⟩, 50) := ⟨⟨by decide +kernel, by decide +kernel⟩, List.mem_of_getElem? (i := 740) (by decide +kernel), List.mem_of_getElem? (i := 936) (by decide +kernel), List.mem_of_getElem? (i := 937) (by decide +kernel)⟩
theorem lw_p31 : lw_okq (⟨"PackLanesModel", "done", "(Z)Z"⟩, 50) := ⟨⟨by decide +kernel, by decide +kernel⟩, List.mem_of_getElem? (i := 740) (by decide +kernel), List.mem_of_getElem? (i := 942) (by decide +kernel), List.mem_of_getElem? (i := 943) (by decide +kernel)⟩
def lw_privs_2 : List (MethodName × Nat) := [(⟨"PackLanes$Packer", "leastReady", "(I)I"⟩, 14), (⟨"PackLanes$Packer", "followedBy", "(I)I"⟩, 14), (⟨"PackLanes$Packer", "appendNode", "(II)V"⟩, 14), (⟨"PackLanes$Machine", "begin", "([I)V"⟩, 5), (⟨"PackLanes$Machine", "carryOut", "(I)V"⟩, 5), (⟨"PackLanes", "bestWidth", "()I"⟩, 14), (⟨"PackLanes", "isRight", "(I)Z"⟩, 14), (⟨"PackLanes", "sumGainsOfAllChoices", "(I)V"⟩, 14), (⟨"PackLanes", "storesOutside", "(I)I"⟩, 14), (⟨"PackLanes", "drawStartValues", "()V"⟩, 14), (⟨"PackLanesModel", "readText", "()I"⟩, 50), (⟨"PackLanesModel", "takeHead", "(I)Z"⟩, 50), (⟨"PackLanesModel", "takeSign", "(I)Z"⟩, 50), (⟨"PackLanesModel", "isAnyValueAsRead", "()Z"⟩, 50), (⟨"PackLanesModel", "takeOf", "(I)Z"⟩, 50), (⟨"PackLanesModel", "done", "(Z)Z"⟩, 50)]
theorem lw_r2 : ∀ q ∈ lw_privs_2, lw_okq q := List.forall_mem_cons.mpr ⟨lw_p16, List.forall_mem_cons.mpr ⟨lw_p17, List.forall_mem_cons.mpr ⟨lw_p18, List.forall_mem_cons.mpr ⟨lw_p19, List.forall_mem_cons.mpr ⟨lw_p20, List.forall_mem_cons.mpr ⟨lw_p21, List.forall_mem_cons.mpr ⟨lw_p22, List.forall_mem_cons.mpr ⟨lw_p23, List.forall_mem_cons.mpr ⟨lw_p24, List.forall_mem_cons.mpr ⟨lw_p25, List.forall_mem_cons.mpr ⟨lw_p26, List.forall_mem_cons.mpr ⟨lw_p27, List.forall_mem_cons.mpr ⟨lw_p28, List.forall_mem_cons.mpr ⟨lw_p29, List.forall_mem_cons.mpr ⟨lw_p30, List.forall_mem_cons.mpr ⟨lw_p31, fun _ h => absurd h List.not_mem_nil⟩⟩⟩⟩⟩⟩⟩⟩⟩⟩⟩⟩⟩⟩⟩⟩
theorem lw_p32 : lw_okq (⟨"PackLanesModel", "isValueAsRead", "(I)Z"⟩, 50) := ⟨⟨by decide +kernel, by decide +kernel⟩, List.mem_of_getElem? (i := 740) (by decide +kernel), List.mem_of_getElem? (i := 949) (by decide +kernel), List.mem_of_getElem? (i := 950) (by decide +kernel)⟩
theorem lw_p33 : lw_okq (⟨"PackLanesModel", "costNow", "()I"⟩, 50) := ⟨⟨by decide +kernel, by decide +kernel⟩, List.mem_of_getElem? (i := 740) (by decide +kernel), List.mem_of_getElem? (i := 961) (by decide +kernel), List.mem_of_getElem? (i := 962) (by decide +kernel)⟩
theorem lw_p34 : lw_okq (⟨"PackLanesModel", "runFaults", "(Z)I"⟩, 50) := ⟨⟨by decide +kernel, by decide +kernel⟩, List.mem_of_getElem? (i := 740) (by decide +kernel), List.mem_of_getElem? (i := 965) (by decide +kernel), List.mem_of_getElem? (i := 966) (by decide +kernel)⟩
theorem lw_p35 : lw_okq (⟨"PackLanesModel", "packedRun", "([I)V"⟩, 50) := ⟨⟨by decide +kernel, by decide +kernel⟩, List.mem_of_getElem? (i := 740) (by decide +kernel), List.mem_of_getElem? (i := 969) (by decide +kernel), List.mem_of_getElem? (i := 970) (by decide +kernel)⟩
theorem lw_p36 : lw_okq (⟨"PackLanesModel", "pack", "([II)V"⟩, 50) := ⟨⟨by decide +kernel, by decide +kernel⟩, List.mem_of_getElem? (i := 740) (by decide +kernel), List.mem_of_getElem? (i := 973) (by decide +kernel), List.mem_of_getElem? (i := 974) (by decide +kernel)⟩
theorem lw_p37 : lw_okq (⟨"PackLanesModel", "nothingKept", "([II)V"⟩, 50) := ⟨⟨by decide +kernel, by decide +kernel⟩, List.mem_of_getElem? (i := 740) (by decide +kernel), List.mem_of_getElem? (i := 977) (by decide +kernel), List.mem_of_getElem? (i := 978) (by decide +kernel)⟩
theorem lw_p38 : lw_okq (⟨"PackLanesModel", "layFollows", "([I)V"⟩, 50) := ⟨⟨by decide +kernel, by decide +kernel⟩, List.mem_of_getElem? (i := 740) (by decide +kernel), List.mem_of_getElem? (i := 981) (by decide +kernel), List.mem_of_getElem? (i := 982) (by decide +kernel)⟩
theorem lw_p39 : lw_okq (⟨"PackLanesModel", "doesFollow", "([III)Z"⟩, 50) := ⟨⟨by decide +kernel, by decide +kernel⟩, List.mem_of_getElem? (i := 740) (by decide +kernel), List.mem_of_getElem? (i := 985) (by decide +kernel), List.mem_of_getElem? (i := 986) (by decide +kernel)⟩
theorem lw_p40 : lw_okq (⟨"PackLanesModel", "isMemory", "(I)Z"⟩, 50) := ⟨⟨by decide +kernel, by decide +kernel⟩, List.mem_of_getElem? (i := 740) (by decide +kernel), List.mem_of_getElem? (i := 992) (by decide +kernel), List.mem_of_getElem? (i := 993) (by decide +kernel)⟩
theorem lw_p41 : lw_okq (⟨"PackLanesModel", "meet", "([III)Z"⟩, 50) := ⟨⟨by decide +kernel, by decide +kernel⟩, List.mem_of_getElem? (i := 740) (by decide +kernel), List.mem_of_getElem? (i := 996) (by decide +kernel), List.mem_of_getElem? (i := 997) (by decide +kernel)⟩
theorem lw_p42 : lw_okq (⟨"PackLanesModel", "uses", "(II)Z"⟩, 50) := ⟨⟨by decide +kernel, by decide +kernel⟩, List.mem_of_getElem? (i := 740) (by decide +kernel), List.mem_of_getElem? (i := 1003) (by decide +kernel), List.mem_of_getElem? (i := 1004) (by decide +kernel)⟩
theorem lw_p43 : lw_okq (⟨"PackLanesModel", "isBinary", "(I)Z"⟩, 50) := ⟨⟨by decide +kernel, by decide +kernel⟩, List.mem_of_getElem? (i := 740) (by decide +kernel), List.mem_of_getElem? (i := 1007) (by decide +kernel), List.mem_of_getElem? (i := 1008) (by decide +kernel)⟩
theorem lw_p44 : lw_okq (⟨"PackLanesModel", "laySeed", "(II)Z"⟩, 50) := ⟨⟨by decide +kernel, by decide +kernel⟩, List.mem_of_getElem? (i := 740) (by decide +kernel), List.mem_of_getElem? (i := 1013) (by decide +kernel), List.mem_of_getElem? (i := 1014) (by decide +kernel)⟩
theorem lw_p45 : lw_okq (⟨"PackLanesModel", "isPack", "(I)Z"⟩, 50) := ⟨⟨by decide +kernel, by decide +kernel⟩, List.mem_of_getElem? (i := 740) (by decide +kernel), List.mem_of_getElem? (i := 1017) (by decide +kernel), List.mem_of_getElem? (i := 1018) (by decide +kernel)⟩
theorem lw_p46 : lw_okq (⟨"PackLanesModel", "grow", "()V"⟩, 50) := ⟨⟨by decide +kernel, by decide +kernel⟩, List.mem_of_getElem? (i := 740) (by decide +kernel), List.mem_of_getElem? (i := 1021) (by decide +kernel), List.mem_of_getElem? (i := 1022) (by decide +kernel)⟩
theorem lw_p47 : lw_okq (⟨"PackLanesModel", "addPack", "(I)V"⟩, 50) := ⟨⟨by decide +kernel, by decide +kernel⟩, List.mem_of_getElem? (i := 740) (by decide +kernel), List.mem_of_getElem? (i := 1025) (by decide +kernel), List.mem_of_getElem? (i := 1026) (by decide +kernel)⟩
def lw_privs_3 : List (MethodName × Nat) := [(⟨"PackLanesModel", "isValueAsRead", "(I)Z"⟩, 50), (⟨"PackLanesModel", "costNow", "()I"⟩, 50), (⟨"PackLanesModel", "runFaults", "(Z)I"⟩, 50), (⟨"PackLanesModel", "packedRun", "([I)V"⟩, 50), (⟨"PackLanesModel", "pack", "([II)V"⟩, 50), (⟨"PackLanesModel", "nothingKept", "([II)V"⟩, 50), (⟨"PackLanesModel", "layFollows", "([I)V"⟩, 50), (⟨"PackLanesModel", "doesFollow", "([III)Z"⟩, 50), (⟨"PackLanesModel", "isMemory", "(I)Z"⟩, 50), (⟨"PackLanesModel", "meet", "([III)Z"⟩, 50), (⟨"PackLanesModel", "uses", "(II)Z"⟩, 50), (⟨"PackLanesModel", "isBinary", "(I)Z"⟩, 50), (⟨"PackLanesModel", "laySeed", "(II)Z"⟩, 50), (⟨"PackLanesModel", "isPack", "(I)Z"⟩, 50), (⟨"PackLanesModel", "grow", "()V"⟩, 50), (⟨"PackLanesModel", "addPack", "(I)V"⟩, 50)]
theorem lw_r3 : ∀ q ∈ lw_privs_3, lw_okq q := List.forall_mem_cons.mpr ⟨lw_p32, List.forall_mem_cons.mpr ⟨lw_p33, List.forall_mem_cons.mpr ⟨lw_p34, List.forall_mem_cons.mpr ⟨lw_p35, List.forall_mem_cons.mpr ⟨lw_p36, List.forall_mem_cons.mpr ⟨lw_p37, List.forall_mem_cons.mpr ⟨lw_p38, List.forall_mem_cons.mpr ⟨lw_p39, List.forall_mem_cons.mpr ⟨lw_p40, List.forall_mem_cons.mpr ⟨lw_p41, List.forall_mem_cons.mpr ⟨lw_p42, List.forall_mem_cons.mpr ⟨lw_p43, List.forall_mem_cons.mpr ⟨lw_p44, List.forall_mem_cons.mpr ⟨lw_p45, List.forall_mem_cons.mpr ⟨lw_p46, List.forall_mem_cons.mpr ⟨lw_p47, fun _ h => absurd h List.not_mem_nil⟩⟩⟩⟩⟩⟩⟩⟩⟩⟩⟩⟩⟩⟩⟩⟩
theorem lw_p48 : lw_okq (⟨"PackLanesModel", "look", "(I)V"⟩, 50) := ⟨⟨by decide +kernel, by decide +kernel⟩, List.mem_of_getElem? (i := 740) (by decide +kernel), List.mem_of_getElem? (i := 1029) (by decide +kernel), List.mem_of_getElem? (i := 1030) (by decide +kernel)⟩
theorem lw_p49 : lw_okq (⟨"PackLanesModel", "isFree", "(I)Z"⟩, 50) := ⟨⟨by decide +kernel, by decide +kernel⟩, List.mem_of_getElem? (i := 740) (by decide +kernel), List.mem_of_getElem? (i := 1033) (by decide +kernel), List.mem_of_getElem? (i := 1034) (by decide +kernel)⟩
theorem lw_p50 : lw_okq (⟨"PackLanesModel", "waitBoth", "(I)V"⟩, 50) := ⟨⟨by decide +kernel, by decide +kernel⟩, List.mem_of_getElem? (i := 740) (by decide +kernel), List.mem_of_getElem? (i := 1037) (by decide +kernel), List.mem_of_getElem? (i := 1038) (by decide +kernel)⟩
theorem lw_p51 : lw_okq (⟨"PackLanesModel", "isTreePack", "(I)Z"⟩, 50) := ⟨⟨by decide +kernel, by decide +kernel⟩, List.mem_of_getElem? (i := 740) (by decide +kernel), List.mem_of_getElem? (i := 1041) (by decide +kernel), List.mem_of_getElem? (i := 1042) (by decide +kernel)⟩
theorem lw_p52 : lw_okq (⟨"PackLanesModel", "costOf", "(I)I"⟩, 50) := ⟨⟨by decide +kernel, by decide +kernel⟩, List.mem_of_getElem? (i := 740) (by decide +kernel), List.mem_of_getElem? (i := 1045) (by decide +kernel), List.mem_of_getElem? (i := 1046) (by decide +kernel)⟩
theorem lw_p53 : lw_okq (⟨"PackLanesModel", "gainOfTree", "()I"⟩, 50) := ⟨⟨by decide +kernel, by decide +kernel⟩, List.mem_of_getElem? (i := 740) (by decide +kernel), List.mem_of_getElem? (i := 1049) (by decide +kernel), List.mem_of_getElem? (i := 1050) (by decide +kernel)⟩
theorem lw_p54 : lw_okq (⟨"PackLanesModel", "isUsedOutside", "(I)Z"⟩, 50) := ⟨⟨by decide +kernel, by decide +kernel⟩, List.mem_of_getElem? (i := 740) (by decide +kernel), List.mem_of_getElem? (i := 1053) (by decide +kernel), List.mem_of_getElem? (i := 1054) (by decide +kernel)⟩
theorem lw_p55 : lw_okq (⟨"PackLanesModel", "setInOrder", "()Z"⟩, 50) := ⟨⟨by decide +kernel, by decide +kernel⟩, List.mem_of_getElem? (i := 740) (by decide +kernel), List.mem_of_getElem? (i := 1057) (by decide +kernel), List.mem_of_getElem? (i := 1058) (by decide +kernel)⟩
theorem lw_p56 : lw_okq (⟨"PackLanesModel", "nodeOf", "(I)I"⟩, 50) := ⟨⟨by decide +kernel, by decide +kernel⟩, List.mem_of_getElem? (i := 740) (by decide +kernel), List.mem_of_getElem? (i := 1061) (by decide +kernel), List.mem_of_getElem? (i := 1062) (by decide +kernel)⟩
theorem lw_p57 : lw_okq (⟨"PackLanesModel", "isReady", "(II)Z"⟩, 50) := ⟨⟨by decide +kernel, by decide +kernel⟩, List.mem_of_getElem? (i := 740) (by decide +kernel), List.mem_of_getElem? (i := 1065) (by decide +kernel), List.mem_of_getElem? (i := 1066) (by decide +kernel)⟩
theorem lw_p58 : lw_okq (⟨"PackLanesModel", "keepTree", "(I)V"⟩, 50) := ⟨⟨by decide +kernel, by decide +kernel⟩, List.mem_of_getElem? (i := 740) (by decide +kernel), List.mem_of_getElem? (i := 1069) (by decide +kernel), List.mem_of_getElem? (i := 1070) (by decide +kernel)⟩
theorem lw_p59 : lw_okq (⟨"PackLanesModel", "noTree", "()V"⟩, 50) := ⟨⟨by decide +kernel, by decide +kernel⟩, List.mem_of_getElem? (i := 740) (by decide +kernel), List.mem_of_getElem? (i := 1073) (by decide +kernel), List.mem_of_getElem? (i := 1074) (by decide +kernel)⟩
theorem lw_p60 : lw_okq (⟨"PackLanesModel", "beginRun", "([I)V"⟩, 50) := ⟨⟨by decide +kernel, by decide +kernel⟩, List.mem_of_getElem? (i := 740) (by decide +kernel), List.mem_of_getElem? (i := 1077) (by decide +kernel), List.mem_of_getElem? (i := 1078) (by decide +kernel)⟩
theorem lw_p61 : lw_okq (⟨"PackLanesModel", "doOne", "([II)V"⟩, 50) := ⟨⟨by decide +kernel, by decide +kernel⟩, List.mem_of_getElem? (i := 740) (by decide +kernel), List.mem_of_getElem? (i := 1081) (by decide +kernel), List.mem_of_getElem? (i := 1082) (by decide +kernel)⟩
theorem lw_p62 : lw_okq (⟨"PackLanesModel", "run", "([II)V"⟩, 50) := ⟨⟨by decide +kernel, by decide +kernel⟩, List.mem_of_getElem? (i := 740) (by decide +kernel), List.mem_of_getElem? (i := 1085) (by decide +kernel), List.mem_of_getElem? (i := 1086) (by decide +kernel)⟩
theorem lw_p63 : lw_okq (⟨"PackLanesModel", "bestWidth", "()I"⟩, 50) := ⟨⟨by decide +kernel, by decide +kernel⟩, List.mem_of_getElem? (i := 740) (by decide +kernel), List.mem_of_getElem? (i := 1089) (by decide +kernel), List.mem_of_getElem? (i := 1090) (by decide +kernel)⟩
def lw_privs_4 : List (MethodName × Nat) := [(⟨"PackLanesModel", "look", "(I)V"⟩, 50), (⟨"PackLanesModel", "isFree", "(I)Z"⟩, 50), (⟨"PackLanesModel", "waitBoth", "(I)V"⟩, 50), (⟨"PackLanesModel", "isTreePack", "(I)Z"⟩, 50), (⟨"PackLanesModel", "costOf", "(I)I"⟩, 50), (⟨"PackLanesModel", "gainOfTree", "()I"⟩, 50), (⟨"PackLanesModel", "isUsedOutside", "(I)Z"⟩, 50), (⟨"PackLanesModel", "setInOrder", "()Z"⟩, 50), (⟨"PackLanesModel", "nodeOf", "(I)I"⟩, 50), (⟨"PackLanesModel", "isReady", "(II)Z"⟩, 50), (⟨"PackLanesModel", "keepTree", "(I)V"⟩, 50), (⟨"PackLanesModel", "noTree", "()V"⟩, 50), (⟨"PackLanesModel", "beginRun", "([I)V"⟩, 50), (⟨"PackLanesModel", "doOne", "([II)V"⟩, 50), (⟨"PackLanesModel", "run", "([II)V"⟩, 50), (⟨"PackLanesModel", "bestWidth", "()I"⟩, 50)]
theorem lw_r4 : ∀ q ∈ lw_privs_4, lw_okq q := List.forall_mem_cons.mpr ⟨lw_p48, List.forall_mem_cons.mpr ⟨lw_p49, List.forall_mem_cons.mpr ⟨lw_p50, List.forall_mem_cons.mpr ⟨lw_p51, List.forall_mem_cons.mpr ⟨lw_p52, List.forall_mem_cons.mpr ⟨lw_p53, List.forall_mem_cons.mpr ⟨lw_p54, List.forall_mem_cons.mpr ⟨lw_p55, List.forall_mem_cons.mpr ⟨lw_p56, List.forall_mem_cons.mpr ⟨lw_p57, List.forall_mem_cons.mpr ⟨lw_p58, List.forall_mem_cons.mpr ⟨lw_p59, List.forall_mem_cons.mpr ⟨lw_p60, List.forall_mem_cons.mpr ⟨lw_p61, List.forall_mem_cons.mpr ⟨lw_p62, List.forall_mem_cons.mpr ⟨lw_p63, fun _ h => absurd h List.not_mem_nil⟩⟩⟩⟩⟩⟩⟩⟩⟩⟩⟩⟩⟩⟩⟩⟩
theorem lw_p64 : lw_okq (⟨"PackLanesModel", "packedCost", "([I)I"⟩, 50) := ⟨⟨by decide +kernel, by decide +kernel⟩, List.mem_of_getElem? (i := 740) (by decide +kernel), List.mem_of_getElem? (i := 1096) (by decide +kernel), List.mem_of_getElem? (i := 1097) (by decide +kernel)⟩
theorem lw_p65 : lw_okq (⟨"PackLanesModel", "found", "(I)I"⟩, 50) := ⟨⟨by decide +kernel, by decide +kernel⟩, List.mem_of_getElem? (i := 740) (by decide +kernel), List.mem_of_getElem? (i := 1100) (by decide +kernel), List.mem_of_getElem? (i := 1101) (by decide +kernel)⟩
theorem lw_p66 : lw_okq (⟨"PackLanesModel", "packed", "()I"⟩, 50) := ⟨⟨by decide +kernel, by decide +kernel⟩, List.mem_of_getElem? (i := 740) (by decide +kernel), List.mem_of_getElem? (i := 1104) (by decide +kernel), List.mem_of_getElem? (i := 1105) (by decide +kernel)⟩
theorem lw_p67 : lw_okq (⟨"PackLanesModel", "isThere", "(I)Z"⟩, 50) := ⟨⟨by decide +kernel, by decide +kernel⟩, List.mem_of_getElem? (i := 740) (by decide +kernel), List.mem_of_getElem? (i := 1112) (by decide +kernel), List.mem_of_getElem? (i := 1113) (by decide +kernel)⟩
theorem lw_p68 : lw_okq (⟨"PackLanesModel", "note", "()V"⟩, 50) := ⟨⟨by decide +kernel, by decide +kernel⟩, List.mem_of_getElem? (i := 740) (by decide +kernel), List.mem_of_getElem? (i := 1137) (by decide +kernel), List.mem_of_getElem? (i := 1138) (by decide +kernel)⟩
theorem lw_p69 : lw_okq (⟨"PackLanesModel", "judged", "(II)Z"⟩, 50) := ⟨⟨by decide +kernel, by decide +kernel⟩, List.mem_of_getElem? (i := 740) (by decide +kernel), List.mem_of_getElem? (i := 1165) (by decide +kernel), List.mem_of_getElem? (i := 1166) (by decide +kernel)⟩
theorem lw_p70 : lw_okq (⟨"PackLanesModel", "isDependent", "(II)Z"⟩, 50) := ⟨⟨by decide +kernel, by decide +kernel⟩, List.mem_of_getElem? (i := 740) (by decide +kernel), List.mem_of_getElem? (i := 1169) (by decide +kernel), List.mem_of_getElem? (i := 1170) (by decide +kernel)⟩
theorem lw_p71 : lw_okq (⟨"PackLanesModel", "isPackedAs", "(II)Z"⟩, 50) := ⟨⟨by decide +kernel, by decide +kernel⟩, List.mem_of_getElem? (i := 740) (by decide +kernel), List.mem_of_getElem? (i := 1173) (by decide +kernel), List.mem_of_getElem? (i := 1174) (by decide +kernel)⟩
theorem lw_p72 : lw_okq (⟨"PackLanesModel", "layStores", "()I"⟩, 50) := ⟨⟨by decide +kernel, by decide +kernel⟩, List.mem_of_getElem? (i := 740) (by decide +kernel), List.mem_of_getElem? (i := 1193) (by decide +kernel), List.mem_of_getElem? (i := 1194) (by decide +kernel)⟩
theorem lw_p73 : lw_okq (⟨"PackLanesModel", "gainsBy", "(II)I"⟩, 50) := ⟨⟨by decide +kernel, by decide +kernel⟩, List.mem_of_getElem? (i := 740) (by decide +kernel), List.mem_of_getElem? (i := 1197) (by decide +kernel), List.mem_of_getElem? (i := 1198) (by decide +kernel)⟩
def lw_privs_5 : List (MethodName × Nat) := [(⟨"PackLanesModel", "packedCost", "([I)I"⟩, 50), (⟨"PackLanesModel", "found", "(I)I"⟩, 50), (⟨"PackLanesModel", "packed", "()I"⟩, 50), (⟨"PackLanesModel", "isThere", "(I)Z"⟩, 50), (⟨"PackLanesModel", "note", "()V"⟩, 50), (⟨"PackLanesModel", "judged", "(II)Z"⟩, 50), (⟨"PackLanesModel", "isDependent", "(II)Z"⟩, 50), (⟨"PackLanesModel", "isPackedAs", "(II)Z"⟩, 50), (⟨"PackLanesModel", "layStores", "()I"⟩, 50), (⟨"PackLanesModel", "gainsBy", "(II)I"⟩, 50)]
theorem lw_r5 : ∀ q ∈ lw_privs_5, lw_okq q := List.forall_mem_cons.mpr ⟨lw_p64, List.forall_mem_cons.mpr ⟨lw_p65, List.forall_mem_cons.mpr ⟨lw_p66, List.forall_mem_cons.mpr ⟨lw_p67, List.forall_mem_cons.mpr ⟨lw_p68, List.forall_mem_cons.mpr ⟨lw_p69, List.forall_mem_cons.mpr ⟨lw_p70, List.forall_mem_cons.mpr ⟨lw_p71, List.forall_mem_cons.mpr ⟨lw_p72, List.forall_mem_cons.mpr ⟨lw_p73, fun _ h => absurd h List.not_mem_nil⟩⟩⟩⟩⟩⟩⟩⟩⟩⟩
def lw_privs : List (MethodName × Nat) := lw_privs_1 ++ (lw_privs_2 ++ (lw_privs_3 ++ (lw_privs_4 ++ (lw_privs_5))))
def lw_tbl : List Cond := k2_sels lw_privs ++ tables_1
theorem lw_privs_ok : ∀ q ∈ lw_privs, lw_okq q := by
  show ∀ q ∈ lw_privs_1 ++ (lw_privs_2 ++ (lw_privs_3 ++ (lw_privs_4 ++ (lw_privs_5)))), lw_okq q
  exact List.forall_mem_append.mpr ⟨lw_r1, List.forall_mem_append.mpr ⟨lw_r2, List.forall_mem_append.mpr ⟨lw_r3, List.forall_mem_append.mpr ⟨lw_r4, lw_r5⟩⟩⟩⟩
-- ===== end of PART A; then your names; then what follows =====
/-- the words that stay true at every later state -/
def BIG : List Cond := lw_tbl.filter goodWord
theorem big_sub : ∀ w ∈ BIG, w ∈ lw_tbl := fun w h => (List.mem_filter.mp h).1
theorem big_good : GoodIn BIG BIG := fun w h => ⟨h, good_of_word (List.mem_filter.mp h).2⟩
theorem big_t {w : Cond} (i : Nat) (h : tables_1[i]? = some w) (hg : goodWord w = true) : w ∈ BIG := List.mem_filter.mpr ⟨List.mem_append_right _ (List.mem_of_getElem? h), hg⟩
theorem big_p {w : Cond} (i : Nat) (h : (k2_sels lw_privs)[i]? = some w) (hg : goodWord w = true) : w ∈ BIG := List.mem_filter.mpr ⟨List.mem_append_left _ (List.mem_of_getElem? h), hg⟩
/-- the words on nest mates: they stay true, but not of themselves -/
def isNest : Cond → Bool
  | .methodLinkNest .. => true
  | .fieldLinkNest .. => true
  | _ => false
def BIGN : List Cond := tables_1.filter isNest
theorem big_n {w : Cond} (i : Nat) (h : tables_1[i]? = some w) (hg : isNest w = true) : w ∈ BIGN := List.mem_filter.mpr ⟨List.mem_of_getElem? h, hg⟩
theorem bign_tbl : ∀ w ∈ BIGN, w ∈ lw_tbl := fun w h => List.mem_append_right _ (List.mem_filter.mp h).1
theorem bign_nest : ∀ w ∈ BIGN, isNest w = true := fun w h => (List.mem_filter.mp h).2
theorem nw_warm {w : Cond} (hn : isNest w = true) {s U : State} (hW : s.WarmedH U.vm) (h : va_Nw w s) : va_Nw w U := by
  cases w <;> first | exact va_Nw.warmM hW h | exact va_Nw.warmF hW h | (simp [isNest] at hn)
theorem nw_of {w : Cond} (hn : isNest w = true) {A : Array Value} {U : State} (h : w.before A U = true) : va_Nw w U := by
  cases w <;> first | exact va_Nw.of rfl h | (simp [isNest] at hn)
end
section
/-! the classes of the claim, by kinds 0..10; their fields in the order of the slots -/
def KR0 : String := "PackLanes$Acts"
def KT0 : u_T := fun k => match k with
  | 0 => ("PackLanes$Acts", "places", "[I", true)
  | 1 => ("PackLanes$Acts", "olds", "[I", true)
  | _ => ("PackLanes$Acts", "count", "I", false)
def Kt0 : Nat → FieldType := fun k => match k with
  | 0 => .array .int
  | 1 => .array .int
  | _ => .int
theorem Kn0 : ∀ a, a < 3 → ∀ b, b < 3 → a ≠ b → (KT0 a).2.1 ≠ (KT0 b).2.1 := by decide +kernel
theorem Kp0 : ∀ k, k < 3 → parseFieldDescriptor (KT0 k).2.2.1 = some (Kt0 k) := by decide +kernel
theorem Ki0 : ∀ w ∈ u_ws KR0 KT0 3, w ∈ BIG := by decide +kernel
def KR1 : String := "PackLanes$Code"
def KT1 : u_T := fun k => match k with
  | 0 => ("PackLanes$Code", "kind", "[I", true)
  | 1 => ("PackLanes$Code", "row", "[I", true)
  | 2 => ("PackLanes$Code", "cell", "[I", true)
  | 3 => ("PackLanes$Code", "digit", "[I", true)
  | 4 => ("PackLanes$Code", "left", "[I", true)
  | 5 => ("PackLanes$Code", "right", "[I", true)
  | _ => ("PackLanes$Code", "count", "I", false)
def Kt1 : Nat → FieldType := fun k => match k with
  | 0 => .array .int
  | 1 => .array .int
  | 2 => .array .int
  | 3 => .array .int
  | 4 => .array .int
  | 5 => .array .int
  | _ => .int
theorem Kn1 : ∀ a, a < 7 → ∀ b, b < 7 → a ≠ b → (KT1 a).2.1 ≠ (KT1 b).2.1 := by decide +kernel
theorem Kp1 : ∀ k, k < 7 → parseFieldDescriptor (KT1 k).2.2.1 = some (Kt1 k) := by decide +kernel
theorem Ki1 : ∀ w ∈ u_ws KR1 KT1 7, w ∈ BIG := by decide +kernel
def KR2 : String := "PackLanes$Links"
def KT2 : u_T := fun k => match k with
  | 0 => ("PackLanes$Links", "code", "LPackLanes$Code;", true)
  | 1 => ("PackLanes$Links", "follows", "[I", true)
  | 2 => ("PackLanes$Links", "needs", "[I", true)
  | 3 => ("PackLanes$Links", "users", "[I", true)
  | _ => ("PackLanes$Links", "omitted", "I", false)
def Kt2 : Nat → FieldType := fun k => match k with
  | 0 => .object "PackLanes$Code"
  | 1 => .array .int
  | 2 => .array .int
  | 3 => .array .int
  | _ => .int
theorem Kn2 : ∀ a, a < 5 → ∀ b, b < 5 → a ≠ b → (KT2 a).2.1 ≠ (KT2 b).2.1 := by decide +kernel
theorem Kp2 : ∀ k, k < 5 → parseFieldDescriptor (KT2 k).2.2.1 = some (Kt2 k) := by decide +kernel
theorem Ki2 : ∀ w ∈ u_ws KR2 KT2 5, w ∈ BIG := by decide +kernel
def KR3 : String := "PackLanes$Machine"
def KT3 : u_T := fun k => match k with
  | 0 => ("PackLanes$Machine", "code", "LPackLanes$Code;", true)
  | 1 => ("PackLanes$Machine", "memory", "[I", true)
  | 2 => ("PackLanes$Machine", "value", "[I", true)
  | 3 => ("PackLanes$Machine", "stop", "I", false)
  | _ => ("PackLanes$Machine", "base", "I", false)
def Kt3 : Nat → FieldType := fun k => match k with
  | 0 => .object "PackLanes$Code"
  | 1 => .array .int
  | 2 => .array .int
  | 3 => .int
  | _ => .int
theorem Kn3 : ∀ a, a < 5 → ∀ b, b < 5 → a ≠ b → (KT3 a).2.1 ≠ (KT3 b).2.1 := by decide +kernel
theorem Kp3 : ∀ k, k < 5 → parseFieldDescriptor (KT3 k).2.2.1 = some (Kt3 k) := by decide +kernel
theorem Ki3 : ∀ w ∈ u_ws KR3 KT3 5, w ∈ BIG := by decide +kernel
def KR4 : String := "PackLanes$Packer"
def KT4 : u_T := fun k => match k with
  | 0 => ("PackLanes$Packer", "code", "LPackLanes$Code;", true)
  | 1 => ("PackLanes$Packer", "links", "LPackLanes$Links;", true)
  | 2 => ("PackLanes$Packer", "tree", "LPackLanes$Tree;", true)
  | 3 => ("PackLanes$Packer", "width", "I", false)
  | 4 => ("PackLanes$Packer", "partners", "[I", true)
  | 5 => ("PackLanes$Packer", "number", "[I", true)
  | 6 => ("PackLanes$Packer", "lane", "[I", true)
  | 7 => ("PackLanes$Packer", "node", "[I", true)
  | 8 => ("PackLanes$Packer", "order", "[I", true)
  | 9 => ("PackLanes$Packer", "ordered", "I", false)
  | 10 => ("PackLanes$Packer", "packs", "I", false)
  | 11 => ("PackLanes$Packer", "members", "I", false)
  | 12 => ("PackLanes$Packer", "trees", "I", false)
  | _ => ("PackLanes$Packer", "gains", "I", false)
def Kt4 : Nat → FieldType := fun k => match k with
  | 0 => .object "PackLanes$Code"
  | 1 => .object "PackLanes$Links"
  | 2 => .object "PackLanes$Tree"
  | 3 => .int
  | 4 => .array .int
  | 5 => .array .int
  | 6 => .array .int
  | 7 => .array .int
  | 8 => .array .int
  | 9 => .int
  | 10 => .int
  | 11 => .int
  | 12 => .int
  | _ => .int
theorem Kn4 : ∀ a, a < 14 → ∀ b, b < 14 → a ≠ b → (KT4 a).2.1 ≠ (KT4 b).2.1 := by decide +kernel
theorem Kp4 : ∀ k, k < 14 → parseFieldDescriptor (KT4 k).2.2.1 = some (Kt4 k) := by decide +kernel
theorem Ki4 : ∀ w ∈ u_ws KR4 KT4 14, w ∈ BIG := by decide +kernel
def KR5 : String := "PackLanes$Sights"
def KT5 : u_T := fun k => match k with
  | 0 => ("PackLanes$Sights", "addresses", "[I", true)
  | 1 => ("PackLanes$Sights", "values", "[I", true)
  | _ => ("PackLanes$Sights", "count", "I", false)
def Kt5 : Nat → FieldType := fun k => match k with
  | 0 => .array .int
  | 1 => .array .int
  | _ => .int
theorem Kn5 : ∀ a, a < 3 → ∀ b, b < 3 → a ≠ b → (KT5 a).2.1 ≠ (KT5 b).2.1 := by decide +kernel
theorem Kp5 : ∀ k, k < 3 → parseFieldDescriptor (KT5 k).2.2.1 = some (Kt5 k) := by decide +kernel
theorem Ki5 : ∀ w ∈ u_ws KR5 KT5 3, w ∈ BIG := by decide +kernel
def KR6 : String := "PackLanes$Slots"
def KT6 : u_T := fun k => match k with
  | 0 => ("PackLanes$Slots", "filled", "[Z", true)
  | _ => ("PackLanes$Slots", "states", "[[I", true)
def Kt6 : Nat → FieldType := fun k => match k with
  | 0 => .array .boolean
  | _ => .array (.array .int)
theorem Kn6 : ∀ a, a < 2 → ∀ b, b < 2 → a ≠ b → (KT6 a).2.1 ≠ (KT6 b).2.1 := by decide +kernel
theorem Kp6 : ∀ k, k < 2 → parseFieldDescriptor (KT6 k).2.2.1 = some (Kt6 k) := by decide +kernel
theorem Ki6 : ∀ w ∈ u_ws KR6 KT6 2, w ∈ BIG := by decide +kernel
def KR7 : String := "PackLanes$Source"
def KT7 : u_T := fun k => match k with
  | 0 => ("PackLanes$Source", "letters", "[I", true)
  | 1 => ("PackLanes$Source", "parts", "[I", true)
  | _ => ("PackLanes$Source", "length", "I", false)
def Kt7 : Nat → FieldType := fun k => match k with
  | 0 => .array .int
  | 1 => .array .int
  | _ => .int
theorem Kn7 : ∀ a, a < 3 → ∀ b, b < 3 → a ≠ b → (KT7 a).2.1 ≠ (KT7 b).2.1 := by decide +kernel
theorem Kp7 : ∀ k, k < 3 → parseFieldDescriptor (KT7 k).2.2.1 = some (Kt7 k) := by decide +kernel
theorem Ki7 : ∀ w ∈ u_ws KR7 KT7 3, w ∈ BIG := by decide +kernel
def KR8 : String := "PackLanes$Tree"
def KT8 : u_T := fun k => match k with
  | 0 => ("PackLanes$Tree", "code", "LPackLanes$Code;", true)
  | 1 => ("PackLanes$Tree", "links", "LPackLanes$Links;", true)
  | 2 => ("PackLanes$Tree", "packs", "[I", true)
  | 3 => ("PackLanes$Tree", "size", "I", false)
  | 4 => ("PackLanes$Tree", "members", "I", false)
  | 5 => ("PackLanes$Tree", "queue", "[I", true)
  | 6 => ("PackLanes$Tree", "queued", "I", false)
  | 7 => ("PackLanes$Tree", "width", "I", false)
  | 8 => ("PackLanes$Tree", "kept", "I", false)
  | 9 => ("PackLanes$Tree", "single", "I", false)
  | _ => ("PackLanes$Tree", "costs", "I", false)
def Kt8 : Nat → FieldType := fun k => match k with
  | 0 => .object "PackLanes$Code"
  | 1 => .object "PackLanes$Links"
  | 2 => .array .int
  | 3 => .int
  | 4 => .int
  | 5 => .array .int
  | 6 => .int
  | 7 => .int
  | 8 => .int
  | 9 => .int
  | _ => .int
theorem Kn8 : ∀ a, a < 11 → ∀ b, b < 11 → a ≠ b → (KT8 a).2.1 ≠ (KT8 b).2.1 := by decide +kernel
theorem Kp8 : ∀ k, k < 11 → parseFieldDescriptor (KT8 k).2.2.1 = some (Kt8 k) := by decide +kernel
theorem Ki8 : ∀ w ∈ u_ws KR8 KT8 11, w ∈ BIG := by decide +kernel
def KR9 : String := "PackLanes"
def KT9 : u_T := fun k => match k with
  | 0 => ("PackLanes", "source", "LPackLanes$Source;", true)
  | 1 => ("PackLanes", "code", "LPackLanes$Code;", true)
  | 2 => ("PackLanes", "draft", "LPackLanes$Code;", true)
  | 3 => ("PackLanes", "present", "[I", true)
  | 4 => ("PackLanes", "random", "[I", true)
  | 5 => ("PackLanes", "asked", "[I", true)
  | 6 => ("PackLanes", "acts", "LPackLanes$Acts;", true)
  | 7 => ("PackLanes", "slots", "LPackLanes$Slots;", true)
  | 8 => ("PackLanes", "sights", "LPackLanes$Sights;", true)
  | 9 => ("PackLanes", "now", "LPackLanes$Packer;", true)
  | 10 => ("PackLanes", "trial", "LPackLanes$Packer;", true)
  | 11 => ("PackLanes", "machine", "LPackLanes$Machine;", true)
  | 12 => ("PackLanes", "sums", "[I", true)
  | _ => ("PackLanes", "randomNumber", "J", false)
def Kt9 : Nat → FieldType := fun k => match k with
  | 0 => .object "PackLanes$Source"
  | 1 => .object "PackLanes$Code"
  | 2 => .object "PackLanes$Code"
  | 3 => .array .int
  | 4 => .array .int
  | 5 => .array .int
  | 6 => .object "PackLanes$Acts"
  | 7 => .object "PackLanes$Slots"
  | 8 => .object "PackLanes$Sights"
  | 9 => .object "PackLanes$Packer"
  | 10 => .object "PackLanes$Packer"
  | 11 => .object "PackLanes$Machine"
  | 12 => .array .int
  | _ => .long
theorem Kn9 : ∀ a, a < 14 → ∀ b, b < 14 → a ≠ b → (KT9 a).2.1 ≠ (KT9 b).2.1 := by decide +kernel
theorem Kp9 : ∀ k, k < 14 → parseFieldDescriptor (KT9 k).2.2.1 = some (Kt9 k) := by decide +kernel
theorem Ki9 : ∀ w ∈ u_ws KR9 KT9 14, w ∈ BIG := by decide +kernel
def KR10 : String := "PackLanesModel"
def KT10 : u_T := fun k => match k with
  | 0 => ("PackLanesModel", "text", "[I", true)
  | 1 => ("PackLanesModel", "length", "I", false)
  | 2 => ("PackLanesModel", "many", "I", false)
  | 3 => ("PackLanesModel", "kind", "[I", true)
  | 4 => ("PackLanesModel", "one", "[I", true)
  | 5 => ("PackLanesModel", "two", "[I", true)
  | 6 => ("PackLanesModel", "what", "[I", true)
  | 7 => ("PackLanesModel", "now", "[I", true)
  | 8 => ("PackLanesModel", "trial", "[I", true)
  | 9 => ("PackLanesModel", "diary", "[I", true)
  | 10 => ("PackLanesModel", "acts", "I", false)
  | 11 => ("PackLanesModel", "next", "I", false)
  | 12 => ("PackLanesModel", "kept", "[I", true)
  | 13 => ("PackLanesModel", "isKept", "[Z", true)
  | 14 => ("PackLanesModel", "seenAt", "[I", true)
  | 15 => ("PackLanesModel", "seenIs", "[I", true)
  | 16 => ("PackLanesModel", "seen", "I", false)
  | 17 => ("PackLanesModel", "seed", "J", false)
  | 18 => ("PackLanesModel", "out", "I", false)
  | 19 => ("PackLanesModel", "wide", "I", false)
  | 20 => ("PackLanesModel", "follows", "[I", true)
  | 21 => ("PackLanesModel", "depends", "[I", true)
  | 22 => ("PackLanesModel", "packOf", "[I", true)
  | 23 => ("PackLanesModel", "laneOf", "[I", true)
  | 24 => ("PackLanesModel", "packs", "I", false)
  | 25 => ("PackLanesModel", "trees", "I", false)
  | 26 => ("PackLanesModel", "gains", "I", false)
  | 27 => ("PackLanesModel", "treeOf", "[I", true)
  | 28 => ("PackLanesModel", "treeLane", "[I", true)
  | 29 => ("PackLanesModel", "treePacks", "I", false)
  | 30 => ("PackLanesModel", "bundles", "[I", true)
  | 31 => ("PackLanesModel", "waiting", "I", false)
  | 32 => ("PackLanesModel", "single", "I", false)
  | 33 => ("PackLanesModel", "cost", "I", false)
  | 34 => ("PackLanesModel", "place", "[I", true)
  | 35 => ("PackLanesModel", "cells", "[I", true)
  | 36 => ("PackLanesModel", "values", "[I", true)
  | 37 => ("PackLanesModel", "faults", "I", false)
  | 38 => ("PackLanesModel", "stores", "[I", true)
  | 39 => ("PackLanesModel", "worth", "[I", true)
  | 40 => ("PackLanesModel", "readBase", "I", false)
  | 41 => ("PackLanesModel", "readKnown", "I", false)
  | 42 => ("PackLanesModel", "readWidth", "I", false)
  | 43 => ("PackLanesModel", "readMany", "I", false)
  | 44 => ("PackLanesModel", "readKind", "[I", true)
  | 45 => ("PackLanesModel", "readOne", "[I", true)
  | 46 => ("PackLanesModel", "readTwo", "[I", true)
  | 47 => ("PackLanesModel", "readWhat", "[I", true)
  | 48 => ("PackLanesModel", "part", "I", false)
  | _ => ("PackLanesModel", "step", "I", false)
def Kt10 : Nat → FieldType := fun k => match k with
  | 0 => .array .int
  | 1 => .int
  | 2 => .int
  | 3 => .array .int
  | 4 => .array .int
  | 5 => .array .int
  | 6 => .array .int
  | 7 => .array .int
  | 8 => .array .int
  | 9 => .array .int
  | 10 => .int
  | 11 => .int
  | 12 => .array .int
  | 13 => .array .boolean
  | 14 => .array .int
  | 15 => .array .int
  | 16 => .int
  | 17 => .long
  | 18 => .int
  | 19 => .int
  | 20 => .array .int
  | 21 => .array .int
  | 22 => .array .int
  | 23 => .array .int
  | 24 => .int
  | 25 => .int
  | 26 => .int
  | 27 => .array .int
  | 28 => .array .int
  | 29 => .int
  | 30 => .array .int
  | 31 => .int
  | 32 => .int
  | 33 => .int
  | 34 => .array .int
  | 35 => .array .int
  | 36 => .array .int
  | 37 => .int
  | 38 => .array .int
  | 39 => .array .int
  | 40 => .int
  | 41 => .int
  | 42 => .int
  | 43 => .int
  | 44 => .array .int
  | 45 => .array .int
  | 46 => .array .int
  | 47 => .array .int
  | 48 => .int
  | _ => .int
theorem Kn10 : ∀ a, a < 50 → ∀ b, b < 50 → a ≠ b → (KT10 a).2.1 ≠ (KT10 b).2.1 := by decide +kernel
theorem Kp10 : ∀ k, k < 50 → parseFieldDescriptor (KT10 k).2.2.1 = some (Kt10 k) := by decide +kernel
theorem Ki10 : ∀ w ∈ u_ws KR10 KT10 50, w ∈ BIG := by decide +kernel
abbrev classes : List vw_C := [(KR0, KT0, 3), (KR1, KT1, 7), (KR2, KT2, 5), (KR3, KT3, 5), (KR4, KT4, 14), (KR5, KT5, 3), (KR6, KT6, 2), (KR7, KT7, 3), (KR8, KT8, 11), (KR9, KT9, 14), (KR10, KT10, 50)]
end
section
/-! THE ABSTRACT MACHINE OF THIS CLAIM: an abstract heap is a list of cells (kind, contents); kinds 0..10 are the claim's classes, 20 int[], 21 boolean[], 22 int[][]; the reference k is the place k of that list; place 0 is the static array FACTORIALS, place 1 the script. -/
abbrev HV : Type := List (Nat × List Value)
abbrev LV : Type := List Value
/-- the geometry: class numbers, slots, the array classes, the addresses of the two cells that were there, the first new address -/
abbrev GT : Type := (Nat → ClassId) × (Nat → Nat → Nat) × ClassId × ClassId × ClassId × Nat × Nat × Nat
abbrev g_D (G : GT) : va_G := (G.1, G.2.1)
abbrev g_I (G : GT) : ClassId := G.2.2.1
abbrev g_Z (G : GT) : ClassId := G.2.2.2.1
abbrev g_R (G : GT) : ClassId := G.2.2.2.2.1
abbrev g_t (G : GT) : Nat := G.2.2.2.2.2.1
abbrev g_b (G : GT) : Nat := G.2.2.2.2.2.2.1
abbrev g_base (G : GT) : Nat := G.2.2.2.2.2.2.2
def g_A (G : GT) : Nat → Prop := fun q => g_base G ≤ q
def g_mu (G : GT) (k : Nat) : Nat := if k = 0 then g_t G else if k = 1 then g_b G else g_base G + (k - 2)
theorem g_mu2 (G : GT) (k : Nat) : g_mu G (k + 2) = g_base G + k := by simp [g_mu]
def cv (G : GT) (v : Value) : Value := match v with
  | .ref k => .ref (g_mu G k)
  | w => w
theorem cv_int (G : GT) (x : Int32) : cv G (.int x) = .int x := rfl
theorem cv_long (G : GT) (x : Int64) : cv G (.long x) = .long x := rfl
theorem cv_ref (G : GT) (k : Nat) : cv G (.ref k) = .ref (g_mu G k) := rfl
theorem cv_cat (G : GT) (v : Value) : (cv G v).category = v.category := by cases v <;> rfl
def c_toI (v : Value) : Int32 := match v with
  | .int x => x
  | _ => 0
def c_toR (G : GT) (v : Value) : Option Nat := match v with
  | .ref k => some (g_mu G k)
  | _ => none
/-- an abstract cell as the kit has it -/
def cE (G : GT) (c : Nat × List Value) : va_E :=
  if c.1 = 20 then .inl (g_I G, c.2.length, .inl (fun j => c_toI (c.2.getD j .null)))
  else if c.1 = 21 then .inl (g_Z G, c.2.length, .inl (fun j => c_toI (c.2.getD j .null)))
  else if c.1 = 22 then .inl (g_R G, c.2.length, .inr (.inr (.inr (.inr (fun j => c_toR G (c.2.getD j .null))))))
  else .inr (c.1, c.2.map (cv G))
theorem cE_I (G : GT) (vs : List Value) : cE G (20, vs) = .inl (g_I G, vs.length, .inl (fun j => c_toI (vs.getD j .null))) := rfl
theorem cE_Z (G : GT) (vs : List Value) : cE G (21, vs) = .inl (g_Z G, vs.length, .inl (fun j => c_toI (vs.getD j .null))) := rfl
theorem cE_R (G : GT) (vs : List Value) : cE G (22, vs) = .inl (g_R G, vs.length, .inr (.inr (.inr (.inr (fun j => c_toR G (vs.getD j .null)))))) := rfl
theorem cE_O (G : GT) {ci : Nat} (hc : ci < 20) (vs : List Value) : cE G (ci, vs) = .inr (ci, vs.map (cv G)) := by
  unfold cE
  rw [if_neg (by show ¬ ci = 20; omega), if_neg (by show ¬ ci = 21; omega), if_neg (by show ¬ ci = 22; omega)]
/-- the cells with their addresses -/
def wsAt (G : GT) : Nat → HV → va_W
  | _, [] => []
  | k, c :: t => (g_base G + k, cE G c) :: wsAt G (k + 1) t
def wsOf (G : GT) (h : HV) : va_W := wsAt G 0 (h.drop 2)
theorem wsAt_get (G : GT) : ∀ (h : HV) (k q : Nat), (wsAt G k h)[q]? = (h[q]?).map (fun c => (g_base G + (k + q), cE G c))
  | [], k, q => by simp [wsAt]
  | c :: t, k, 0 => by simp [wsAt]
  | c :: t, k, q + 1 => by
    simp only [wsAt, List.getElem?_cons_succ]
    rw [wsAt_get G t (k + 1) q, show k + 1 + q = k + (q + 1) by omega]
theorem wsAt_set (G : GT) : ∀ (h : HV) (k q : Nat) (c : Nat × List Value), (wsAt G k h).set q (g_base G + (k + q), cE G c) = wsAt G k (h.set q c)
  | [], k, q, c => by simp [wsAt]
  | a :: t, k, 0, c => by simp [wsAt]
  | a :: t, k, q + 1, c => by
    simp only [wsAt, List.set_cons_succ]
    rw [← wsAt_set G t (k + 1) q c, show k + 1 + q = k + (q + 1) by omega]
theorem wsAt_app (G : GT) : ∀ (h : HV) (k : Nat) (c : Nat × List Value), wsAt G k (h ++ [c]) = wsAt G k h ++ [(g_base G + (k + h.length), cE G c)]
  | [], k, c => by simp [wsAt]
  | a :: t, k, c => by
    simp only [wsAt, List.cons_append, List.length_cons]
    rw [wsAt_app G t (k + 1) c, show k + 1 + t.length = k + (t.length + 1) by omega]
theorem wsOf_get (G : GT) {h : HV} {r : Nat} {c : Nat × List Value} (hr : h[r + 2]? = some c) : (wsOf G h)[r]? = some (g_base G + r, cE G c) := by
  unfold wsOf
  rw [wsAt_get, List.getElem?_drop, show 2 + r = r + 2 by omega, hr]
  simp
theorem wsOf_set (G : GT) (h : HV) (r : Nat) (c : Nat × List Value) : (wsOf G h).set r (g_base G + r, cE G c) = wsOf G (h.set (r + 2) c) := by
  unfold wsOf
  have e := wsAt_set G (h.drop 2) 0 r c
  rw [show 0 + r = r by omega] at e
  rw [e]
  congr 1
  rw [List.drop_set, if_neg (by omega), show r + 2 - 2 = r by omega]
theorem wsOf_app (G : GT) {h : HV} (h2 : 2 ≤ h.length) (c : Nat × List Value) : wsOf G (h ++ [c]) = wsOf G h ++ [(g_base G + (h.length - 2), cE G c)] := by
  unfold wsOf
  rw [List.drop_append_of_le_length h2, wsAt_app, List.length_drop]
  simp
theorem wsOf_len (G : GT) (h : HV) {k : Nat} {q : Nat × va_E} (hk : (wsOf G h)[k]? = some q) : q.1 = g_base G + k ∧ k + 2 < h.length := by
  unfold wsOf at hk
  rw [wsAt_get, Option.map_eq_some_iff] at hk
  obtain ⟨c, hc, rfl⟩ := hk
  refine ⟨by simp, ?_⟩
  have := (List.getElem?_eq_some_iff.mp hc).1
  rw [List.length_drop] at this
  omega
theorem wsOf_D (G : GT) (h : HV) : va_D (g_A G) (wsOf G h) := by
  refine ⟨fun i j p q hi hj he => ?_, fun k q hk => ?_⟩
  · have a := (wsOf_len G h hi).1
    have b := (wsOf_len G h hj).1
    omega
  · rw [(wsOf_len G h hk).1]
    exact Nat.le_add_right _ _
/-- reading and writing the abstract heap -/
def hg (h : HV) (r k : Nat) : Option Value := (h[r]?).bind fun c => c.2[k]?
def hk (h : HV) (r : Nat) : Option Nat := (h[r]?).map fun c => c.1
def hn (h : HV) (r : Nat) : Option Nat := (h[r]?).map fun c => c.2.length
def hs (h : HV) (r k : Nat) (v : Value) : HV := match h[r]? with
  | some c => h.set r (c.1, c.2.set k v)
  | none => h
def hsz : HV → Nat
  | [] => 0
  | c :: t => c.2.length + hsz t
theorem hs_len (h : HV) (r k : Nat) (v : Value) : (hs h r k v).length = h.length := by
  unfold hs; split <;> simp
theorem hsz_set : ∀ (h : HV) (r : Nat) (c c' : Nat × List Value), h[r]? = some c → c'.2.length = c.2.length → hsz (h.set r c') = hsz h
  | [], r, c, c', h1, _ => by simp at h1
  | a :: t, 0, c, c', h1, h2 => by
    simp at h1; subst h1
    simp [hsz, h2]
  | a :: t, r + 1, c, c', h1, h2 => by
    simp at h1
    simp [hsz, hsz_set t r c c' h1 h2]
theorem hsz_app : ∀ (h : HV) (c : Nat × List Value), hsz (h ++ [c]) = hsz h + c.2.length
  | [], c => by simp [hsz]
  | a :: t, c => by simp [hsz, hsz_app t c]; omega
theorem hs_sz (h : HV) (r k : Nat) (v : Value) : hsz (hs h r k v) = hsz h := by
  unfold hs; split
  · next c hc => exact hsz_set h r c _ hc (by simp)
  · rfl
theorem hg_some {h : HV} {r k : Nat} {v : Value} (e : hg h r k = some v) : ∃ c, h[r]? = some c ∧ c.2[k]? = some v := by
  unfold hg at e
  exact Option.bind_eq_some_iff.mp e
theorem hk_some {h : HV} {r k : Nat} (e : hk h r = some k) : ∃ c, h[r]? = some c ∧ c.1 = k := by
  unfold hk at e
  exact Option.map_eq_some_iff.mp e
theorem hk_cell {h : HV} {r ci : Nat} (e : hk h r = some ci) : ∃ vs, h[r]? = some (ci, vs) := by
  obtain ⟨⟨a, b⟩, h1, h2⟩ := hk_some e
  exact ⟨b, by rw [h1]; cases h2; rfl⟩
theorem hs_eq {h : HV} {r k ci : Nat} {vs : List Value} {v : Value} (e : h[r]? = some (ci, vs)) : hs h r k v = h.set r (ci, vs.set k v) := by
  unfold hs; rw [e]
theorem hg_eq {h : HV} {r k ci : Nat} {vs : List Value} (e : h[r]? = some (ci, vs)) : hg h r k = vs[k]? := by
  unfold hg; rw [e]; rfl
/-- locals: a list by slots, null where nothing is known -/
def lclr (v : Value) : Value := if v.category = 2 then .null else v
def lset : LV → Nat → Value → LV
  | [], _, _ => []
  | _ :: t, 0, v => v :: t
  | a :: t, n + 1, v => (if n = 0 then lclr a else a) :: lset t n v
def lcut : Nat → LV → LV
  | _, [] => []
  | 0, _ :: t => .null :: lcut 0 t
  | n + 1, a :: t => a :: lcut n t
theorem lset_len : ∀ (ls : LV) (i : Nat) (v : Value), (lset ls i v).length = ls.length
  | [], _, _ => rfl
  | _ :: _, 0, _ => rfl
  | a :: t, n + 1, v => by simp [lset, lset_len t n v]
theorem lcut_len : ∀ (n : Nat) (ls : LV), (lcut n ls).length = ls.length
  | _, [] => by simp [lcut]
  | 0, _ :: t => by simp [lcut, lcut_len 0 t]
  | n + 1, _ :: t => by simp [lcut, lcut_len n t]
theorem lcut_get : ∀ (n : Nat) (ls : LV) (i : Nat) (v : Value), (lcut n ls)[i]? = some v → v ≠ .null → ls[i]? = some v
  | _, [], i, v, h, _ => by simp [lcut] at h
  | 0, _ :: t, 0, v, h, hv => by simp [lcut] at h; exact absurd h.symm hv
  | 0, _ :: t, i + 1, v, h, hv => by
    simp only [lcut, List.getElem?_cons_succ] at h ⊢
    exact lcut_get 0 t i v h hv
  | n + 1, a :: t, 0, v, h, _ => by simpa [lcut] using h
  | n + 1, a :: t, i + 1, v, h, hv => by
    simp only [lcut, List.getElem?_cons_succ] at h ⊢
    exact lcut_get n t i v h hv
theorem lset_self : ∀ (ls : LV) (i : Nat) (v : Value), i < ls.length → (lset ls i v)[i]? = some v
  | [], _, _, h => by simp at h
  | _ :: _, 0, _, _ => rfl
  | a :: t, n + 1, v, h => by
    simp only [lset, List.getElem?_cons_succ]
    exact lset_self t n v (by simpa using h)
theorem lset_ne : ∀ (ls : LV) (i : Nat) (v : Value) (j : Nat) (w : Value), j ≠ i → (lset ls i v)[j]? = some w → w ≠ .null → ls[j]? = some w ∧ (j + 1 = i → w.category ≠ 2)
  | [], _, _, _, _, _, h, _ => by simp [lset] at h
  | a :: t, 0, v, 0, w, hne, _, _ => absurd rfl hne
  | a :: t, 0, v, j + 1, w, _, h, _ => by
    simp only [lset, List.getElem?_cons_succ] at h ⊢
    exact ⟨h, fun e => by omega⟩
  | a :: t, n + 1, v, 0, w, _, h, hw => by
    simp only [lset, List.getElem?_cons_zero] at h ⊢
    by_cases hn : n = 0
    · rw [if_pos hn] at h
      unfold lclr at h
      split at h
      · exact absurd (Option.some.inj h).symm hw
      · next hc => exact ⟨h, fun _ => by cases h; exact hc⟩
    · rw [if_neg hn] at h
      exact ⟨h, fun e => by omega⟩
  | a :: t, n + 1, v, j + 1, w, hne, h, hw => by
    simp only [lset, List.getElem?_cons_succ] at h ⊢
    obtain ⟨h1, h2⟩ := lset_ne t n v j w (by omega) h hw
    exact ⟨h1, fun e => h2 (by omega)⟩
/-- a machine's locals and the abstract ones -/
def asc (G : GT) (ls : LV) : List (Nat × Value) := (List.range ls.length).filterMap fun i => match ls[i]? with
  | some v => if v = .null then none else some (i, cv G v)
  | none => none
theorem asc_mem {G : GT} {ls : LV} {q : Nat × Value} : q ∈ asc G ls ↔ ∃ v, ls[q.1]? = some v ∧ v ≠ .null ∧ q.2 = cv G v := by
  unfold asc
  rw [List.mem_filterMap]
  constructor
  · rintro ⟨i, hi, h⟩
    rw [List.mem_range] at hi
    rw [List.getElem?_eq_getElem hi] at h
    simp only at h
    split at h
    · cases h
    · next hne => cases h; exact ⟨ls[i], by rw [List.getElem?_eq_getElem hi], hne, rfl⟩
  · rintro ⟨v, h1, h2, h3⟩
    refine ⟨q.1, List.mem_range.mpr (List.getElem?_eq_some_iff.mp h1).1, ?_⟩
    rw [h1]
    simp only
    rw [if_neg h2]
    rw [← h3]
def Lh (G : GT) (nL : Nat) (mls : Array Slot) (ls : LV) : Prop := ls.length = nL ∧ lv_has mls nL (asc G ls)
theorem Lh_at {G : GT} {nL : Nat} {mls : Array Slot} {ls : LV} (h : Lh G nL mls ls) {i : Nat} {v : Value} (hv : ls[i]? = some v) (hne : v ≠ .null) : mls[i]? = some (.val (cv G v)) :=
  h.2.2.2 (i, cv G v) (asc_mem.mpr ⟨v, hv, hne, rfl⟩)
theorem Lh_size {G : GT} {nL : Nat} {mls : Array Slot} {ls : LV} (h : Lh G nL mls ls) : mls.size = nL := h.2.1
theorem Lh_weak {G : GT} {nL : Nat} {mls : Array Slot} {ls ls' : LV} (h : Lh G nL mls ls) (hl : ls'.length = ls.length) (hs : ∀ (i : Nat) (v : Value), ls'[i]? = some v → v ≠ .null → ls[i]? = some v) : Lh G nL mls ls' :=
  ⟨hl.trans h.1, h.2.1, h.2.2.1, fun q hq => by
    obtain ⟨v, h1, h2, h3⟩ := asc_mem.mp hq
    exact h.2.2.2 q (asc_mem.mpr ⟨v, hs _ _ h1 h2, h2, h3⟩)⟩
theorem Lh_cut {G : GT} {nL : Nat} {mls : Array Slot} {ls : LV} (n : Nat) (h : Lh G nL mls ls) : Lh G nL mls (lcut n ls) := Lh_weak h (lcut_len n ls) (lcut_get n ls)
theorem Lh_set1 {G : GT} {nL : Nat} {mls : Array Slot} {ls : LV} {i : Nat} {v : Value} (hl : ls.length = nL) (hi : i < nL) (h : lv_has mls nL ((i, cv G v) :: (asc G ls).filter (fun q => !(q.1 == i) && !(q.1 + 1 == i && q.2.category == 2)))) : Lh G nL mls (lset ls i v) := by
  refine ⟨(lset_len ls i v).trans hl, h.1, h.2.1, fun q hq => ?_⟩
  obtain ⟨w, h1, h2, h3⟩ := asc_mem.mp hq
  by_cases e : q.1 = i
  · rw [e, lset_self ls i v (by omega)] at h1
    cases h1
    have := h.2.2 (i, cv G v) List.mem_cons_self
    rw [e, h3]; exact this
  · obtain ⟨a, b⟩ := lset_ne ls i v q.1 w e h1 h2
    refine h.2.2 q (List.mem_cons_of_mem _ (List.mem_filter.mpr ⟨asc_mem.mpr ⟨w, a, h2, h3⟩, ?_⟩))
    have hc : q.2.category = w.category := by rw [h3, cv_cat]
    simp only [Bool.and_eq_true, Bool.not_eq_true', beq_eq_false_iff_ne, ne_eq, Bool.and_eq_false_iff, hc]
    refine ⟨e, ?_⟩
    by_cases e2 : q.1 + 1 = i
    · exact Or.inr (b e2)
    · exact Or.inl e2
theorem Lh_set2 {G : GT} {nL : Nat} {mls : Array Slot} {ls : LV} {i : Nat} {v : Value} (hl : ls.length = nL) (hi : i + 1 < nL) (h : lv_has mls nL ((i, cv G v) :: (asc G ls).filter (fun q => !(q.1 == i) && (!(q.1 == i + 1) && !(q.1 + 1 == i && q.2.category == 2))))) : Lh G nL mls (lset (lset ls (i + 1) .null) i v) := by
  refine ⟨(lset_len _ i v).trans ((lset_len ls _ _).trans hl), h.1, h.2.1, fun q hq => ?_⟩
  obtain ⟨w, h1, h2, h3⟩ := asc_mem.mp hq
  by_cases e : q.1 = i
  · rw [e, lset_self _ i v (by rw [lset_len]; omega)] at h1
    cases h1
    have := h.2.2 (i, cv G v) List.mem_cons_self
    rw [e, h3]; exact this
  · obtain ⟨a, b⟩ := lset_ne _ i v q.1 w e h1 h2
    by_cases e1 : q.1 = i + 1
    · rw [e1, lset_self ls (i + 1) .null (by omega)] at a
      exact absurd (Option.some.inj a).symm h2
    · obtain ⟨a', b'⟩ := lset_ne ls (i + 1) .null q.1 w e1 a h2
      refine h.2.2 q (List.mem_cons_of_mem _ (List.mem_filter.mpr ⟨asc_mem.mpr ⟨w, a', h2, h3⟩, ?_⟩))
      have hc : q.2.category = w.category := by rw [h3, cv_cat]
      simp only [Bool.and_eq_true, Bool.not_eq_true', beq_eq_false_iff_ne, ne_eq, Bool.and_eq_false_iff, hc]
      refine ⟨e, e1, ?_⟩
      by_cases e2 : q.1 + 1 = i
      · exact Or.inr (b e2)
      · exact Or.inl e2
end
section
/-! THE JUDGEMENT wA: from this place of a method, with these locals, this stack and this abstract heap, the method comes to an end that its caller allows. -/
abbrev KT : Type := Program × Launch × Env × Room × State × MethodId × Array Value × List Frame × Method × Code × (State → Prop) × GT × Nat × Nat × Nat × String × Option FieldType × (Option Value → HV → Prop)
abbrev k_p (κ : KT) : Program := κ.1
abbrev k_l (κ : KT) : Launch := κ.2.1
abbrev k_e (κ : KT) : Env := κ.2.2.1
abbrev k_R (κ : KT) : Room := κ.2.2.2.1
abbrev k_s (κ : KT) : State := κ.2.2.2.2.1
abbrev k_m (κ : KT) : MethodId := κ.2.2.2.2.2.1
abbrev k_a (κ : KT) : Array Value := κ.2.2.2.2.2.2.1
abbrev k_b (κ : KT) : List Frame := κ.2.2.2.2.2.2.2.1
abbrev k_me (κ : KT) : Method := κ.2.2.2.2.2.2.2.2.1
abbrev k_c (κ : KT) : Code := κ.2.2.2.2.2.2.2.2.2.1
abbrev k_Q (κ : KT) : State → Prop := κ.2.2.2.2.2.2.2.2.2.2.1
abbrev k_G (κ : KT) : GT := κ.2.2.2.2.2.2.2.2.2.2.2.1
abbrev k_nL (κ : KT) : Nat := κ.2.2.2.2.2.2.2.2.2.2.2.2.1
abbrev k_n0 (κ : KT) : Nat := κ.2.2.2.2.2.2.2.2.2.2.2.2.2.1
abbrev k_t0 (κ : KT) : Nat := κ.2.2.2.2.2.2.2.2.2.2.2.2.2.2.1
abbrev k_own (κ : KT) : String := κ.2.2.2.2.2.2.2.2.2.2.2.2.2.2.2.1
abbrev k_rt (κ : KT) : Option FieldType := κ.2.2.2.2.2.2.2.2.2.2.2.2.2.2.2.2.1
abbrev k_ret (κ : KT) : Option Value → HV → Prop := κ.2.2.2.2.2.2.2.2.2.2.2.2.2.2.2.2.2
def facs : List Int32 := [1, 1, 2, 6, 24, 120, 720]
def facV : List Value := facs.map Value.int
def facF (j : Nat) : Value := .int (facs.getD j 0)
abbrev g_tys (G : GT) : List (ClassId × FieldType) := [(g_I G, .int), (g_Z G, .boolean), (g_R G, .array .int)]
/-- the world: what a real heap is when the abstract one is h -/
def Wo (G : GT) (h : HV) (H : Heap) : Prop := H.size + 2 = g_base G + h.length ∧ 2 ≤ h.length ∧ h[0]? = some (20, facV) ∧ va_P (g_D G) classes (wsOf G h) H
/-- what stays true of the tables and the statics -/
def Ta (G : GT) (s : State) (H : Heap) : Prop := va_K (g_D G) classes (g_tys G) s ∧ va_Z "PackLanes" "FACTORIALS" "[I" (.ref (g_t G)) (g_A G) s H ∧ va_T .int (g_t G) 7 facF (g_A G) s H ∧ (Cond.arrayOver (.array .int)).before #[] s = true ∧ g_base G ≤ H.size ∧ ∀ w ∈ BIGN, va_Nw w s
def Wd (κ : KT) (H : Heap) (locs : List Loc) (cells slots : Nat) (h : HV) : Prop :=
  Wo (k_G κ) h H ∧ va_S (g_A (k_G κ)) (k_s κ).heap H locs ∧ H.size = (k_s κ).heap.size + cells ∧ h.length = k_n0 κ + cells ∧ hsz h = k_t0 κ + slots ∧ cells ≤ (k_R κ).cells ∧ slots ≤ (k_R κ).slots
/-- does this instruction give this answer back, of a method with this return type -/
def retI (rt : Option FieldType) (i : Instr) (o : Option Value) : Prop := match rt with
  | none => i = .return_ ∧ o = none
  | some .long => i = .lreturn ∧ ∃ x, o = some (.long x)
  | some .int => i = .ireturn ∧ ∃ x, o = some (.int x)
  | some .boolean => i = .ireturn ∧ ∃ x : Int32, o = some (.int x) ∧ (x = 0 ∨ x = 1)
  | _ => False
abbrev kW (κ : KT) (H : Heap) (locs : List Loc) (cells slots : Nat) (pc : Nat) (mls : Array Slot) (st : List Value) : Prop :=
  W (k_p κ) (k_l κ) (k_e κ) (k_R κ) (k_s κ) (k_m κ) (k_a κ) (k_b κ) (k_me κ) (k_c κ) H locs cells slots (k_Q κ) (F0 (k_m κ) pc mls st)
def KO (cc : ByteArray) (κ : KT) : Prop :=
  (k_p κ).tables.exec = Jvm.exec ∧ (k_c κ).code = cc ∧ (k_c κ).maxLocals = k_nL κ ∧ (k_s κ).vm.findClass (k_own κ) = some (k_m κ).cls ∧ (∀ w ∈ BIG, w.before (k_a κ) (k_s κ) = true) ∧ Ta (k_G κ) (k_s κ) (k_s κ).heap ∧
  (∀ (pc : Nat) (i : Instr) (o : Option Value) (mls : Array Slot) (H : Heap) (locs : List Loc) (cells slots : Nat) (h : HV), retI (k_rt κ) i o → decode cc pc = .ok (i, 1) → Wd κ H locs cells slots h → k_ret κ o h → kW κ H locs cells slots pc mls (o.toList.map (cv (k_G κ))))
def wA (cc : ByteArray) (κ : KT) (pc : Nat) (ls st : LV) (h : HV) : Prop :=
  KO cc κ → ∀ (mls : Array Slot) (H : Heap) (locs : List Loc) (cells slots : Nat), Lh (k_G κ) (k_nL κ) mls ls → Wd κ H locs cells slots h → kW κ H locs cells slots pc mls (st.map (cv (k_G κ)))
section RU
variable {cc : ByteArray} {κ : KT} {pc : Nat} {ls st : LV} {h : HV}
theorem wA_cut (n : Nat) (k : wA cc κ pc (lcut n ls) st h) : wA cc κ pc ls st h := fun O mls H locs cells slots hL hW => k O mls H locs cells slots (Lh_cut n hL) hW
theorem r_iload_n {k : Fin 4} {i : Nat} {x : Int32} (hd : decode cc pc = .ok (.iload_n k, 1)) (hi : (k : Nat) = i) (hl : ls[i]? = some (.int x)) (kk : wA cc κ (pc + 1) ls (.int x :: st) h) : wA cc κ pc ls st h :=
  fun O mls H locs cells slots hL hW => lv_iload_n O.1 O.2.1 hd hi (Lh_at hL hl (by simp)) (kk O mls H locs cells slots hL hW)
theorem r_iload {i : Nat} {x : Int32} (hd : decode cc pc = .ok (.iload i, 2)) (hl : ls[i]? = some (.int x)) (kk : wA cc κ (pc + 2) ls (.int x :: st) h) : wA cc κ pc ls st h :=
  fun O mls H locs cells slots hL hW => lv_iload O.1 O.2.1 hd (Lh_at hL hl (by simp)) (kk O mls H locs cells slots hL hW)
theorem r_lload_n {k : Fin 4} {i : Nat} {x : Int64} (hd : decode cc pc = .ok (.lload_n k, 1)) (hi : (k : Nat) = i) (hl : ls[i]? = some (.long x)) (kk : wA cc κ (pc + 1) ls (.long x :: st) h) : wA cc κ pc ls st h :=
  fun O mls H locs cells slots hL hW => lv_lload_n O.1 O.2.1 hd hi (Lh_at hL hl (by simp)) (kk O mls H locs cells slots hL hW)
theorem r_lload {i : Nat} {x : Int64} (hd : decode cc pc = .ok (.lload i, 2)) (hl : ls[i]? = some (.long x)) (kk : wA cc κ (pc + 2) ls (.long x :: st) h) : wA cc κ pc ls st h :=
  fun O mls H locs cells slots hL hW => lv_lload O.1 O.2.1 hd (Lh_at hL hl (by simp)) (kk O mls H locs cells slots hL hW)
theorem r_aload_n {k : Fin 4} {i : Nat} {x : Nat} (hd : decode cc pc = .ok (.aload_n k, 1)) (hi : (k : Nat) = i) (hl : ls[i]? = some (.ref x)) (kk : wA cc κ (pc + 1) ls (.ref x :: st) h) : wA cc κ pc ls st h :=
  fun O mls H locs cells slots hL hW => lv_aload_n O.1 O.2.1 hd hi (Lh_at hL hl (by simp)) (kk O mls H locs cells slots hL hW)
theorem r_istore_n {k : Fin 4} {i : Nat} {x : Int32} (hd : decode cc pc = .ok (.istore_n k, 1)) (hi : (k : Nat) = i) (hn : i < ls.length) (kk : wA cc κ (pc + 1) (lset ls i (.int x)) st h) : wA cc κ pc ls (.int x :: st) h :=
  fun O mls H locs cells slots hL hW => lv_istore_n O.1 O.2.1 hd hi hL.2 (by rw [← hL.1]; exact hn) rfl fun ls' hl' => kk O ls' H locs cells slots (Lh_set1 (v := .int x) hL.1 (by rw [← hL.1]; exact hn) hl') hW
theorem r_istore {i : Nat} {x : Int32} (hd : decode cc pc = .ok (.istore i, 2)) (hn : i < ls.length) (kk : wA cc κ (pc + 2) (lset ls i (.int x)) st h) : wA cc κ pc ls (.int x :: st) h :=
  fun O mls H locs cells slots hL hW => lv_istore O.1 O.2.1 hd hL.2 (by rw [← hL.1]; exact hn) rfl fun ls' hl' => kk O ls' H locs cells slots (Lh_set1 (v := .int x) hL.1 (by rw [← hL.1]; exact hn) hl') hW
theorem r_lstore_n {k : Fin 4} {i : Nat} {x : Int64} (hd : decode cc pc = .ok (.lstore_n k, 1)) (hi : (k : Nat) = i) (hn : i + 1 < ls.length) (kk : wA cc κ (pc + 1) (lset (lset ls (i + 1) .null) i (.long x)) st h) : wA cc κ pc ls (.long x :: st) h :=
  fun O mls H locs cells slots hL hW => lv_lstore_n O.1 O.2.1 hd hi hL.2 (by rw [← hL.1]; exact hn) rfl fun ls' hl' => kk O ls' H locs cells slots (Lh_set2 (v := .long x) hL.1 (by rw [← hL.1]; exact hn) hl') hW
theorem r_lstore {i : Nat} {x : Int64} (hd : decode cc pc = .ok (.lstore i, 2)) (hn : i + 1 < ls.length) (kk : wA cc κ (pc + 2) (lset (lset ls (i + 1) .null) i (.long x)) st h) : wA cc κ pc ls (.long x :: st) h :=
  fun O mls H locs cells slots hL hW => lv_lstore O.1 O.2.1 hd hL.2 (by rw [← hL.1]; exact hn) rfl fun ls' hl' => kk O ls' H locs cells slots (Lh_set2 (v := .long x) hL.1 (by rw [← hL.1]; exact hn) hl') hW
theorem r_astore_n {k : Fin 4} {i : Nat} {x : Nat} (hd : decode cc pc = .ok (.astore_n k, 1)) (hi : (k : Nat) = i) (hn : i < ls.length) (kk : wA cc κ (pc + 1) (lset ls i (.ref x)) st h) : wA cc κ pc ls (.ref x :: st) h :=
  fun O mls H locs cells slots hL hW => lv_astore_n O.1 O.2.1 hd hi hL.2 (by rw [← hL.1]; exact hn) rfl fun ls' hl' => kk O ls' H locs cells slots (Lh_set1 (v := .ref x) hL.1 (by rw [← hL.1]; exact hn) hl') hW
theorem r_iinc {i : Nat} {n : Int} {x : Int32} (hd : decode cc pc = .ok (.iinc i n, 3)) (hl : ls[i]? = some (.int x)) (kk : wA cc κ (pc + 3) (lset ls i (.int (x + Int32.ofInt n))) st h) : wA cc κ pc ls st h :=
  fun O mls H locs cells slots hL hW => by
    have hi : i < ls.length := (List.getElem?_eq_some_iff.mp hl).1
    obtain ⟨k, hk⟩ := List.getElem?_of_mem (asc_mem.mpr ⟨_, hl, by simp, rfl⟩ : (i, cv (k_G κ) (.int x)) ∈ asc (k_G κ) ls)
    exact lv_iinc O.1 O.2.1 hd hL.2 hk rfl (by rw [← hL.1]; exact hi) rfl fun ls' hl' => kk O ls' H locs cells slots (Lh_set1 (v := .int (x + Int32.ofInt n)) hL.1 (by rw [← hL.1]; exact hi) hl') hW
theorem r_iconst {n : Int} {v : Int32} (hd : decode cc pc = .ok (.iconst n, 1)) (hv : Int32.ofInt n = v) (kk : wA cc κ (pc + 1) ls (.int v :: st) h) : wA cc κ pc ls st h :=
  fun O mls H locs cells slots hL hW => lv_iconst O.1 O.2.1 hd hv (kk O mls H locs cells slots hL hW)
theorem r_bipush {n : Int} {v : Int32} (hd : decode cc pc = .ok (.bipush n, 2)) (hv : (Int8.ofInt n).toInt32 = v) (kk : wA cc κ (pc + 2) ls (.int v :: st) h) : wA cc κ pc ls st h :=
  fun O mls H locs cells slots hL hW => lv_bipush O.1 O.2.1 hd hv (kk O mls H locs cells slots hL hW)
theorem r_sipush {n : Int} {v : Int32} (hd : decode cc pc = .ok (.sipush n, 3)) (hv : (Int16.ofInt n).toInt32 = v) (kk : wA cc κ (pc + 3) ls (.int v :: st) h) : wA cc κ pc ls st h :=
  fun O mls H locs cells slots hL hW => lv_sipush O.1 O.2.1 hd hv (kk O mls H locs cells slots hL hW)
theorem r_lconst {n : Fin 2} {v : Int64} (hd : decode cc pc = .ok (.lconst n, 1)) (hv : Int64.ofNat (n : Nat) = v) (kk : wA cc κ (pc + 1) ls (.long v :: st) h) : wA cc κ pc ls st h :=
  fun O mls H locs cells slots hL hW => lv_lconst O.1 O.2.1 hd hv (kk O mls H locs cells slots hL hW)
theorem r_ldcw {own : String} {index : Nat} {v : Int32} (ho : k_own κ = own) (hw : Cond.constant own index v ∈ BIG) (hd : decode cc pc = .ok (.ldc_w index, 3)) (kk : wA cc κ (pc + 3) ls (.int v :: st) h) : wA cc κ pc ls st h :=
  fun O mls H locs cells slots hL hW => lv_ldcw O.1 O.2.1 (by rw [← ho]; exact O.2.2.2.1) (O.2.2.2.2.1 _ hw) hd (kk O mls H locs cells slots hL hW)
theorem r_ldc2 {own : String} {index : Nat} {v : Int64} (ho : k_own κ = own) (hw : Cond.constantLong own index v ∈ BIG) (hd : decode cc pc = .ok (.ldc2_w index, 3)) (kk : wA cc κ (pc + 3) ls (.long v :: st) h) : wA cc κ pc ls st h :=
  fun O mls H locs cells slots hL hW => lv_ldc2 O.1 O.2.1 (by rw [← ho]; exact O.2.2.2.1) (O.2.2.2.2.1 _ hw) hd (kk O mls H locs cells slots hL hW)
theorem r_iadd {x y : Int32} (hd : decode cc pc = .ok (.iadd, 1)) (kk : wA cc κ (pc + 1) ls (.int (x + y) :: st) h) : wA cc κ pc ls (.int y :: .int x :: st) h := fun O mls H locs cells slots hL hW => lv_iadd O.1 O.2.1 hd (kk O mls H locs cells slots hL hW)
theorem r_isub {x y : Int32} (hd : decode cc pc = .ok (.isub, 1)) (kk : wA cc κ (pc + 1) ls (.int (x - y) :: st) h) : wA cc κ pc ls (.int y :: .int x :: st) h := fun O mls H locs cells slots hL hW => lv_isub O.1 O.2.1 hd (kk O mls H locs cells slots hL hW)
theorem r_imul {x y : Int32} (hd : decode cc pc = .ok (.imul, 1)) (kk : wA cc κ (pc + 1) ls (.int (x * y) :: st) h) : wA cc κ pc ls (.int y :: .int x :: st) h := fun O mls H locs cells slots hL hW => lv_imul O.1 O.2.1 hd (kk O mls H locs cells slots hL hW)
theorem r_iand {x y : Int32} (hd : decode cc pc = .ok (.iand, 1)) (kk : wA cc κ (pc + 1) ls (.int (x &&& y) :: st) h) : wA cc κ pc ls (.int y :: .int x :: st) h := fun O mls H locs cells slots hL hW => lv_iand O.1 O.2.1 hd (kk O mls H locs cells slots hL hW)
theorem r_ior {x y : Int32} (hd : decode cc pc = .ok (.ior, 1)) (kk : wA cc κ (pc + 1) ls (.int (x ||| y) :: st) h) : wA cc κ pc ls (.int y :: .int x :: st) h := fun O mls H locs cells slots hL hW => lv_ior O.1 O.2.1 hd (kk O mls H locs cells slots hL hW)
theorem r_ixor {x y : Int32} (hd : decode cc pc = .ok (.ixor, 1)) (kk : wA cc κ (pc + 1) ls (.int (x ^^^ y) :: st) h) : wA cc κ pc ls (.int y :: .int x :: st) h := fun O mls H locs cells slots hL hW => lv_ixor O.1 O.2.1 hd (kk O mls H locs cells slots hL hW)
theorem r_ishl {x y : Int32} (hd : decode cc pc = .ok (.ishl, 1)) (kk : wA cc κ (pc + 1) ls (.int (x <<< (y &&& 31)) :: st) h) : wA cc κ pc ls (.int y :: .int x :: st) h := fun O mls H locs cells slots hL hW => lv_ishl O.1 O.2.1 hd (kk O mls H locs cells slots hL hW)
theorem r_ishr {x y : Int32} (hd : decode cc pc = .ok (.ishr, 1)) (kk : wA cc κ (pc + 1) ls (.int (x >>> (y &&& 31)) :: st) h) : wA cc κ pc ls (.int y :: .int x :: st) h := fun O mls H locs cells slots hL hW => lv_ishr O.1 O.2.1 hd (kk O mls H locs cells slots hL hW)
theorem r_iushr {x y : Int32} (hd : decode cc pc = .ok (.iushr, 1)) (kk : wA cc κ (pc + 1) ls (.int (x.toUInt32 >>> (y.toUInt32 &&& Int32.toUInt32 31)).toInt32 :: st) h) : wA cc κ pc ls (.int y :: .int x :: st) h := fun O mls H locs cells slots hL hW => lv_iushr O.1 O.2.1 hd rfl (kk O mls H locs cells slots hL hW)
theorem r_ineg {x : Int32} (hd : decode cc pc = .ok (.ineg, 1)) (kk : wA cc κ (pc + 1) ls (.int (-x) :: st) h) : wA cc κ pc ls (.int x :: st) h := fun O mls H locs cells slots hL hW => lv_ineg O.1 O.2.1 hd (kk O mls H locs cells slots hL hW)
theorem r_idiv {x y : Int32} (hd : decode cc pc = .ok (.idiv, 1)) (hne : ¬ y = 0) (kk : wA cc κ (pc + 1) ls (.int (x / y) :: st) h) : wA cc κ pc ls (.int y :: .int x :: st) h := fun O mls H locs cells slots hL hW => lv_idiv O.1 O.2.1 hd hne (kk O mls H locs cells slots hL hW)
theorem r_irem {x y : Int32} (hd : decode cc pc = .ok (.irem, 1)) (hne : ¬ y = 0) (kk : wA cc κ (pc + 1) ls (.int (x - x / y * y) :: st) h) : wA cc κ pc ls (.int y :: .int x :: st) h := fun O mls H locs cells slots hL hW => lv_irem O.1 O.2.1 hd hne (kk O mls H locs cells slots hL hW)
theorem r_ladd {x y : Int64} (hd : decode cc pc = .ok (.ladd, 1)) (kk : wA cc κ (pc + 1) ls (.long (x + y) :: st) h) : wA cc κ pc ls (.long y :: .long x :: st) h := fun O mls H locs cells slots hL hW => lv_ladd O.1 O.2.1 hd (kk O mls H locs cells slots hL hW)
theorem r_lsub {x y : Int64} (hd : decode cc pc = .ok (.lsub, 1)) (kk : wA cc κ (pc + 1) ls (.long (x - y) :: st) h) : wA cc κ pc ls (.long y :: .long x :: st) h := fun O mls H locs cells slots hL hW => lv_lsub O.1 O.2.1 hd (kk O mls H locs cells slots hL hW)
theorem r_lmul {x y : Int64} (hd : decode cc pc = .ok (.lmul, 1)) (kk : wA cc κ (pc + 1) ls (.long (x * y) :: st) h) : wA cc κ pc ls (.long y :: .long x :: st) h := fun O mls H locs cells slots hL hW => lv_lmul O.1 O.2.1 hd (kk O mls H locs cells slots hL hW)
theorem r_land {x y : Int64} (hd : decode cc pc = .ok (.land, 1)) (kk : wA cc κ (pc + 1) ls (.long (x &&& y) :: st) h) : wA cc κ pc ls (.long y :: .long x :: st) h := fun O mls H locs cells slots hL hW => lv_land O.1 O.2.1 hd (kk O mls H locs cells slots hL hW)
theorem r_lor {x y : Int64} (hd : decode cc pc = .ok (.lor, 1)) (kk : wA cc κ (pc + 1) ls (.long (x ||| y) :: st) h) : wA cc κ pc ls (.long y :: .long x :: st) h := fun O mls H locs cells slots hL hW => lv_lor O.1 O.2.1 hd (kk O mls H locs cells slots hL hW)
theorem r_ldiv {x y : Int64} (hd : decode cc pc = .ok (.ldiv, 1)) (hne : ¬ y = 0) (kk : wA cc κ (pc + 1) ls (.long (x / y) :: st) h) : wA cc κ pc ls (.long y :: .long x :: st) h := fun O mls H locs cells slots hL hW => lv_ldiv O.1 O.2.1 hd hne (kk O mls H locs cells slots hL hW)
theorem r_lrem {x y : Int64} (hd : decode cc pc = .ok (.lrem, 1)) (hne : ¬ y = 0) (kk : wA cc κ (pc + 1) ls (.long (x - x / y * y) :: st) h) : wA cc κ pc ls (.long y :: .long x :: st) h := fun O mls H locs cells slots hL hW => lv_lrem O.1 O.2.1 hd hne (kk O mls H locs cells slots hL hW)
theorem r_lshl {x : Int64} {y : Int32} (hd : decode cc pc = .ok (.lshl, 1)) (kk : wA cc κ (pc + 1) ls (.long (x <<< (y.toInt64 &&& 63)) :: st) h) : wA cc κ pc ls (.int y :: .long x :: st) h := fun O mls H locs cells slots hL hW => lv_lshl O.1 O.2.1 hd rfl (kk O mls H locs cells slots hL hW)
theorem r_lushr {x : Int64} {y : Int32} (hd : decode cc pc = .ok (.lushr, 1)) (kk : wA cc κ (pc + 1) ls (.long (x.toUInt64 >>> (y.toInt64.toUInt64 &&& Int64.toUInt64 63)).toInt64 :: st) h) : wA cc κ pc ls (.int y :: .long x :: st) h := fun O mls H locs cells slots hL hW => lv_lushr O.1 O.2.1 hd rfl (kk O mls H locs cells slots hL hW)
theorem r_lcmp {x y : Int64} (hd : decode cc pc = .ok (.lcmp, 1)) (kk : wA cc κ (pc + 1) ls (.int (lg_cmp x y) :: st) h) : wA cc κ pc ls (.long y :: .long x :: st) h := fun O mls H locs cells slots hL hW => W.lcmp O.1 O.2.1 hd (kk O mls H locs cells slots hL hW)
theorem r_i2l {x : Int32} (hd : decode cc pc = .ok (.i2l, 1)) (kk : wA cc κ (pc + 1) ls (.long x.toInt64 :: st) h) : wA cc κ pc ls (.int x :: st) h := fun O mls H locs cells slots hL hW => lv_i2l O.1 O.2.1 hd rfl (kk O mls H locs cells slots hL hW)
theorem r_l2i {x : Int64} (hd : decode cc pc = .ok (.l2i, 1)) (kk : wA cc κ (pc + 1) ls (.int x.toInt32 :: st) h) : wA cc κ pc ls (.long x :: st) h := fun O mls H locs cells slots hL hW => lv_l2i O.1 O.2.1 hd rfl (kk O mls H locs cells slots hL hW)
theorem r_dup {v : Value} (hd : decode cc pc = .ok (.dup, 1)) (hv : v.category = 1) (kk : wA cc κ (pc + 1) ls (v :: v :: st) h) : wA cc κ pc ls (v :: st) h := fun O mls H locs cells slots hL hW => lv_dup O.1 O.2.1 hd (by rw [cv_cat]; exact hv) (kk O mls H locs cells slots hL hW)
theorem r_dup2 {v w : Value} (hd : decode cc pc = .ok (.dup2, 1)) (hv : v.category = 1) (hw : w.category = 1) (kk : wA cc κ (pc + 1) ls (v :: w :: v :: w :: st) h) : wA cc κ pc ls (v :: w :: st) h := fun O mls H locs cells slots hL hW => lv_dup2_11 O.1 O.2.1 hd (by rw [cv_cat]; exact hv) (by rw [cv_cat]; exact hw) (kk O mls H locs cells slots hL hW)
theorem r_pop {v : Value} (hd : decode cc pc = .ok (.pop, 1)) (hv : v.category = 1) (kk : wA cc κ (pc + 1) ls st h) : wA cc κ pc ls (v :: st) h := fun O mls H locs cells slots hL hW => lv_pop O.1 O.2.1 hd (by rw [cv_cat]; exact hv) (kk O mls H locs cells slots hL hW)
theorem r_goto {off : Int} {tgt : Nat} (hd : decode cc pc = .ok (.goto off, 3)) (ht : (pc : Int) + off = (tgt : Int)) (kk : wA cc κ tgt ls st h) : wA cc κ pc ls st h := fun O mls H locs cells slots hL hW => lv_goto O.1 O.2.1 hd ht (kk O mls H locs cells slots hL hW)
theorem r_if_eq {x : Int32} {off : Int} {tgt : Nat} (hd : decode cc pc = .ok (.ifCond .eq off, 3)) (ht : (pc : Int) + off = (tgt : Int)) (kt : x = 0 → wA cc κ tgt ls st h) (kf : ¬ x = 0 → wA cc κ (pc + 3) ls st h) : wA cc κ pc ls (.int x :: st) h := fun O mls H locs cells slots hL hW => lv_if_eq O.1 O.2.1 hd ht (fun q => kt q O mls H locs cells slots hL hW) (fun q => kf q O mls H locs cells slots hL hW)
theorem r_if_ne {x : Int32} {off : Int} {tgt : Nat} (hd : decode cc pc = .ok (.ifCond .ne off, 3)) (ht : (pc : Int) + off = (tgt : Int)) (kt : ¬ x = 0 → wA cc κ tgt ls st h) (kf : x = 0 → wA cc κ (pc + 3) ls st h) : wA cc κ pc ls (.int x :: st) h := fun O mls H locs cells slots hL hW => lv_if_ne O.1 O.2.1 hd ht (fun q => kt q O mls H locs cells slots hL hW) (fun q => kf q O mls H locs cells slots hL hW)
theorem r_if_lt {x : Int32} {off : Int} {tgt : Nat} (hd : decode cc pc = .ok (.ifCond .lt off, 3)) (ht : (pc : Int) + off = (tgt : Int)) (kt : x < 0 → wA cc κ tgt ls st h) (kf : ¬ x < 0 → wA cc κ (pc + 3) ls st h) : wA cc κ pc ls (.int x :: st) h := fun O mls H locs cells slots hL hW => lv_if_lt O.1 O.2.1 hd ht (fun q => kt q O mls H locs cells slots hL hW) (fun q => kf q O mls H locs cells slots hL hW)
theorem r_if_ge {x : Int32} {off : Int} {tgt : Nat} (hd : decode cc pc = .ok (.ifCond .ge off, 3)) (ht : (pc : Int) + off = (tgt : Int)) (kt : 0 ≤ x → wA cc κ tgt ls st h) (kf : ¬ 0 ≤ x → wA cc κ (pc + 3) ls st h) : wA cc κ pc ls (.int x :: st) h := fun O mls H locs cells slots hL hW => lv_if_ge O.1 O.2.1 hd ht (fun q => kt q O mls H locs cells slots hL hW) (fun q => kf q O mls H locs cells slots hL hW)
theorem r_if_gt {x : Int32} {off : Int} {tgt : Nat} (hd : decode cc pc = .ok (.ifCond .gt off, 3)) (ht : (pc : Int) + off = (tgt : Int)) (kt : 0 < x → wA cc κ tgt ls st h) (kf : ¬ 0 < x → wA cc κ (pc + 3) ls st h) : wA cc κ pc ls (.int x :: st) h := fun O mls H locs cells slots hL hW => lv_if_gt O.1 O.2.1 hd ht (fun q => kt q O mls H locs cells slots hL hW) (fun q => kf q O mls H locs cells slots hL hW)
theorem r_if_le {x : Int32} {off : Int} {tgt : Nat} (hd : decode cc pc = .ok (.ifCond .le off, 3)) (ht : (pc : Int) + off = (tgt : Int)) (kt : x ≤ 0 → wA cc κ tgt ls st h) (kf : ¬ x ≤ 0 → wA cc κ (pc + 3) ls st h) : wA cc κ pc ls (.int x :: st) h := fun O mls H locs cells slots hL hW => lv_if_le O.1 O.2.1 hd ht (fun q => kt q O mls H locs cells slots hL hW) (fun q => kf q O mls H locs cells slots hL hW)
theorem r_ic_eq {x y : Int32} {off : Int} {tgt : Nat} (hd : decode cc pc = .ok (.if_icmp .eq off, 3)) (ht : (pc : Int) + off = (tgt : Int)) (kt : x = y → wA cc κ tgt ls st h) (kf : ¬ x = y → wA cc κ (pc + 3) ls st h) : wA cc κ pc ls (.int y :: .int x :: st) h := fun O mls H locs cells slots hL hW => lv_icmp_eq O.1 O.2.1 hd ht (fun q => kt q O mls H locs cells slots hL hW) (fun q => kf q O mls H locs cells slots hL hW)
theorem r_ic_ne {x y : Int32} {off : Int} {tgt : Nat} (hd : decode cc pc = .ok (.if_icmp .ne off, 3)) (ht : (pc : Int) + off = (tgt : Int)) (kt : ¬ x = y → wA cc κ tgt ls st h) (kf : x = y → wA cc κ (pc + 3) ls st h) : wA cc κ pc ls (.int y :: .int x :: st) h := fun O mls H locs cells slots hL hW => lv_icmp_ne O.1 O.2.1 hd ht (fun q => kt q O mls H locs cells slots hL hW) (fun q => kf q O mls H locs cells slots hL hW)
theorem r_ic_lt {x y : Int32} {off : Int} {tgt : Nat} (hd : decode cc pc = .ok (.if_icmp .lt off, 3)) (ht : (pc : Int) + off = (tgt : Int)) (kt : x < y → wA cc κ tgt ls st h) (kf : ¬ x < y → wA cc κ (pc + 3) ls st h) : wA cc κ pc ls (.int y :: .int x :: st) h := fun O mls H locs cells slots hL hW => lv_icmp_lt O.1 O.2.1 hd ht (fun q => kt q O mls H locs cells slots hL hW) (fun q => kf q O mls H locs cells slots hL hW)
theorem r_ic_ge {x y : Int32} {off : Int} {tgt : Nat} (hd : decode cc pc = .ok (.if_icmp .ge off, 3)) (ht : (pc : Int) + off = (tgt : Int)) (kt : y ≤ x → wA cc κ tgt ls st h) (kf : ¬ y ≤ x → wA cc κ (pc + 3) ls st h) : wA cc κ pc ls (.int y :: .int x :: st) h := fun O mls H locs cells slots hL hW => lv_icmp_ge O.1 O.2.1 hd ht (fun q => kt q O mls H locs cells slots hL hW) (fun q => kf q O mls H locs cells slots hL hW)
theorem r_ic_gt {x y : Int32} {off : Int} {tgt : Nat} (hd : decode cc pc = .ok (.if_icmp .gt off, 3)) (ht : (pc : Int) + off = (tgt : Int)) (kt : y < x → wA cc κ tgt ls st h) (kf : ¬ y < x → wA cc κ (pc + 3) ls st h) : wA cc κ pc ls (.int y :: .int x :: st) h := fun O mls H locs cells slots hL hW => lv_icmp_gt O.1 O.2.1 hd ht (fun q => kt q O mls H locs cells slots hL hW) (fun q => kf q O mls H locs cells slots hL hW)
theorem r_ic_le {x y : Int32} {off : Int} {tgt : Nat} (hd : decode cc pc = .ok (.if_icmp .le off, 3)) (ht : (pc : Int) + off = (tgt : Int)) (kt : x ≤ y → wA cc κ tgt ls st h) (kf : ¬ x ≤ y → wA cc κ (pc + 3) ls st h) : wA cc κ pc ls (.int y :: .int x :: st) h := fun O mls H locs cells slots hL hW => lv_icmp_le O.1 O.2.1 hd ht (fun q => kt q O mls H locs cells slots hL hW) (fun q => kf q O mls H locs cells slots hL hW)
/-- a field by its link: of the class ci, its place k, its type, is it final -/
def FldOK (own : String) (index ci k : Nat) (ty : FieldType) (fin : Nat) : Prop :=
  ∃ (C : String) (T : u_T) (N : Nat) (ty0 : Nat → FieldType), ci < 20 ∧ classes[ci]? = some (C, T, N) ∧ k < N ∧ (∀ w ∈ u_ws C T N, w ∈ BIG) ∧ (∀ k, k < N → parseFieldDescriptor (T k).2.2.1 = some (ty0 k)) ∧ (∀ a, a < N → ∀ b, b < N → a ≠ b → (T a).2.1 ≠ (T b).2.1) ∧
    Cond.fieldLink own index (T k).1 (T k).2.1 (T k).2.2.1 ∈ BIG ∧ parseFieldDescriptor (T k).2.2.1 = some ty ∧ (fin = 0 → (T k).2.2.2 = false) ∧ (fin = 1 → (T k).2.2.2 = true ∧ (T k).1 = own)
theorem kW_size {H : Heap} {locs : List Loc} {cells slots pc : Nat} {mls : Array Slot} {st : List Value} (k : H.size ≤ (k_s κ).heap.size + cells → kW κ H locs cells slots pc mls st) : kW κ H locs cells slots pc mls st :=
  fun T hT X => k (by rw [← hT]; exact X.heapSize) T hT X
theorem va_S.start {A : Nat → Prop} {H0 H : Heap} {locs : List Loc} (h : va_S A H0 H locs) : va_S A H H locs := ⟨Nat.le_refl _, fun _ _ _ => rfl, h.2.2⟩
theorem va_S.go {A : Nat → Prop} {H0 H H1 : Heap} {locs locs1 : List Loc} (h : va_S A H0 H locs) (h1 : va_S A H H1 locs1) : va_S A H0 H1 locs1 :=
  ⟨Nat.le_trans h.1 h1.1, fun q a b => by rw [h1.2.1 q (Nat.lt_of_lt_of_le a h.1) b]; exact h.2.1 q a b, h1.2.2⟩
theorem hs_get0 {h : HV} {r k : Nat} {v : Value} (hr : r ≠ 0) : (hs h r k v)[0]? = h[0]? := by
  unfold hs; split
  · rw [List.getElem?_set_ne hr]
  · rfl
/-- behind a write to one cell -/
theorem Wd_hs {H H1 : Heap} {locs locs1 : List Loc} {cells slots r k ci : Nat} {vs : List Value} {v : Value} (hW : Wd κ H locs cells slots h) (hr : h[r + 2]? = some (ci, vs)) (hP : va_P (g_D (k_G κ)) classes ((wsOf (k_G κ) h).set r (g_base (k_G κ) + r, cE (k_G κ) (ci, vs.set k v))) H1)
    (hS : va_S (g_A (k_G κ)) H H1 locs1) (hz : H1.size ≤ (k_s κ).heap.size + cells) : Wd κ H1 locs1 cells slots (hs h (r + 2) k v) := by
  obtain ⟨⟨w1, w2, w3, w4⟩, w5, w6, w7, w8, w9, w10⟩ := hW
  have e : H1.size = H.size := Nat.le_antisymm (by rw [w6]; exact hz) hS.1
  refine ⟨⟨by rw [hs_len, e]; exact w1, by rw [hs_len]; exact w2, by rw [hs_get0 (by omega)]; exact w3, ?_⟩, w5.go hS, by rw [e]; exact w6, by rw [hs_len]; exact w7, by rw [hs_sz]; exact w8, w9, w10⟩
  rw [hs_eq hr, ← wsOf_set]
  exact hP
theorem two_of {H : Heap} {locs : List Loc} {cells slots r ci : Nat} (hW : Wd κ H locs cells slots h) (hr : hk h r = some ci) (hc : ci < 20) (h1 : r ≠ 1) : ∃ q, r = q + 2 := by
  rcases r with _ | _ | q
  · obtain ⟨vs, e⟩ := hk_cell hr
    have e2 := hW.1.2.2.1
    rw [e] at e2
    cases e2
    omega
  · exact absurd rfl h1
  · exact ⟨q, rfl⟩
theorem r_get {own : String} {index ci k : Nat} {ty : FieldType} {fin : Nat} {r : Nat} {v : Value} (hF : FldOK own index ci k ty fin) (ho : k_own κ = own) (h1 : r ≠ 1) (hr : hk h r = some ci) (hv : hg h r k = some v) (hd : decode cc pc = .ok (.getfield index, 3)) (kk : wA cc κ (pc + 3) ls (v :: st) h) : wA cc κ pc ls (.ref r :: st) h := by
  intro O mls H locs cells slots hL hW
  obtain ⟨C, T, N, ty0, f1, f2, f3, f4, f5, f6, f7, f8, f9, f10⟩ := hF
  obtain ⟨q, rfl⟩ := two_of hW hr f1 h1
  obtain ⟨vs, e⟩ := hk_cell hr
  rw [hg_eq e] at hv
  have hw := wsOf_get (k_G κ) e
  rw [cE_O _ f1] at hw
  show kW κ H locs cells slots pc mls (.ref (g_mu (k_G κ) (q + 2)) :: st.map (cv (k_G κ)))
  rw [g_mu2]
  exact va_get O.1 O.2.1 O.2.2.2.2.1 f4 (by rw [← ho]; exact O.2.2.2.1) O.2.2.2.2.2.1.1 hW.1.2.2.2 q hw f2 k f3 (O.2.2.2.2.1 _ f7) (fun _ h9 => h9) (v := cv (k_G κ) v) (by rw [List.getElem?_map, hv]; rfl) hd (kk O mls H locs cells slots hL hW)
theorem r_put {own : String} {index ci k : Nat} {ty : FieldType} {r : Nat} {v w : Value} (hF : FldOK own index ci k ty 0) (ho : k_own κ = own) (h1 : r ≠ 1) (hr : hk h r = some ci) (hv : hg h r k = some w) (hn : narrow ty (cv (k_G κ) v) = cv (k_G κ) v) (hf : fits ty (cv (k_G κ) v) = true) (hd : decode cc pc = .ok (.putfield index, 3)) (kk : wA cc κ (pc + 3) ls st (hs h r k v)) : wA cc κ pc ls (v :: .ref r :: st) h := by
  intro O mls H locs cells slots hL hW
  obtain ⟨C, T, N, ty0, f1, f2, f3, f4, f5, f6, f7, f8, f9, f10⟩ := hF
  obtain ⟨q, rfl⟩ := two_of hW hr f1 h1
  obtain ⟨vs, e⟩ := hk_cell hr
  rw [hg_eq e] at hv
  have hw := wsOf_get (k_G κ) e
  rw [cE_O _ f1] at hw
  show kW κ H locs cells slots pc mls (cv (k_G κ) v :: .ref (g_mu (k_G κ) (q + 2)) :: st.map (cv (k_G κ)))
  rw [g_mu2]
  refine va_put (v := cv (k_G κ) v) O.1 O.2.1 O.2.2.2.2.1 f4 ty0 f5 f6 (by rw [← ho]; exact O.2.2.2.1) O.2.2.2.2.2.1.1 hW.1.2.2.2 (wsOf_D _ h) hW.2.1.start q hw f2 k f3 (O.2.2.2.2.1 _ f7) (fun _ h9 => h9) (f9 rfl) f8 hn hf (by rw [List.length_map]; exact (List.getElem?_eq_some_iff.mp hv).1) hd (fun H1 locs1 hP hD hS => ?_)
  refine kW_size fun hz => kk O mls H1 locs1 cells slots hL (Wd_hs hW e ?_ hS hz)
  rw [cE_O _ f1, List.map_set]
  exact hP
theorem r_putF {own : String} {index ci k : Nat} {ty : FieldType} {r : Nat} {v w : Value} (hF : FldOK own index ci k ty 1) (ho : k_own κ = own) (h1 : r ≠ 1) (hi : KO cc κ → (k_me κ).name = "<init>") (hr : hk h r = some ci) (hv : hg h r k = some w) (hn : narrow ty (cv (k_G κ) v) = cv (k_G κ) v) (hf : fits ty (cv (k_G κ) v) = true) (hd : decode cc pc = .ok (.putfield index, 3)) (kk : wA cc κ (pc + 3) ls st (hs h r k v)) : wA cc κ pc ls (v :: .ref r :: st) h := by
  intro O mls H locs cells slots hL hW
  obtain ⟨C, T, N, ty0, f1, f2, f3, f4, f5, f6, f7, f8, f9, f10⟩ := hF
  obtain ⟨q, rfl⟩ := two_of hW hr f1 h1
  obtain ⟨vs, e⟩ := hk_cell hr
  rw [hg_eq e] at hv
  have hw := wsOf_get (k_G κ) e
  rw [cE_O _ f1] at hw
  have hi2 := hi O
  show kW κ H locs cells slots pc mls (cv (k_G κ) v :: .ref (g_mu (k_G κ) (q + 2)) :: st.map (cv (k_G κ)))
  rw [g_mu2]
  refine va_putF (v := cv (k_G κ) v) O.1 O.2.1 O.2.2.2.2.1 f4 ty0 f5 f6 (by rw [← ho]; exact O.2.2.2.1) O.2.2.2.2.2.1.1 hW.1.2.2.2 (wsOf_D _ h) hW.2.1.start q hw f2 k f3 (O.2.2.2.2.1 _ f7) (fun _ h9 => h9) (f10 rfl).1 hi2 (f10 rfl).2 f8 hn hf (by rw [List.length_map]; exact (List.getElem?_eq_some_iff.mp hv).1) hd (fun H1 locs1 hP hD hS => ?_)
  refine kW_size fun hz => kk O mls H1 locs1 cells slots hL (Wd_hs hW e ?_ hS hz)
  rw [cE_O _ f1, List.map_set]
  exact hP
/-- the one field that is read by a nest mate -/
theorem r_getN {own C : String} {T : u_T} {N index ci k : Nat} {host : String} {r : Nat} {v : Value} (f1 : ci < 20) (f2 : classes[ci]? = some (C, T, N)) (f3 : k < N) (f4 : ∀ w ∈ u_ws C T N, w ∈ BIG) (f7 : Cond.fieldLinkNest own index (T k).1 (T k).2.1 (T k).2.2.1 host ∈ BIGN) (ho : k_own κ = own) (h1 : r ≠ 1) (hr : hk h r = some ci) (hv : hg h r k = some v) (hd : decode cc pc = .ok (.getfield index, 3)) (kk : wA cc κ (pc + 3) ls (v :: st) h) : wA cc κ pc ls (.ref r :: st) h := by
  intro O mls H locs cells slots hL hW
  obtain ⟨q, rfl⟩ := two_of hW hr f1 h1
  obtain ⟨vs, e⟩ := hk_cell hr
  rw [hg_eq e] at hv
  have hw := wsOf_get (k_G κ) e
  rw [cE_O _ f1] at hw
  show kW κ H locs cells slots pc mls (.ref (g_mu (k_G κ) (q + 2)) :: st.map (cv (k_G κ)))
  rw [g_mu2]
  exact va_getN O.1 O.2.1 O.2.2.2.2.1 f4 (by rw [← ho]; exact O.2.2.2.1) O.2.2.2.2.2.1.1 hW.1.2.2.2 q hw f2 k f3 (va_Nw.use rfl (O.2.2.2.2.2.1.2.2.2.2.2 _ f7)) (fun _ h9 => h9) (v := cv (k_G κ) v) (by rw [List.getElem?_map, hv]; rfl) hd (kk O mls H locs cells slots hL hW)
theorem in_of {vs : List Value} {j : Int32} {x : Value} (h0 : 0 ≤ j) (hv : vs[j.toNatClampNeg]? = some x) : vp_in j vs.length := by
  rintro (q | q)
  · exact absurd q (Int32.not_lt.mpr h0)
  · have := (List.getElem?_eq_some_iff.mp hv).1
    omega
theorem r_iald {r : Nat} {j x : Int32} (h1 : r ≠ 1) (hr : hk h r = some 20) (h0 : 0 ≤ j) (hv : hg h r j.toNatClampNeg = some (.int x)) (hd : decode cc pc = .ok (.iaload, 1)) (kk : wA cc κ (pc + 1) ls (.int x :: st) h) : wA cc κ pc ls (.int j :: .ref r :: st) h := by
  intro O mls H locs cells slots hL hW
  obtain ⟨vs, e⟩ := hk_cell hr
  rw [hg_eq e] at hv
  rcases r with _ | _ | q
  · have e2 := hW.1.2.2.1
    rw [e] at e2
    cases e2
    refine va_ti O.1 O.2.1 O.2.2.2.2.2.1.2.2.1 hW.2.1 (i := j) (in_of h0 hv) (v := .int x) ?_ hd (kk O mls H locs cells slots hL hW)
    unfold facV at hv
    rw [List.getElem?_map] at hv
    obtain ⟨y, a, b⟩ := Option.map_eq_some_iff.mp hv
    unfold facF
    rw [List.getD_eq_getElem?_getD, a]
    exact b
  · exact absurd rfl h1
  · have hw := wsOf_get (k_G κ) e
    rw [cE_I] at hw
    show kW κ H locs cells slots pc mls (.int j :: .ref (g_mu (k_G κ) (q + 2)) :: st.map (cv (k_G κ)))
    rw [g_mu2]
    refine va_iald O.1 O.2.1 O.2.2.2.2.2.1.1 hW.1.2.2.2 q 0 hw rfl (in_of h0 hv) hd ?_
    rw [List.getD_eq_getElem?_getD, hv]
    exact kk O mls H locs cells slots hL hW
theorem upd_toI {vs : List Value} {k : Nat} {x : Int32} (hk : k < vs.length) : (fun j => c_toI ((vs.set k (.int x)).getD j .null)) = upd (fun j => c_toI (vs.getD j .null)) k x := by
  funext j
  show c_toI ((vs.set k (.int x)).getD j .null) = if j = k then x else c_toI (vs.getD j .null)
  rw [List.getD_eq_getElem?_getD, List.getD_eq_getElem?_getD, List.getElem?_set]
  by_cases e : j = k
  · subst e
    simp [hk, c_toI]
  · simp [e, Ne.symm e]
theorem r_iast {r : Nat} {j x : Int32} {w : Value} (h1 : 2 ≤ r) (hr : hk h r = some 20) (h0 : 0 ≤ j) (hv : hg h r j.toNatClampNeg = some w) (hd : decode cc pc = .ok (.iastore, 1)) (kk : wA cc κ (pc + 1) ls st (hs h r j.toNatClampNeg (.int x))) : wA cc κ pc ls (.int x :: .int j :: .ref r :: st) h := by
  intro O mls H locs cells slots hL hW
  obtain ⟨vs, e⟩ := hk_cell hr
  rw [hg_eq e] at hv
  obtain ⟨q, rfl⟩ : ∃ q, r = q + 2 := ⟨r - 2, by omega⟩
  have hw := wsOf_get (k_G κ) e
  rw [cE_I] at hw
  show kW κ H locs cells slots pc mls (.int x :: .int j :: .ref (g_mu (k_G κ) (q + 2)) :: st.map (cv (k_G κ)))
  rw [g_mu2]
  refine va_iast O.1 O.2.1 O.2.2.2.2.2.1.1 hW.1.2.2.2 (wsOf_D _ h) hW.2.1.start q 0 hw rfl (in_of h0 hv) hd (fun H1 locs1 hP hD hS => ?_)
  refine kW_size fun hz => kk O mls H1 locs1 cells slots hL (Wd_hs hW e ?_ hS hz)
  rw [cE_I, List.length_set, upd_toI (List.getElem?_eq_some_iff.mp hv).1]
  exact hP
theorem r_zald {r : Nat} {j x : Int32} (h1 : 2 ≤ r) (hr : hk h r = some 21) (h0 : 0 ≤ j) (hv : hg h r j.toNatClampNeg = some (.int x)) (hd : decode cc pc = .ok (.baload, 1)) (kk : wA cc κ (pc + 1) ls (.int x :: st) h) : wA cc κ pc ls (.int j :: .ref r :: st) h := by
  intro O mls H locs cells slots hL hW
  obtain ⟨vs, e⟩ := hk_cell hr
  rw [hg_eq e] at hv
  obtain ⟨q, rfl⟩ : ∃ q, r = q + 2 := ⟨r - 2, by omega⟩
  have hw := wsOf_get (k_G κ) e
  rw [cE_Z] at hw
  show kW κ H locs cells slots pc mls (.int j :: .ref (g_mu (k_G κ) (q + 2)) :: st.map (cv (k_G κ)))
  rw [g_mu2]
  refine va_zald O.1 O.2.1 O.2.2.2.2.2.1.1 hW.1.2.2.2 q 1 hw rfl (in_of h0 hv) hd ?_
  rw [List.getD_eq_getElem?_getD, hv]
  exact kk O mls H locs cells slots hL hW
theorem r_zast {r : Nat} {j x : Int32} {w : Value} (h1 : 2 ≤ r) (hr : hk h r = some 21) (h0 : 0 ≤ j) (hx : x = 0 ∨ x = 1) (hv : hg h r j.toNatClampNeg = some w) (hd : decode cc pc = .ok (.bastore, 1)) (kk : wA cc κ (pc + 1) ls st (hs h r j.toNatClampNeg (.int x))) : wA cc κ pc ls (.int x :: .int j :: .ref r :: st) h := by
  intro O mls H locs cells slots hL hW
  obtain ⟨vs, e⟩ := hk_cell hr
  rw [hg_eq e] at hv
  obtain ⟨q, rfl⟩ : ∃ q, r = q + 2 := ⟨r - 2, by omega⟩
  have hw := wsOf_get (k_G κ) e
  rw [cE_Z] at hw
  show kW κ H locs cells slots pc mls (.int x :: .int j :: .ref (g_mu (k_G κ) (q + 2)) :: st.map (cv (k_G κ)))
  rw [g_mu2]
  refine va_zast O.1 O.2.1 O.2.2.2.2.2.1.1 hW.1.2.2.2 (wsOf_D _ h) hW.2.1.start q 1 hw rfl (in_of h0 hv) hd (fun H1 locs1 hP hD hS => ?_)
  refine kW_size fun hz => kk O mls H1 locs1 cells slots hL (Wd_hs hW e ?_ hS hz)
  rw [cE_Z, List.length_set, upd_toI (List.getElem?_eq_some_iff.mp hv).1]
  have en : vp_nar .boolean x = x := by rcases hx with rfl | rfl <;> rfl
  rw [en] at hP
  exact hP
theorem r_aald {r y : Nat} {j : Int32} (h1 : 2 ≤ r) (hr : hk h r = some 22) (h0 : 0 ≤ j) (hv : hg h r j.toNatClampNeg = some (.ref y)) (hd : decode cc pc = .ok (.aaload, 1)) (kk : wA cc κ (pc + 1) ls (.ref y :: st) h) : wA cc κ pc ls (.int j :: .ref r :: st) h := by
  intro O mls H locs cells slots hL hW
  obtain ⟨vs, e⟩ := hk_cell hr
  rw [hg_eq e] at hv
  obtain ⟨q, rfl⟩ : ∃ q, r = q + 2 := ⟨r - 2, by omega⟩
  have hw := wsOf_get (k_G κ) e
  rw [cE_R] at hw
  show kW κ H locs cells slots pc mls (.int j :: .ref (g_mu (k_G κ) (q + 2)) :: st.map (cv (k_G κ)))
  rw [g_mu2]
  have hin := in_of h0 hv
  have hlt := (List.getElem?_eq_some_iff.mp hv).1
  refine W.aald (v := .ref (g_mu (k_G κ) y)) (ty := .array .int) O.1 O.2.1 (hW.1.2.2.2 q _ hw) ((O.2.2.2.2.2.1.1.2 2 _ rfl).1 vs.length (fun j => va_rf (c_toR (k_G κ) (vs.getD j .null)))) rfl (fun z => by cases z) (by show ¬ (j < 0 ∨ (arrV _ _ _).slots.size ≤ _); rw [arrV_size]; exact hin) (by show (arrV _ _ _).slots[_]? = _; rw [arrV_read _ _ hlt]; show some (va_rf (c_toR (k_G κ) (vs.getD j.toNatClampNeg .null))) = _; rw [List.getD_eq_getElem?_getD, hv]; rfl) rfl rfl hd (kk O mls H locs cells slots hL hW)
theorem r_alen {r n : Nat} (h1 : r ≠ 1) (hr : hk h r = some 20) (hv : hn h r = some n) (hd : decode cc pc = .ok (.arraylength, 1)) (kk : wA cc κ (pc + 1) ls (.int (Int32.ofNat n) :: st) h) : wA cc κ pc ls (.ref r :: st) h := by
  intro O mls H locs cells slots hL hW
  obtain ⟨vs, e⟩ := hk_cell hr
  have hv2 : vs.length = n := by
    unfold hn at hv
    rw [e] at hv
    exact Option.some.inj hv
  clear hv
  rcases r with _ | _ | q
  · have e2 := hW.1.2.2.1
    rw [e] at e2
    cases e2
    exact va_tlen O.1 O.2.1 O.2.2.2.2.2.1.2.2.1 hW.2.1 (by rw [← hv2]; rfl) hd (kk O mls H locs cells slots hL hW)
  · exact absurd rfl h1
  · have hw := wsOf_get (k_G κ) e
    rw [cE_I] at hw
    show kW κ H locs cells slots pc mls (.ref (g_mu (k_G κ) (q + 2)) :: st.map (cv (k_G κ)))
    rw [g_mu2]
    exact va_alen O.1 O.2.1 O.2.2.2.2.2.1.1 hW.1.2.2.2 q 0 hw rfl (by rw [← hv2]) hd (kk O mls H locs cells slots hL hW)
theorem r_gets {own : String} {index : Nat} (hw : Cond.fieldLink own index "PackLanes" "FACTORIALS" "[I" ∈ BIG) (ho : k_own κ = own) (hd : decode cc pc = .ok (.getstatic index, 3)) (kk : wA cc κ (pc + 3) ls (.ref 0 :: st) h) : wA cc κ pc ls st h := by
  intro O mls H locs cells slots hL hW
  exact va_gets O.1 O.2.1 O.2.2.2.2.2.1.2.1 hW.2.1 (by rw [← ho]; exact O.2.2.2.1) (O.2.2.2.2.1 _ hw) (fun _ h9 => h9) hd (kk O mls H locs cells slots hL hW)
end RU
end
section
theorem aO_moved {u U : State} (hvm : u.vm.Alike U.vm) (h : (Cond.arrayOver (.array .int)).before #[] u = true) : (Cond.arrayOver (.array .int)).before #[] U = true := by
  have h2 : (Cond.arrayOver (.array .int)).holds #[] u none u [] = true := h
  simp only [Cond.holds, Cond.value, beq_iff_eq] at h2
  rw [Option.bind_eq_some_iff] at h2
  obtain ⟨comp, f1, h2⟩ := h2
  rw [Option.bind_eq_some_iff] at h2
  obtain ⟨c, f2, h2⟩ := h2
  rw [Option.map_eq_some_iff] at h2
  obtain ⟨k, f3, h2⟩ := h2
  obtain ⟨k', hk', he⟩ := hvm.2.2 _ _ f3
  have ga := va_idx_bare U.vm comp
  have gb := va_idx_bare u.vm comp
  first | rw [hvm.bare_eq] at gb | rw [← hvm.bare_eq] at gb
  have hi := (ga.symm.trans gb).trans f2
  show (Cond.arrayOver (.array .int)).holds #[] U none U [] = true
  simp only [Cond.holds, Cond.value, beq_iff_eq]
  rw [Option.bind_eq_some_iff]
  refine ⟨comp, by rw [hvm.findClass]; exact f1, ?_⟩
  rw [Option.bind_eq_some_iff]
  refine ⟨c, hi, ?_⟩
  rw [Option.map_eq_some_iff]
  refine ⟨k', hk', ?_⟩
  have hkd : k'.kind = k.kind := by rw [he]
  rw [hkd, hvm.findClass]
  exact h2
section CU
variable {cc : ByteArray} {κ : KT} {pc : Nat} {ls st : LV} {h : HV}
def stw (st : LV) : Nat := (st.map fun v => v.category).sum
theorem stw_cv (G : GT) (st : LV) : ((st.map (cv G)).map fun v => v.category).sum = stw st := by
  unfold stw
  rw [List.map_map]
  congr 1
  exact List.map_congr_left fun v _ => cv_cat G v
theorem Ta_moved {G : GT} {u U : State} {H : Heap} (hW : u.WarmedH U.vm) (h : Ta G u H) : Ta G U H := ⟨h.1.moved hW.alike, h.2.1.moved hW.alike, h.2.2.1.moved hW.alike, aO_moved hW.alike h.2.2.2.1, h.2.2.2.2.1, fun w hw => nw_warm (bign_nest w hw) hW (h.2.2.2.2.2 w hw)⟩
theorem Ta_kept {G : GT} {U : State} {H0 H : Heap} {locs : List Loc} (h : Ta G U H0) (hS : va_S (g_A G) H0 H locs) : Ta G U H := ⟨h.1, h.2.1.kept hS.2.1, h.2.2.1.kept hS.2.1, h.2.2.2.1, Nat.le_trans h.2.2.2.2.1 hS.1, h.2.2.2.2.2⟩
/-- a method's contract, by its abstract meaning X -/
abbrev PM : Type := List Value → HV → (Option Value → HV → Prop) → Prop
def mQ (G : GT) (h : HV) (rm : Room) (Qp : Option Value → HV → Prop) : Array Value → State → Outcome → State → Prop := fun _ st o t =>
  (∃ (r : Option Value) (h' : HV), o = .returned (r.map (cv G)) ∧ Qp r h' ∧ Wo G h' t.heap ∧ h'.length = h.length + rm.cells ∧ hsz h' = hsz h + rm.slots) ∧ va_F (g_A G) st t
abbrev mP (G : GT) (vs : List Value) (h : HV) : Array Value → State → Prop := va_Pc (vs.map (cv G)) (fun U => Wo G h U.heap ∧ Ta G U U.heap)
def Ctr (l : Launch) (y : MethodName) (bytes : ByteArray) (maxL : Nat) (ret : Option FieldType) (rm : Room) (X : PM) : Prop :=
  ∀ (G : GT) (vs : List Value) (h : HV) (Qp : Option Value → HV → Prop), X vs h Qp → Met l y (Cond.code y bytes maxL ret :: BIG) rm (mP G vs h) (mQ G h rm Qp) rm.cells rm.slots (g_A G)
theorem mP_blind (G : GT) (vs : List Value) (h : HV) : FrameBlind (mP G vs h) := fun a U g mk q => ⟨q.1, q.2.1, Ta_moved (u := U) (U := U.calling g mk a) (State.WarmedH.refl U) q.2.2⟩
theorem big_code {y : MethodName} {bytes : ByteArray} {maxL : Nat} {ret : Option FieldType} (hc : Cond.code y bytes maxL ret ∈ BIG) : GoodIn BIG (Cond.code y bytes maxL ret :: BIG) := fun w hw => by
  rcases List.mem_cons.mp hw with rfl | h1
  · exact big_good _ hc
  · exact big_good _ h1
/-- behind a call -/
theorem r_back {y : MethodName} {rm : Room} {vs rest : LV} {mls : Array Slot} {H : Heap} {locs : List Loc} {cells slots : Nat} {K : Option Value → HV → Prop} {st0 : List Value} {av : List Value} (hL : Lh (k_G κ) (k_nL κ) mls ls) (hW : Wd κ H locs cells slots h) (hc : cells + rm.cells ≤ (k_R κ).cells) (hs : slots + rm.slots ≤ (k_R κ).slots)
    (hr : va_Run (k_p κ) (k_l κ) (k_e κ) (k_R κ) (k_s κ) (k_m κ) (k_a κ) (k_b κ) (k_me κ) (k_c κ) H locs cells slots rm.cells rm.slots (F0 (k_m κ) pc mls st0) (rest.map (cv (k_G κ))) (mQ (k_G κ) h rm K av.toArray) (g_A (k_G κ)))
    (kk : ∀ o h', K o h' → wA cc κ (pc + 3) ls (o.toList ++ rest) h') (O : KO cc κ) : kW κ H locs cells slots pc mls st0 := by
  intro T hT X
  obtain ⟨v, st₀, t, T', L, h0, X', hL2, e1, e2, ⟨⟨r, h', hv, hK, hWo, hn1, hn2⟩, hz, hk⟩, stp⟩ := hr T hT X
  cases hv
  rw [h0] at hz hk
  obtain ⟨w1, w2, w3, w4, w5, w6, w7⟩ := hW
  rw [← e1] at hWo
  have hsz : T'.heap.size = (k_s κ).heap.size + (cells + rm.cells) := by
    have a := hWo.1
    have b := w1.1
    have c := w1.2.1
    omega
  have hS : va_S (g_A (k_G κ)) (k_s κ).heap T'.heap (locs ++ L) := ⟨by rw [hsz]; exact Nat.le_add_right _ _, fun q a b => by rw [e1, hk q (by rw [w3]; omega) b]; exact w2.2.1 q a b, fun q hq => by
    rcases List.mem_append.mp hq with a | a
    · exact w2.2.2 q a
    · exact hL2 q a⟩
  obtain ⟨t2, a1, b1⟩ := kk r h' hK O mls T'.heap (locs ++ L) (cells + rm.cells) (slots + rm.slots) hL ⟨hWo, hS, hsz, by omega, by omega, hc, hs⟩ T' rfl X'
  refine ⟨t2, stp t2 ?_, b1⟩
  have e3 : (List.map (cv (k_G κ)) (r.toList ++ rest)) = (Option.map (cv (k_G κ)) r).toList ++ List.map (cv (k_G κ)) rest := by
    rw [List.map_append]
    cases r <;> rfl
  rw [← e3]
  exact a1
def CallV (own : String) (index : Nat) (y : MethodName) (bytes : ByteArray) (maxL : Nat) (ret : Option FieldType) (n : Nat) : Prop :=
  Cond.methodLink own index y ∈ BIG ∧ Cond.instanceMethod y ∈ BIG ∧ Cond.selects y.cls y y ∈ BIG ∧ Cond.initialized y.cls ∈ BIG ∧ Cond.code y bytes maxL ret ∈ BIG ∧ (y.cls = y.cls ∧ y.cls ≠ "java/lang/invoke/MethodHandle" ∧ y.cls ≠ "java/lang/invoke/VarHandle" ∧ (parseMethodDescriptor y.desc).map (fun d => d.parameters.length) = some n)
def CallS (own : String) (index : Nat) (y : MethodName) (bytes : ByteArray) (maxL : Nat) (ret : Option FieldType) (n : Nat) : Prop :=
  Cond.methodLink own index y ∈ BIG ∧ Cond.static y ∈ BIG ∧ Cond.initialized y.cls ∈ BIG ∧ Cond.code y bytes maxL ret ∈ BIG ∧ (y.cls ≠ "java/lang/invoke/MethodHandle" ∧ y.cls ≠ "java/lang/invoke/VarHandle" ∧ (parseMethodDescriptor y.desc).map (fun d => d.parameters.length) = some n)
def CallSN (own : String) (index : Nat) (y : MethodName) (host : String) (bytes : ByteArray) (maxL : Nat) (ret : Option FieldType) (n : Nat) : Prop :=
  Cond.methodLinkNest own index y host ∈ BIGN ∧ Cond.static y ∈ BIG ∧ Cond.initialized y.cls ∈ BIG ∧ Cond.code y bytes maxL ret ∈ BIG ∧ (y.cls ≠ "java/lang/invoke/MethodHandle" ∧ y.cls ≠ "java/lang/invoke/VarHandle" ∧ (parseMethodDescriptor y.desc).map (fun d => d.parameters.length) = some n)
theorem Pc_of {vs : LV} {mls : Array Slot} {H : Heap} {locs : List Loc} {cells slots : Nat} (O : KO cc κ) (hW : Wd κ H locs cells slots h) {av : List Value} (ha : av = vs.map (cv (k_G κ))) : ∀ U : State, U.heap = H → (k_s κ).WarmedH U.vm → mP (k_G κ) vs h av.toArray U := fun U hU hWm => by
  refine ⟨by rw [ha], by rw [hU]; exact hW.1, ?_⟩
  rw [hU]
  exact Ta_moved hWm (Ta_kept O.2.2.2.2.2.1 hW.2.1)
theorem r_callV {own : String} {index : Nat} {y : MethodName} {bytes : ByteArray} {maxL : Nat} {ret : Option FieldType} {n ci r : Nat} {t : LV} {rm : Room} {X : PM} {K : Option Value → HV → Prop} {T : u_T} {N : Nat}
    (hc : CallV own index y bytes maxL ret n) (hC : Ctr (k_l κ) y bytes maxL ret rm X) (hm : rm.cells = 0 ∧ rm.slots = 0) (ho : k_own κ = own) (hR : rm.frames + 1 ≤ (k_R κ).frames ∧ 8 + (maxL + 11) + rm.locals ≤ (k_R κ).locals) (hst : stw st ≤ 8)
    (hcl : classes[ci]? = some (y.cls, T, N)) (hci : ci < 20) (h1 : r ≠ 1) (hr : hk h r = some ci) (hn : t.length = n) (hX : X (.ref r :: t) h K) (hd : decode cc pc = .ok (.invokevirtual index, 3)) (kk : ∀ o h', K o h' → wA cc κ (pc + 3) ls (o.toList ++ st) h') : wA cc κ pc ls (t.reverse ++ .ref r :: st) h := by
  subst ho
  intro O mls H locs cells slots hL hW
  obtain ⟨c1, c2, c3, c4, c5, c6⟩ := hc
  obtain ⟨q, rfl⟩ := two_of hW hr hci h1
  obtain ⟨fs, e⟩ := hk_cell hr
  have hw := wsOf_get (k_G κ) e
  rw [cE_O _ hci] at hw
  have hrc := va_recv O.2.2.2.2.2.1.1 hW.1.2.2.2 hcl hw
  refine r_back (cc := cc) (y := y) (vs := .ref (q + 2) :: t) (rest := st) (av := .ref (g_base (k_G κ) + q) :: t.map (cv (k_G κ))) (K := K) (rm := rm) hL hW (by rw [hm.1]; exact hW.2.2.2.2.2.1) (by rw [hm.2]; exact hW.2.2.2.2.2.2) ?_ kk O
  refine va_runV (As := t.map (cv (k_G κ))) (C := y.cls) (n := n) ⟨O.1, O.2.1, O.2.2.1, O.2.2.2.1, O.2.2.2.2.1⟩ (hC (k_G κ) (.ref (q + 2) :: t) h K hX) (cwV n O.2.2.2.2.1 ?_ rfl rfl rfl c6 hR) ⟨mP_blind _ _ _, hrc, Pc_of (mls := mls) O hW (by simp [cv, g_mu2])⟩ rfl (by rw [List.length_map]; exact hn) (Lh_size hL) ?_ ?_ hd ⟨by rw [hm.1]; exact hW.2.2.2.2.2.1, by rw [hm.2]; exact hW.2.2.2.2.2.2⟩
  · intro w hw2
    unfold wsV at hw2
    rcases List.mem_append.mp hw2 with h9 | h9
    · simp only [List.mem_cons, List.not_mem_nil, or_false] at h9
      rcases h9 with rfl | rfl | rfl | rfl
      · exact big_good _ c1
      · exact big_good _ c2
      · exact big_good _ c3
      · exact big_good _ c4
    · exact big_code c5 w h9
  · show (t.reverse ++ .ref (q + 2) :: st).map (cv (k_G κ)) = _
    simp [cv, g_mu2]
  · show 2 * 0 + ((st.map (cv (k_G κ))).map fun v => v.category).sum ≤ 8
    rw [stw_cv]; omega
theorem r_callS {own : String} {index : Nat} {y : MethodName} {bytes : ByteArray} {maxL : Nat} {ret : Option FieldType} {n : Nat} {t : LV} {rm : Room} {X : PM} {K : Option Value → HV → Prop}
    (hc : CallS own index y bytes maxL ret n) (hC : Ctr (k_l κ) y bytes maxL ret rm X) (hm : rm.cells = 0 ∧ rm.slots = 0) (ho : k_own κ = own) (hR : rm.frames + 1 ≤ (k_R κ).frames ∧ 8 + (maxL + 11) + rm.locals ≤ (k_R κ).locals) (hst : stw st ≤ 8)
    (hn : t.length = n) (hX : X t h K) (hd : decode cc pc = .ok (.invokestatic index, 3)) (kk : ∀ o h', K o h' → wA cc κ (pc + 3) ls (o.toList ++ st) h') : wA cc κ pc ls (t.reverse ++ st) h := by
  subst ho
  intro O mls H locs cells slots hL hW
  obtain ⟨c1, c2, c4, c5, c6⟩ := hc
  refine r_back (cc := cc) (y := y) (vs := t) (rest := st) (av := t.map (cv (k_G κ))) (K := K) (rm := rm) hL hW (by rw [hm.1]; exact hW.2.2.2.2.2.1) (by rw [hm.2]; exact hW.2.2.2.2.2.2) ?_ kk O
  refine va_runS (As := t.map (cv (k_G κ))) (n := n) ⟨O.1, O.2.1, O.2.2.1, O.2.2.2.1, O.2.2.2.2.1⟩ (hC (k_G κ) t h K hX) (va_cwS n O.2.2.2.2.1 ?_ rfl rfl rfl c6 hR) ⟨mP_blind _ _ _, Pc_of (mls := mls) O hW rfl⟩ rfl (by rw [List.length_map]; exact hn) (Lh_size hL) ?_ ?_ hd ⟨by rw [hm.1]; exact hW.2.2.2.2.2.1, by rw [hm.2]; exact hW.2.2.2.2.2.2⟩
  · intro w hw2
    unfold va_wsS at hw2
    rcases List.mem_append.mp hw2 with h9 | h9
    · simp only [List.mem_cons, List.not_mem_nil, or_false] at h9
      rcases h9 with rfl | rfl | rfl
      · exact big_good _ c1
      · exact big_good _ c2
      · exact big_good _ c4
    · exact big_code c5 w h9
  · show (t.reverse ++ st).map (cv (k_G κ)) = _
    simp
  · show 2 * 0 + ((st.map (cv (k_G κ))).map fun v => v.category).sum ≤ 8
    rw [stw_cv]; omega
theorem r_callSN {own : String} {index : Nat} {y : MethodName} {host : String} {bytes : ByteArray} {maxL : Nat} {ret : Option FieldType} {n : Nat} {t : LV} {rm : Room} {X : PM} {K : Option Value → HV → Prop}
    (hc : CallSN own index y host bytes maxL ret n) (hC : Ctr (k_l κ) y bytes maxL ret rm X) (hm : rm.cells = 0 ∧ rm.slots = 0) (ho : k_own κ = own) (hR : rm.frames + 1 ≤ (k_R κ).frames ∧ 8 + (maxL + 11) + rm.locals ≤ (k_R κ).locals) (hst : stw st ≤ 8)
    (hn : t.length = n) (hX : X t h K) (hd : decode cc pc = .ok (.invokestatic index, 3)) (kk : ∀ o h', K o h' → wA cc κ (pc + 3) ls (o.toList ++ st) h') : wA cc κ pc ls (t.reverse ++ st) h := by
  subst ho
  intro O mls H locs cells slots hL hW
  obtain ⟨c1, c2, c4, c5, c6⟩ := hc
  refine r_back (cc := cc) (y := y) (vs := t) (rest := st) (av := t.map (cv (k_G κ))) (K := K) (rm := rm) hL hW (by rw [hm.1]; exact hW.2.2.2.2.2.1) (by rw [hm.2]; exact hW.2.2.2.2.2.2) ?_ kk O
  refine va_runSN (As := t.map (cv (k_G κ))) (n := n) (host := host) ⟨O.1, O.2.1, O.2.2.1, O.2.2.2.1, O.2.2.2.2.1⟩ (hC (k_G κ) t h K hX) ⟨va_cnB n O.2.2.2.2.1 (big_code c5) rfl rfl rfl (O.2.2.2.2.2.1.2.2.2.2.2 _ c1) (O.2.2.2.2.1 _ c4) c6 hR, O.2.2.2.2.1 _ c2, trivial⟩ ⟨mP_blind _ _ _, Pc_of (mls := mls) O hW rfl⟩ rfl (by rw [List.length_map]; exact hn) (Lh_size hL) ?_ ?_ hd ⟨by rw [hm.1]; exact hW.2.2.2.2.2.1, by rw [hm.2]; exact hW.2.2.2.2.2.2⟩
  · show (t.reverse ++ st).map (cv (k_G κ)) = _
    simp
  · show 2 * 0 + ((st.map (cv (k_G κ))).map fun v => v.category).sum ≤ 8
    rw [stw_cv]; omega
end CU
end
section
section NU
variable {cc : ByteArray} {κ : KT} {pc : Nat} {ls st : LV} {h : HV}
theorem r_oinit {own : String} {index r : Nat} (hw : Cond.methodLink own index Lib.objectInit ∈ BIG) (hi : Cond.instanceMethod Lib.objectInit ∈ BIG) (hc : Cond.code Lib.objectInit ⟨#[0xb1]⟩ 1 none ∈ BIG) (ho : k_own κ = own) (hR : 1 ≤ (k_R κ).frames ∧ 20 ≤ (k_R κ).locals) (hst : stw st ≤ 8) (hd : decode cc pc = .ok (.invokespecial index, 3)) (kk : wA cc κ (pc + 3) ls st h) : wA cc κ pc ls (.ref r :: st) h := by
  subst ho
  intro O mls H locs cells slots hL hW
  exact W.objInit O.1 O.2.1 O.2.2.2.1 (O.2.2.2.2.1 _ hw) (O.2.2.2.2.1 _ hi) (O.2.2.2.2.1 _ hc) rfl (by rw [O.2.2.1]; exact Lh_size hL) rfl hd hR.1 (by show 2 * 0 + ((st.map (cv (k_G κ))).map fun v => v.category).sum + 12 ≤ _; rw [stw_cv]; omega) (kk O mls H locs cells slots hL hW)
/-- behind a new cell -/
theorem Wd_push {H H1 : Heap} {locs : List Loc} {cells slots q : Nat} {c : Nat × List Value} (hW : Wd κ H locs cells slots h) (hb : g_base (k_G κ) ≤ (k_s κ).heap.size) (hP : va_P (g_D (k_G κ)) classes (wsOf (k_G κ) h ++ [(q, cE (k_G κ) c)]) H1) (hD : va_D (g_A (k_G κ)) (wsOf (k_G κ) h ++ [(q, cE (k_G κ) c)]))
    (hS : va_S (g_A (k_G κ)) H H1 locs) (hz : H1.size ≤ (k_s κ).heap.size + (cells + 1)) (hc : cells + 1 ≤ (k_R κ).cells) (hs : slots + c.2.length ≤ (k_R κ).slots) : q = g_mu (k_G κ) h.length ∧ Wd κ H1 locs (cells + 1) (slots + c.2.length) (h ++ [c]) := by
  obtain ⟨⟨w1, w2, w3, w4⟩, w5, w6, w7, w8, w9, w10⟩ := hW
  have hlast : (wsOf (k_G κ) h ++ [(q, cE (k_G κ) c)])[(wsOf (k_G κ) h).length]? = some (q, cE (k_G κ) c) := by simp
  have hlen : (wsOf (k_G κ) h).length = h.length - 2 := by
    have : ∀ (g : HV) (k : Nat), (wsAt (k_G κ) k g).length = g.length := fun g => by
      induction g with
      | nil => intro k; rfl
      | cons a t ih => intro k; simp [wsAt, ih]
    unfold wsOf
    rw [this, List.length_drop]
  have hq1 : q < H1.size := (hP _ _ hlast).lt
  have hq2 : g_base (k_G κ) ≤ q := hD.2 _ _ hlast
  have hq : q = H.size := by
    rcases Nat.lt_or_ge q H.size with a | a
    · have hi : q - g_base (k_G κ) < (wsOf (k_G κ) h).length := by omega
      obtain ⟨p, hp⟩ : ∃ p, (wsOf (k_G κ) h)[q - g_base (k_G κ)]? = some p := ⟨_, List.getElem?_eq_getElem hi⟩
      have e1 := (wsOf_len (k_G κ) h hp).1
      have e2 := hD.1 (q - g_base (k_G κ)) (wsOf (k_G κ) h).length p _ (by rw [List.getElem?_append_left hi]; exact hp) hlast (by rw [e1]; show _ = q; omega)
      omega
    · omega
  have hqm : q = g_mu (k_G κ) h.length := by
    obtain ⟨z, hz2⟩ : ∃ z, h.length = z + 2 := ⟨h.length - 2, by omega⟩
    rw [hz2, g_mu2]
    omega
  have hqb : q = g_base (k_G κ) + (h.length - 2) := by omega
  refine ⟨hqm, ⟨by rw [List.length_append]; show H1.size + 2 = _ + (h.length + 1); omega, by rw [List.length_append]; omega, by rw [List.getElem?_append_left (by omega)]; exact w3, ?_⟩, w5.go hS, by omega, by rw [List.length_append]; show h.length + 1 = _; omega, by rw [hsz_app]; omega, hc, hs⟩
  rw [wsOf_app _ w2, ← hqb]
  exact hP
theorem base_le {H : Heap} {locs : List Loc} {cells slots : Nat} (hW : Wd κ H locs cells slots h) : ∀ q, H.size ≤ q → g_A (k_G κ) q := fun q hq => by
  have a := hW.1.1
  have b := hW.1.2.1
  show g_base _ ≤ q
  omega
def NewOK (own : String) (index ci : Nat) (fs : List Value) : Prop :=
  ∃ (C : String) (T : u_T) (N : Nat) (ty0 : Nat → FieldType), ci < 20 ∧ classes[ci]? = some (C, T, N) ∧ (∀ w ∈ u_ws C T N, w ∈ BIG) ∧ (∀ k, k < N → parseFieldDescriptor (T k).2.2.1 = some (ty0 k)) ∧ Cond.classLink own index C ∈ BIG ∧ Cond.instantiable C N ∈ BIG ∧ Cond.initialized C ∈ BIG ∧ (∀ G : GT, fs.map (cv G) = fs) ∧ fs.length = N ∧ ∀ j, j < N → defaultValue (ty0 j) = vp_V fs j
theorem r_new {own : String} {index ci : Nat} {fs : List Value} (hF : NewOK own index ci fs) (ho : k_own κ = own) (h1 : h.length + 1 ≤ k_n0 κ + (k_R κ).cells) (h2 : hsz h + fs.length ≤ k_t0 κ + (k_R κ).slots) (hd : decode cc pc = .ok (.new index, 3)) (kk : wA cc κ (pc + 3) ls (.ref h.length :: st) (h ++ [(ci, fs)])) : wA cc κ pc ls st h := by
  subst ho
  intro O mls H locs cells slots hL hW
  obtain ⟨C, T, N, ty0, f1, f2, f3, f4, f5, f6, f7, f8, f9, f10⟩ := hF
  have c1 : cells + 1 ≤ (k_R κ).cells := by have := hW.2.2.2.1; omega
  have c2 : slots + fs.length ≤ (k_R κ).slots := by have := hW.2.2.2.2.1; omega
  refine va_new (fs := fs) O.1 O.2.1 O.2.2.2.2.1 f3 ty0 f4 O.2.2.2.1 (O.2.2.2.2.1 _ f5) (O.2.2.2.2.1 _ f6) (O.2.2.2.2.1 _ f7) O.2.2.2.2.2.1.1 hW.1.2.2.2 (wsOf_D _ h) hW.2.1.start (base_le hW) f2 f10 c1 (by rw [← f9]; exact c2) hd (fun q H1 hP hD hS => ?_)
  refine kW_size fun hz => ?_
  have e : cE (k_G κ) (ci, fs) = .inr (ci, fs) := by rw [cE_O _ f1, f8]
  rw [← e] at hP hD
  obtain ⟨g1, g2⟩ := Wd_push hW O.2.2.2.2.2.1.2.2.2.2.1 hP hD hS hz c1 c2
  have := kk O mls H1 locs (cells + 1) (slots + fs.length) hL g2
  rw [f9] at this
  rw [g1]
  exact this
theorem toI_rep (n : Nat) : (fun j => c_toI ((List.replicate n (Value.int 0)).getD j .null)) = fun _ => 0 := by
  funext j
  rw [List.getD_eq_getElem?_getD, List.getElem?_replicate]
  split <;> rfl
theorem r_newI {n : Nat} {x : Int32} (hw : Cond.arrayClass .int ∈ BIG) (h0 : ¬ x < 0) (hx : x.toNatClampNeg = n) (hn : n ≤ 100000000) (h1 : h.length + 1 ≤ k_n0 κ + (k_R κ).cells) (h2 : hsz h + n ≤ k_t0 κ + (k_R κ).slots) (hd : decode cc pc = .ok (.newarray .int, 2)) (kk : wA cc κ (pc + 2) ls (.ref h.length :: st) (h ++ [(20, List.replicate n (.int 0))])) : wA cc κ pc ls (.int x :: st) h := by
  intro O mls H locs cells slots hL hW
  have c1 : cells + 1 ≤ (k_R κ).cells := by have := hW.2.2.2.1; omega
  have c2 : slots + n ≤ (k_R κ).slots := by have := hW.2.2.2.2.1; omega
  refine va_newa (atype := .int) (ty := .int) (N' := n) (a0 := (n, .inl fun _ => 0)) O.1 O.2.1 (O.2.2.2.2.1 _ hw) rfl O.2.2.2.2.2.1.1 hW.1.2.2.2 (wsOf_D _ h) hW.2.1.start (base_le hW) (fun cA => rfl) h0 hx (by show n * 4 ≤ _; omega) c1 c2 hd (fun q cA H1 hK hP hD hS => ?_)
  refine kW_size fun hz => ?_
  have e2 : cA = g_I (k_G κ) := by
    have a := (hK.2 3 (cA, .int) (by rfl)).2
    have b := (hK.2 0 (g_I (k_G κ), .int) (by rfl)).2
    exact Option.some.inj (a.symm.trans b)
  have e : cE (k_G κ) (20, List.replicate n (.int 0)) = .inl (cA, n, .inl fun _ => 0) := by rw [cE_I, toI_rep, List.length_replicate, e2]
  rw [← e] at hP hD
  obtain ⟨g1, g2⟩ := Wd_push (c := (20, List.replicate n (.int 0))) hW O.2.2.2.2.2.1.2.2.2.2.1 hP hD hS hz c1 (by rw [List.length_replicate]; exact c2)
  have := kk O mls H1 locs (cells + 1) _ hL g2
  rw [List.length_replicate] at this
  rw [g1]
  exact this
theorem r_newZ {n : Nat} {x : Int32} (hw : Cond.arrayClass .boolean ∈ BIG) (h0 : ¬ x < 0) (hx : x.toNatClampNeg = n) (hn : n ≤ 100000000) (h1 : h.length + 1 ≤ k_n0 κ + (k_R κ).cells) (h2 : hsz h + n ≤ k_t0 κ + (k_R κ).slots) (hd : decode cc pc = .ok (.newarray .boolean, 2)) (kk : wA cc κ (pc + 2) ls (.ref h.length :: st) (h ++ [(21, List.replicate n (.int 0))])) : wA cc κ pc ls (.int x :: st) h := by
  intro O mls H locs cells slots hL hW
  have c1 : cells + 1 ≤ (k_R κ).cells := by have := hW.2.2.2.1; omega
  have c2 : slots + n ≤ (k_R κ).slots := by have := hW.2.2.2.2.1; omega
  refine va_newa (atype := .boolean) (ty := .boolean) (N' := n) (a0 := (n, .inl fun _ => 0)) O.1 O.2.1 (O.2.2.2.2.1 _ hw) rfl O.2.2.2.2.2.1.1 hW.1.2.2.2 (wsOf_D _ h) hW.2.1.start (base_le hW) (fun cA => rfl) h0 hx (by show n * 1 ≤ _; omega) c1 c2 hd (fun q cA H1 hK hP hD hS => ?_)
  refine kW_size fun hz => ?_
  have e2 : cA = g_Z (k_G κ) := by
    have a := (hK.2 3 (cA, .boolean) (by rfl)).2
    have b := (hK.2 1 (g_Z (k_G κ), .boolean) (by rfl)).2
    exact Option.some.inj (a.symm.trans b)
  have e : cE (k_G κ) (21, List.replicate n (.int 0)) = .inl (cA, n, .inl fun _ => 0) := by rw [cE_Z, toI_rep, List.length_replicate, e2]
  rw [← e] at hP hD
  obtain ⟨g1, g2⟩ := Wd_push (c := (21, List.replicate n (.int 0))) hW O.2.2.2.2.2.1.2.2.2.2.1 hP hD hS hz c1 (by rw [List.length_replicate]; exact c2)
  have := kk O mls H1 locs (cells + 1) _ hL g2
  rw [List.length_replicate] at this
  rw [g1]
  exact this
/-- System.arraycopy of ints -/
def cpyL (src dst : List Value) (sp dp n : Nat) : List Value := (List.range dst.length).map fun k => if dp ≤ k ∧ k < dp + n then src.getD (sp + (k - dp)) .null else dst.getD k .null
theorem cpyL_toI {src dst : List Value} {sp dp n : Nat} (hd : dp + n ≤ dst.length) : (fun j => c_toI ((cpyL src dst sp dp n).getD j .null)) = va_cpy (fun j => c_toI (src.getD j .null)) (fun j => c_toI (dst.getD j .null)) sp dp n := by
  funext k
  unfold va_cpy cpyL
  rw [List.getD_eq_getElem?_getD, List.getElem?_map]
  by_cases hk : k < dst.length
  · rw [List.getElem?_range hk]
    simp only [Option.map_some, Option.getD_some]
    split <;> rfl
  · rw [List.getElem?_eq_none (by rw [List.length_range]; omega), if_neg (by omega)]
    show _ = c_toI (dst.getD k .null)
    rw [List.getD_eq_getElem?_getD, List.getElem?_eq_none (by omega)]
    rfl
theorem r_copy {own : String} {index a b : Nat} {x y z : Int32} {src dst : List Value} (hw : Cond.methodLink own index arraycopyName ∈ BIG) (hwn : Cond.native arraycopyName ∈ BIG) (hws : Cond.static arraycopyName ∈ BIG) (hwi : Cond.initialized "java/lang/System" ∈ BIG) (ho : k_own κ = own) (hR : 1 ≤ (k_R κ).frames ∧ 26 ≤ (k_R κ).locals) (hst : stw st ≤ 8)
    (ha : h[a]? = some (20, src)) (hb : h[b]? = some (20, dst)) (a2 : 2 ≤ a) (b2 : 2 ≤ b) (h1 : ¬ x < 0) (h2 : ¬ y < 0) (h3 : ¬ z < 0) (h4 : x.toNatClampNeg + z.toNatClampNeg ≤ src.length) (h5 : y.toNatClampNeg + z.toNatClampNeg ≤ dst.length) (hd : decode cc pc = .ok (.invokestatic index, 3))
    (kk : wA cc κ (pc + 3) ls st (h.set b (20, cpyL src dst x.toNatClampNeg y.toNatClampNeg z.toNatClampNeg))) : wA cc κ pc ls (.int z :: .int y :: .ref b :: .int x :: .ref a :: st) h := by
  subst ho
  intro O mls H locs cells slots hL hW
  obtain ⟨qa, rfl⟩ : ∃ q, a = q + 2 := ⟨a - 2, by omega⟩
  obtain ⟨qb, rfl⟩ : ∃ q, b = q + 2 := ⟨b - 2, by omega⟩
  have wa := wsOf_get (k_G κ) ha
  have wb := wsOf_get (k_G κ) hb
  rw [cE_I] at wa wb
  show kW κ H locs cells slots pc mls (.int z :: .int y :: .ref (g_mu (k_G κ) (qb + 2)) :: .int x :: .ref (g_mu (k_G κ) (qa + 2)) :: st.map (cv (k_G κ)))
  rw [g_mu2, g_mu2]
  refine va_copyi O.1 O.2.1 (by rw [O.2.2.1]; exact (Lh_size hL).symm) O.2.2.2.1 (O.2.2.2.2.1 _ hw) (O.2.2.2.2.1 _ hwn) (O.2.2.2.2.1 _ hws) (O.2.2.2.2.1 _ hwi) O.2.2.2.2.2.1.1 hW.1.2.2.2 (wsOf_D _ h) hW.2.1.start qa qb 0 0 wa wb rfl rfl rfl h1 h2 h3 h4 h5 (fun i _ => rfl) hR.1 ?_ hd (fun H1 locs1 hP hD hS => ?_)
  · rw [stw_cv]
    show stw st + (7 + 11) ≤ _
    omega
  refine kW_size fun hz => ?_
  have hlen : (cpyL src dst x.toNatClampNeg y.toNatClampNeg z.toNatClampNeg).length = dst.length := by unfold cpyL; simp
  have e : cE (k_G κ) (20, cpyL src dst x.toNatClampNeg y.toNatClampNeg z.toNatClampNeg) = .inl (g_I (k_G κ), dst.length, .inl (va_cpy (fun j => c_toI (src.getD j .null)) (fun j => c_toI (dst.getD j .null)) x.toNatClampNeg y.toNatClampNeg z.toNatClampNeg)) := by rw [cE_I, cpyL_toI h5, hlen]
  rw [← e] at hP
  rw [wsOf_set] at hP
  obtain ⟨⟨w1, w2, w3, w4⟩, w5, w6, w7, w8, w9, w10⟩ := hW
  have es : H1.size = H.size := Nat.le_antisymm (by rw [w6]; exact hz) hS.1
  refine kk O mls H1 locs1 cells slots hL ⟨⟨by rw [List.length_set, es]; exact w1, by rw [List.length_set]; exact w2, by rw [List.getElem?_set_ne (by omega)]; exact w3, hP⟩, w5.go hS, by rw [es]; exact w6, by rw [List.length_set]; exact w7, ?_, w9, w10⟩
  rw [hsz_set h (qb + 2) _ _ hb hlen]
  exact w8
theorem r_mna {own : String} {index n : Nat} {x : Int32} (hw : Cond.classLink own index "[[I" ∈ BIG) (hwa : Cond.arrayClass .int ∈ BIG) (ho : k_own κ = own) (h0 : ¬ x < 0) (hx : x.toNatClampNeg = n) (hn : n ≤ 100000000) (h1 : h.length + 3 ≤ k_n0 κ + (k_R κ).cells) (h2 : hsz h + (2 + 2 * n) ≤ k_t0 κ + (k_R κ).slots) (hd : decode cc pc = .ok (.multianewarray index 2, 4))
    (kk : wA cc κ (pc + 4) ls (.ref h.length :: st) (h ++ [(22, [.ref (h.length + 1), .ref (h.length + 2)])] ++ [(20, List.replicate n (.int 0))] ++ [(20, List.replicate n (.int 0))])) : wA cc κ pc ls (.int x :: .int 2 :: st) h := by
  subst ho
  subst hx
  intro O mls H locs cells slots hL hW
  have c1 : cells + 3 ≤ (k_R κ).cells := by have := hW.2.2.2.1; omega
  have c2 : slots + (2 + 2 * x.toNatClampNeg) ≤ (k_R κ).slots := by have := hW.2.2.2.2.1; omega
  intro T hT X
  have two : (2 : Int32).toNatClampNeg = 2 := by decide
  obtain ⟨vm₁, cA, comp, -, fA, fC, -, -, X', step⟩ := X.multianewarray2F (ty := .int) O.1 O.2.2.2.1 (O.2.2.2.2.1 _ hw) O.2.2.2.2.2.1.2.2.2.1 (O.2.2.2.2.1 _ hwa) (g := F0 (k_m κ) pc mls (.int x :: .int 2 :: st.map (cv (k_G κ)))) rfl (by rw [O.2.1]; exact hd) rfl (by decide) h0 (by decide) (by show _ * 4 ≤ _; omega) (by omega) rfl rfl (by rw [two]; omega) (by rw [two]; omega)
  rw [two] at X' step
  have ecomp : comp = g_I (k_G κ) := Option.some.inj (fC.symm.trans (O.2.2.2.2.2.1.1.2 0 (g_I (k_G κ), .int) rfl).2)
  have ecA : cA = g_R (k_G κ) := Option.some.inj (fA.symm.trans (O.2.2.2.2.2.1.1.2 2 (g_R (k_G κ), .array .int) rfl).2)
  subst ecomp
  subst ecA
  generalize hF : Jvm.Free.Multi.fill (T.setVm vm₁) (g_R (k_G κ)) (g_I (k_G κ)) 2 x.toNatClampNeg (defaultValue .int) 2 = F at X' step
  have hTh : (T.setVm vm₁).heap = H := hT
  obtain ⟨f1, f2, -, -⟩ := Jvm.Free.Multi.fill_facts (T.setVm vm₁) (g_R (k_G κ)) (g_I (k_G κ)) 2 x.toNatClampNeg (defaultValue .int) 2
  rw [hF, hTh] at f1 f2
  have hold : ∀ a : Nat, a < H.size → F.heap[a]? = H[a]? := fun a ha => by
    have := Jvm.Free.Multi.fill_old (T.setVm vm₁) (g_R (k_G κ)) (g_I (k_G κ)) 2 x.toNatClampNeg (defaultValue .int) (a := a) (by rw [hTh]; exact ha) 2
    rw [hF, hTh] at this
    exact this
  have hrow : ∀ j : Nat, j < 2 → F.heap[H.size + 1 + j]? = some (vp_cell (g_I (k_G κ)) (x.toNatClampNeg, .inl fun _ => 0)) := fun j hj => by
    have := Jvm.Free.Multi.fill_inner (T.setVm vm₁) (g_R (k_G κ)) (g_I (k_G κ)) 2 x.toNatClampNeg (defaultValue .int) 2 j hj
    rw [hF, hTh] at this
    rw [this, vp_cell_i, ← arrV_new]
    rfl
  obtain ⟨⟨w1, w2, w3, w4⟩, w5, w6, w7, w8, w9, w10⟩ := hW
  obtain ⟨z, hz⟩ : ∃ z, h.length = z + 2 := ⟨h.length - 2, by omega⟩
  have hsz1 : H.size = g_base (k_G κ) + z := by omega
  have e3 : ((h ++ [(22, [Value.ref (h.length + 1), .ref (h.length + 2)])] ++ [(20, List.replicate x.toNatClampNeg (.int 0))] ++ [(20, List.replicate x.toNatClampNeg (.int 0))] : HV)).length = h.length + 3 := by simp
  have hout : Jvm.Free.Multi.outerC (g_R (k_G κ)) 2 H.size 2 = vp_cell (g_R (k_G κ)) (2, .inr (.inr (.inr (.inr (fun j => c_toR (k_G κ) (([.ref (h.length + 1), .ref (h.length + 2)] : List Value).getD j .null)))))) := by
    rw [vp_cell_q]
    show (({ cls := g_R (k_G κ), slots := Array.replicate 2 .null, vm := .none } : Cell).setSlot 0 (.ref (H.size + 1 + 0))).setSlot 1 (.ref (H.size + 1 + 1)) = _
    rw [arrV_new, arrV_store, arrV_store]
    unfold arrV
    congr 1
    congr 1
    funext j
    have e1 : g_mu (k_G κ) (h.length + 1) = H.size + 1 := by rw [hz, show z + 2 + 1 = (z + 1) + 2 by omega, g_mu2]; omega
    have e2 : g_mu (k_G κ) (h.length + 2) = H.size + 2 := by rw [hz, show z + 2 + 2 = (z + 2) + 2 by omega, g_mu2]; omega
    match j with
    | ⟨0, _⟩ => simp [updV, c_toR, va_rf, e1]
    | ⟨1, _⟩ => simp [updV, c_toR, va_rf, e2]
  have hP0 : va_P (g_D (k_G κ)) classes (wsOf (k_G κ) h) F.heap := w4.kept (fun k9 q hx => hold q.1 ((w4 k9 q hx).lt))
  have one : ∀ (q : Nat) (e : va_E), va_at (g_D (k_G κ)) classes (q, e) F.heap → va_P (g_D (k_G κ)) classes [(q, e)] F.heap := fun q e hq k9 y hy => by
    have h0 : k9 < 1 := (List.getElem?_eq_some_iff.mp hy).1
    rw [show k9 = 0 by omega] at hy
    cases hy
    exact hq
  have hWo : Wo (k_G κ) (h ++ [(22, [.ref (h.length + 1), .ref (h.length + 2)])] ++ [(20, List.replicate x.toNatClampNeg (.int 0))] ++ [(20, List.replicate x.toNatClampNeg (.int 0))]) F.heap := by
    refine ⟨by rw [e3, f1]; omega, by rw [e3]; omega, ?_, ?_⟩
    · rw [List.append_assoc, List.append_assoc, List.getElem?_append_left (by omega)]
      exact w3
    · rw [wsOf_app _ (by simp), wsOf_app _ (by simp; try omega), wsOf_app _ w2]
      refine ((hP0.app (one _ _ ?_)).app (one _ _ ?_)).app (one _ _ ?_)
      · rw [cE_R, show g_base (k_G κ) + (h.length - 2) = H.size by omega]
        show F.heap[H.size]? = some (vp_cell _ _)
        rw [f2, hout]
        rfl
      · rw [cE_I, toI_rep, List.length_replicate, show g_base (k_G κ) + ((h ++ [(22, [Value.ref (h.length + 1), .ref (h.length + 2)])] : HV).length - 2) = H.size + 1 + 0 by simp; omega]
        exact hrow 0 (by omega)
      · rw [cE_I, toI_rep, List.length_replicate, show g_base (k_G κ) + ((h ++ [(22, [Value.ref (h.length + 1), .ref (h.length + 2)])] ++ [(20, List.replicate x.toNatClampNeg (.int 0))] : HV).length - 2) = H.size + 1 + 1 by simp; omega]
        exact hrow 1 (by omega)
  obtain ⟨t, a, b⟩ := kk O mls F.heap locs (cells + 1 + 2) (slots + 2 + 2 * x.toNatClampNeg) hL ⟨hWo, ⟨by rw [f1, w6]; omega, fun q a b => by rw [hold q (by rw [w6]; omega)]; exact w5.2.1 q a b, w5.2.2⟩, by rw [f1, w6]; omega, by rw [e3]; omega, by simp only [hsz_app, List.length_replicate]; show hsz h + 2 + _ + _ = _; omega, by omega, by omega⟩ F rfl X'
  refine ⟨t, step t ?_, b⟩
  have e5 : (T.heap.size : Nat) = g_mu (k_G κ) h.length := by rw [hT, hz, g_mu2]; omega
  rw [e5]
  exact a
def CallI (own : String) (index : Nat) (y : MethodName) (bytes : ByteArray) (maxL : Nat) (n : Nat) : Prop :=
  (Cond.methodLink own index y ∈ BIG ∨ ∃ host, Cond.methodLinkNest own index y host ∈ BIGN) ∧ Cond.instanceMethod y ∈ BIG ∧ Cond.initialized y.cls ∈ BIG ∧ Cond.code y bytes maxL none ∈ BIG ∧ y.name = "<init>" ∧ (y.cls ≠ "java/lang/invoke/MethodHandle" ∧ y.cls ≠ "java/lang/invoke/VarHandle" ∧ (parseMethodDescriptor y.desc).map (fun d => d.parameters.length) = some n)
theorem r_callI {own : String} {index : Nat} {y : MethodName} {bytes : ByteArray} {maxL : Nat} {n r : Nat} {t : LV} {rm : Room} {X : PM} {K : Option Value → HV → Prop}
    (hc : CallI own index y bytes maxL n) (hC : Ctr (k_l κ) y bytes maxL none rm X) (ho : k_own κ = own) (hR : rm.frames + 1 ≤ (k_R κ).frames ∧ 8 + (maxL + 11) + rm.locals ≤ (k_R κ).locals) (hst : stw st ≤ 8)
    (hm1 : h.length + rm.cells ≤ k_n0 κ + (k_R κ).cells) (hm2 : hsz h + rm.slots ≤ k_t0 κ + (k_R κ).slots) (hn : t.length = n) (hX : X (.ref r :: t) h K) (hd : decode cc pc = .ok (.invokespecial index, 3)) (kk : ∀ o h', K o h' → wA cc κ (pc + 3) ls (o.toList ++ st) h') : wA cc κ pc ls (t.reverse ++ .ref r :: st) h := by
  subst ho
  intro O mls H locs cells slots hL hW
  obtain ⟨c1, c2, c4, c5, c6, c7⟩ := hc
  have g1 : cells + rm.cells ≤ (k_R κ).cells := by have := hW.2.2.2.1; omega
  have g2 : slots + rm.slots ≤ (k_R κ).slots := by have := hW.2.2.2.2.1; omega
  refine r_back (cc := cc) (y := y) (vs := .ref r :: t) (rest := st) (av := (.ref (g_mu (k_G κ) r)) :: t.map (cv (k_G κ))) (K := K) (rm := rm) hL hW g1 g2 ?_ kk O
  have hpre : PreS (k_s κ) H (mP (k_G κ) (.ref r :: t) h) (.ref (g_mu (k_G κ) r) :: t.map (cv (k_G κ))) := ⟨mP_blind _ _ _, Pc_of (mls := mls) O hW rfl⟩
  have hstk : (t.reverse ++ .ref r :: st).map (cv (k_G κ)) = (t.map (cv (k_G κ))).reverse ++ .ref (g_mu (k_G κ) r) :: st.map (cv (k_G κ)) := by simp [cv]
  have hw8 : 2 * (F0 (k_m κ) pc mls ((t.reverse ++ .ref r :: st).map (cv (k_G κ)))).monitorRoom + ((st.map (cv (k_G κ))).map fun v => v.category).sum ≤ 8 := by
    show 2 * 0 + ((st.map (cv (k_G κ))).map fun v => v.category).sum ≤ 8
    rw [stw_cv]; omega
  rcases c1 with c1 | ⟨host, c1⟩
  · exact va_runI (As := t.map (cv (k_G κ))) (n := n) ⟨O.1, O.2.1, O.2.2.1, O.2.2.2.1, O.2.2.2.2.1⟩ (hC (k_G κ) (.ref r :: t) h K hX) (cwI n O.2.2.2.2.1 (big_code c5) rfl rfl rfl (O.2.2.2.2.1 _ c4) (O.2.2.2.2.1 _ c1) (O.2.2.2.2.1 _ c2) c6 c7 hR) hpre rfl (by rw [List.length_map]; exact hn) (Lh_size hL) hstk hw8 hd ⟨g1, g2⟩
  · exact va_runIN (As := t.map (cv (k_G κ))) (n := n) (host := host) ⟨O.1, O.2.1, O.2.2.1, O.2.2.2.1, O.2.2.2.2.1⟩ (hC (k_G κ) (.ref r :: t) h K hX) ⟨va_cnB n O.2.2.2.2.1 (big_code c5) rfl rfl rfl (O.2.2.2.2.2.1.2.2.2.2.2 _ c1) (O.2.2.2.2.1 _ c4) c7 hR, c6, O.2.2.2.2.1 _ c2⟩ hpre rfl (by rw [List.length_map]; exact hn) (Lh_size hL) hstk hw8 hd ⟨g1, g2⟩
theorem r_ret {i : Instr} {o : Option Value} (hrt : retI (k_rt κ) i o) (hd : decode cc pc = .ok (i, 1)) (hr : k_ret κ o h) : wA cc κ pc ls o.toList h := fun O mls H locs cells slots hL hW => by
  have e : (o.toList).map (cv (k_G κ)) = o.toList.map (cv (k_G κ)) := rfl
  exact O.2.2.2.2.2.2 pc i o mls H locs cells slots h hrt hd hW hr
/-- switches: the body at which the case of a value begins -/
def ixI : List (Int32 × Nat) → Nat → Int → Nat
  | [], d, _ => d
  | (k, i) :: t, d, v => if v = k.toInt then i else ixI t d v
def ixOf : List (Int32 × Nat) → Nat → Int32 → Nat
  | [], d, _ => d
  | (k, i) :: t, d, v => if v = k then i else ixOf t d v
theorem ix_eq (d : Nat) (v : Int32) : ∀ tbl : List (Int32 × Nat), ixI tbl d v.toInt = ixOf tbl d v
  | [] => rfl
  | (k, i) :: t => by
    simp only [ixI, ixOf, ix_eq d v t, Int32.toInt_inj]
def tsOK (pc : Nat) (dflt lo hi : Int) (offs : List Int) (tbl : List (Int32 × Nat)) (d : Nat) (pcs : List Nat) : Bool :=
  (List.range offs.length).all (fun j => decide ((pc : Int) + offs.getD j 0 = ((pcs.getD (ixI tbl d (lo + j)) 0 : Nat) : Int))) && tbl.all (fun q => decide (lo ≤ q.1.toInt) && decide (q.1.toInt ≤ hi)) && decide ((offs.length : Int) = hi - lo + 1) && decide ((pc : Int) + dflt = ((pcs.getD d 0 : Nat) : Int))
theorem ixI_out (d : Nat) (v lo hi : Int) (hv : v < lo ∨ hi < v) : ∀ tbl : List (Int32 × Nat), (∀ q ∈ tbl, lo ≤ q.1.toInt ∧ q.1.toInt ≤ hi) → ixI tbl d v = d
  | [], _ => rfl
  | (k, i) :: t, h => by
    have h1 := h (k, i) List.mem_cons_self
    simp only at h1
    simp only [ixI]
    rw [if_neg (by omega), ixI_out d v lo hi hv t fun q hq => h q (List.mem_cons_of_mem _ hq)]
theorem r_tsw {dflt lo hi : Int} {offs : Array Int} {len : Nat} {x : Int32} {tbl : List (Int32 × Nat)} {d : Nat} {pcs : List Nat} (hd : decode cc pc = .ok (.tableswitch dflt lo hi offs, len)) (hok : tsOK pc dflt lo hi offs.toList tbl d pcs = true) (kk : wA cc κ (pcs.getD (ixOf tbl d x) 0) ls st h) : wA cc κ pc ls (.int x :: st) h := by
  intro O mls H locs cells slots hL hW
  unfold tsOK at hok
  simp only [Bool.and_eq_true, decide_eq_true_eq, List.all_eq_true, List.mem_range] at hok
  obtain ⟨⟨⟨h1, h2⟩, h3⟩, h4⟩ := hok
  have k2 := kk O mls H locs cells slots hL hW
  rw [← ix_eq] at k2
  by_cases hv : x.toInt < lo ∨ hi < x.toInt
  · rw [ixI_out d x.toInt lo hi hv tbl h2] at k2
    exact lv_tableOut O.1 O.2.1 hd hv h4 k2
  · have hj : (x.toInt - lo).toNat < offs.toList.length := by omega
    have h5 := h1 _ hj
    rw [show lo + ((x.toInt - lo).toNat : Int) = x.toInt by omega] at h5
    refine lv_tableIn O.1 O.2.1 hd (fun q => hv (Or.inl q)) (fun q => hv (Or.inr q)) (off := offs.toList.getD (x.toInt - lo).toNat 0) ?_ h5 k2
    rw [← Array.getElem?_toList, List.getD_eq_getElem?_getD, List.getElem?_eq_getElem hj]
    rfl
def lsOK (pc : Nat) (dflt : Int) (ps : List (Int × Int)) (tbl : List (Int32 × Nat)) (d : Nat) (pcs : List Nat) : Bool :=
  (ps.zip (ps.drop 1)).all (fun (a, next) => a.1 < next.1) && decide (ps.map (fun q => ((q.1, (pc : Int) + q.2) : Int × Int)) = tbl.map (fun q => ((q.1.toInt, ((pcs.getD q.2 0 : Nat) : Int)) : Int × Int))) && decide ((pc : Int) + dflt = ((pcs.getD d 0 : Nat) : Int))
theorem ls_off (pc : Nat) (dflt v : Int) (d : Nat) (pcs : List Nat) (hd : (pc : Int) + dflt = ((pcs.getD d 0 : Nat) : Int)) : ∀ (ps : List (Int × Int)) (tbl : List (Int32 × Nat)), ps.map (fun q => ((q.1, (pc : Int) + q.2) : Int × Int)) = tbl.map (fun q => ((q.1.toInt, ((pcs.getD q.2 0 : Nat) : Int)) : Int × Int)) → (pc : Int) + Op.lookupswitch.offset ps dflt v = ((pcs.getD (ixI tbl d v) 0 : Nat) : Int)
  | [], [], _ => by simpa [Op.lookupswitch.offset, ixI] using hd
  | [], _ :: _, h => by simp at h
  | _ :: _, [], h => by simp at h
  | (a, b) :: ps, (k, i) :: tbl, h => by
    simp only [List.map_cons, List.cons.injEq, Prod.mk.injEq] at h
    obtain ⟨⟨h1, h2⟩, h3⟩ := h
    have ih := ls_off pc dflt v d pcs hd ps tbl h3
    subst h1
    by_cases e : v = k.toInt
    · subst e
      simpa [Op.lookupswitch.offset, ixI] using h2
    · have e2 : ¬ k.toInt = v := fun q => e q.symm
      simpa [Op.lookupswitch.offset, ixI, e, e2] using ih
theorem r_lsw {dflt : Int} {ps : Array (Int × Int)} {len : Nat} {x : Int32} {tbl : List (Int32 × Nat)} {d : Nat} {pcs : List Nat} (hd : decode cc pc = .ok (.lookupswitch dflt ps, len)) (hok : lsOK pc dflt ps.toList tbl d pcs = true) (kk : wA cc κ (pcs.getD (ixOf tbl d x) 0) ls st h) : wA cc κ pc ls (.int x :: st) h := by
  intro O mls H locs cells slots hL hW
  unfold lsOK at hok
  simp only [Bool.and_eq_true, decide_eq_true_eq] at hok
  obtain ⟨⟨h1, h2⟩, h4⟩ := hok
  have k2 := kk O mls H locs cells slots hL hW
  rw [← ix_eq] at k2
  exact lv_lookup O.1 O.2.1 hd h1 rfl (ls_off pc dflt x.toInt d pcs h4 _ _ h2) k2
end NU
end
section
/-! THE MEANING OF JAVA, as transformers of what shall hold behind; expressions PX, statements PS; and how bytecode carries them (Ev: pushes a value, Eo: pushes what a call gives back, Ea: pushes arguments, Cd: branches, Ex: carries out) -/
abbrev PX (α : Type) : Type := LV → HV → (α → HV → Prop) → Prop
abbrev PS : Type := (LV → HV → Prop) → (LV → HV → Prop) → (LV → HV → Prop) → (Option Value → HV → Prop) → LV → HV → Prop
section PD
variable {α β γ : Type}
def eV (v : α) : PX α := fun _ h K => K v h
def eI (i : Nat) : PX Int32 := fun ls h K => ∃ x, ls[i]? = some (.int x) ∧ K x h
def eL (i : Nat) : PX Int64 := fun ls h K => ∃ x, ls[i]? = some (.long x) ∧ K x h
def eR (i : Nat) : PX Nat := fun ls h K => ∃ x, ls[i]? = some (.ref x) ∧ K x h
def e1 (f : α → β) (a : PX α) : PX β := fun ls h K => a ls h fun x h1 => K (f x) h1
def e2 (f : α → β → γ) (a : PX α) (b : PX β) : PX γ := fun ls h K => a ls h fun x h1 => b ls h1 fun y h2 => K (f x y) h2
def eDI (f : Int32 → Int32 → Int32) (a b : PX Int32) : PX Int32 := fun ls h K => a ls h fun x h1 => b ls h1 fun y h2 => ¬ y = 0 ∧ K (f x y) h2
def eDL (f : Int64 → Int64 → Int64) (a b : PX Int64) : PX Int64 := fun ls h K => a ls h fun x h1 => b ls h1 fun y h2 => ¬ y = 0 ∧ K (f x y) h2
/-- a field of an int, a long, a reference -/
def eFI (ci k : Nat) (a : PX Nat) : PX Int32 := fun ls h K => a ls h fun r h1 => r ≠ 1 ∧ hk h1 r = some ci ∧ ∃ x, hg h1 r k = some (.int x) ∧ K x h1
def eFL (ci k : Nat) (a : PX Nat) : PX Int64 := fun ls h K => a ls h fun r h1 => r ≠ 1 ∧ hk h1 r = some ci ∧ ∃ x, hg h1 r k = some (.long x) ∧ K x h1
def eFR (ci k : Nat) (a : PX Nat) : PX Nat := fun ls h K => a ls h fun r h1 => r ≠ 1 ∧ hk h1 r = some ci ∧ ∃ x, hg h1 r k = some (.ref x) ∧ K x h1
def eAI (a : PX Nat) (i : PX Int32) : PX Int32 := fun ls h K => a ls h fun r h1 => i ls h1 fun j h2 => r ≠ 1 ∧ hk h2 r = some 20 ∧ 0 ≤ j ∧ ∃ x, hg h2 r j.toNatClampNeg = some (.int x) ∧ K x h2
def eAZ (a : PX Nat) (i : PX Int32) : PX Int32 := fun ls h K => a ls h fun r h1 => i ls h1 fun j h2 => 2 ≤ r ∧ hk h2 r = some 21 ∧ 0 ≤ j ∧ ∃ x, hg h2 r j.toNatClampNeg = some (.int x) ∧ K x h2
def eAR (a : PX Nat) (i : PX Int32) : PX Nat := fun ls h K => a ls h fun r h1 => i ls h1 fun j h2 => 2 ≤ r ∧ hk h2 r = some 22 ∧ 0 ≤ j ∧ ∃ x, hg h2 r j.toNatClampNeg = some (.ref x) ∧ K x h2
def eLen (a : PX Nat) : PX Int32 := fun ls h K => a ls h fun r h1 => r ≠ 1 ∧ hk h1 r = some 20 ∧ ∃ n, hn h1 r = some n ∧ K (Int32.ofNat n) h1
def aN : PX LV := fun _ h K => K [] h
def aC (ia : α → Value) (e : PX α) (es : PX LV) : PX LV := fun ls h K => e ls h fun x h1 => es ls h1 fun vs h2 => K (ia x :: vs) h2
/-- calls: of an object of the class ci with n more arguments; of a static method -/
def xV (ci n : Nat) (F : PM) (r : PX Nat) (as : PX LV) : PX (Option Value) := fun ls h K => r ls h fun q h1 => as ls h1 fun t h2 => q ≠ 1 ∧ hk h2 q = some ci ∧ t.length = n ∧ F (.ref q :: t) h2 K
def xS (n : Nat) (F : PM) (as : PX LV) : PX (Option Value) := fun ls h K => as ls h fun t h2 => t.length = n ∧ F t h2 K
def eX (ia : α → Value) (c : PX (Option Value)) : PX α := fun ls h K => c ls h fun o h1 => ∃ x, o = some (ia x) ∧ K x h1
def eIf (c : PX Bool) (a b : PX α) : PX α := fun ls h K => c ls h fun t h1 => if t then a ls h1 K else b ls h1 K
def eC (c : PX Bool) : PX Int32 := fun ls h K => c ls h fun t h1 => K (if t then 1 else 0) h1
def cA (a b : PX Bool) : PX Bool := fun ls h K => a ls h fun t h1 => if t then b ls h1 K else K false h1
def cO (a b : PX Bool) : PX Bool := fun ls h K => a ls h fun t h1 => if t then K true h1 else b ls h1 K
def cN (a : PX Bool) : PX Bool := fun ls h K => a ls h fun t h1 => K (!t) h1
-- statements
def sSk : PS := fun kn _ _ _ ls h => kn ls h
def sSq (a b : PS) : PS := fun kn kb kc kr ls h => a (fun ls1 h1 => b kn kb kc kr ls1 h1) kb kc kr ls h
def sI (i : Nat) (e : PX Int32) : PS := fun kn _ _ _ ls h => e ls h fun x h1 => i < ls.length ∧ kn (lset ls i (.int x)) h1
def sL (i : Nat) (e : PX Int64) : PS := fun kn _ _ _ ls h => e ls h fun x h1 => i + 1 < ls.length ∧ kn (lset (lset ls (i + 1) .null) i (.long x)) h1
def sR (i : Nat) (e : PX Nat) : PS := fun kn _ _ _ ls h => e ls h fun x h1 => i < ls.length ∧ kn (lset ls i (.ref x)) h1
def sInc (i : Nat) (n : Int32) : PS := fun kn _ _ _ ls h => ∃ x, ls[i]? = some (.int x) ∧ kn (lset ls i (.int (x + n))) h
def sF (ia : α → Value) (ci k : Nat) (a : PX Nat) (e : PX α) : PS := fun kn _ _ _ ls h => a ls h fun r h1 => e ls h1 fun x h2 => r ≠ 1 ∧ hk h2 r = some ci ∧ (∃ w, hg h2 r k = some w) ∧ kn ls (hs h2 r k (ia x))
/-- o.f op= e (of an int) -/
def sFO (ci k : Nat) (f : Int32 → Int32 → Int32) (a : PX Nat) (e : PX Int32) : PS := fun kn _ _ _ ls h => a ls h fun r h1 => r ≠ 1 ∧ hk h1 r = some ci ∧ ∃ x, hg h1 r k = some (.int x) ∧ e ls h1 fun y h2 => hk h2 r = some ci ∧ (∃ w, hg h2 r k = some w) ∧ kn ls (hs h2 r k (.int (f x y)))
def sAI (a : PX Nat) (i e : PX Int32) : PS := fun kn _ _ _ ls h => a ls h fun r h1 => i ls h1 fun j h2 => e ls h2 fun x h3 => 2 ≤ r ∧ hk h3 r = some 20 ∧ 0 ≤ j ∧ (∃ w, hg h3 r j.toNatClampNeg = some w) ∧ kn ls (hs h3 r j.toNatClampNeg (.int x))
def sAZ (a : PX Nat) (i e : PX Int32) : PS := fun kn _ _ _ ls h => a ls h fun r h1 => i ls h1 fun j h2 => e ls h2 fun x h3 => 2 ≤ r ∧ hk h3 r = some 21 ∧ 0 ≤ j ∧ (x = 0 ∨ x = 1) ∧ (∃ w, hg h3 r j.toNatClampNeg = some w) ∧ kn ls (hs h3 r j.toNatClampNeg (.int x))
/-- a[i] op= e -/
def sAO (f : Int32 → Int32 → Int32) (a : PX Nat) (i e : PX Int32) : PS := fun kn _ _ _ ls h => a ls h fun r h1 => i ls h1 fun j h2 => 2 ≤ r ∧ hk h2 r = some 20 ∧ 0 ≤ j ∧ ∃ x, hg h2 r j.toNatClampNeg = some (.int x) ∧ e ls h2 fun y h3 => hk h3 r = some 20 ∧ (∃ w, hg h3 r j.toNatClampNeg = some w) ∧ kn ls (hs h3 r j.toNatClampNeg (.int (f x y)))
def sX (c : PX (Option Value)) : PS := fun kn _ _ _ ls h => c ls h fun o h1 => o = none ∧ kn ls h1
def sXp (c : PX (Option Value)) : PS := fun kn _ _ _ ls h => c ls h fun o h1 => (∃ x, o = some (.int x)) ∧ kn ls h1
def sIf (c : PX Bool) (a b : PS) : PS := fun kn kb kc kr ls h => c ls h fun t h1 => if t then a kn kb kc kr ls h1 else b kn kb kc kr ls h1
/-- while (c) { b } with the step st; n locals live at its head -/
def sLp (n : Nat) (c : PX Bool) (b st : PS) : PS := fun kn _ _ kr ls h => ∀ X : LV → HV → Prop,
  (∀ ls h, c ls h (fun t h1 => if t then b (fun ls2 h2 => st (fun ls3 h3 => X (lcut n ls3) h3) (fun _ _ => False) (fun _ _ => False) kr ls2 h2) (fun ls2 h2 => kn (lcut n ls2) h2) (fun ls2 h2 => st (fun ls3 h3 => X (lcut n ls3) h3) (fun _ _ => False) (fun _ _ => False) kr ls2 h2) kr ls h1 else kn ls h1) → X ls h) → X ls h
def sCut (n : Nat) (a : PS) : PS := fun kn kb kc kr ls h => a (fun ls1 h1 => kn (lcut n ls1) h1) kb kc kr ls h
def sSqs : List PS → PS
  | [] => sSk
  | a :: t => sSq a (sSqs t)
/-- switch: the bodies, each running on into the next -/
def sSw (n : Nat) (e : PX Int32) (tbl : List (Int32 × Nat)) (d : Nat) (bs : List PS) : PS := fun kn _ kc kr ls h => e ls h fun x h1 => sSqs (bs.drop (ixOf tbl d x)) (fun ls2 h2 => kn (lcut n ls2) h2) (fun ls2 h2 => kn (lcut n ls2) h2) kc kr ls h1
def sRt (ia : α → Value) (e : PX α) : PS := fun _ _ _ kr ls h => e ls h fun x h1 => kr (some (ia x)) h1
def sRz (e : PX Int32) : PS := fun _ _ _ kr ls h => e ls h fun x h1 => (x = 0 ∨ x = 1) ∧ kr (some (.int x)) h1
def sRv : PS := fun _ _ _ kr _ h => kr none h
def sBk : PS := fun _ kb _ _ ls h => kb ls h
def sCt : PS := fun _ _ kc _ ls h => kc ls h
def sCp (a : PX Nat) (i : PX Int32) (b : PX Nat) (j m : PX Int32) : PS := fun kn _ _ _ ls h => a ls h fun r h1 => i ls h1 fun x h2 => b ls h2 fun q h3 => j ls h3 fun y h4 => m ls h4 fun z h5 =>
  ∃ src dst, h5[r]? = some (20, src) ∧ h5[q]? = some (20, dst) ∧ 2 ≤ r ∧ 2 ≤ q ∧ ¬ x < 0 ∧ ¬ y < 0 ∧ ¬ z < 0 ∧ x.toNatClampNeg + z.toNatClampNeg ≤ src.length ∧ y.toNatClampNeg + z.toNatClampNeg ≤ dst.length ∧ kn ls (h5.set q (20, cpyL src dst x.toNatClampNeg y.toNatClampNeg z.toNatClampNeg))
-- what a constructor makes; g: how many cells and slots there may be
def eNew (g : Nat × Nat) (ci : Nat) (fs : List Value) (rm : Room) (n : Nat) (F : PM) (as : PX LV) : PX Nat := fun ls h K => h.length + 1 ≤ g.1 ∧ hsz h + fs.length ≤ g.2 ∧ as ls (h ++ [(ci, fs)]) fun t h1 => t.length = n ∧ h1.length + rm.cells ≤ g.1 ∧ hsz h1 + rm.slots ≤ g.2 ∧ F (.ref h.length :: t) h1 fun o h2 => o = none ∧ K h.length h2
def eNA (g : Nat × Nat) (kd : Nat) (n : PX Int32) : PX Nat := fun ls h K => n ls h fun x h1 => ¬ x < 0 ∧ x.toNatClampNeg ≤ 100000000 ∧ h1.length + 1 ≤ g.1 ∧ hsz h1 + x.toNatClampNeg ≤ g.2 ∧ K h1.length (h1 ++ [(kd, List.replicate x.toNatClampNeg (.int 0))])
def eNM (g : Nat × Nat) (n : PX Int32) : PX Nat := fun ls h K => n ls h fun x h1 => ¬ x < 0 ∧ x.toNatClampNeg ≤ 100000000 ∧ h1.length + 3 ≤ g.1 ∧ hsz h1 + (2 + 2 * x.toNatClampNeg) ≤ g.2 ∧ K h1.length (h1 ++ [(22, [.ref (h1.length + 1), .ref (h1.length + 2)])] ++ [(20, List.replicate x.toNatClampNeg (.int 0))] ++ [(20, List.replicate x.toNatClampNeg (.int 0))])
end PD
/-! how bytecode carries them -/
section PR
variable {α β γ : Type} {cc : ByteArray} {κ : KT} {d w pc pc1 pc2 pc3 pc4 pc5 pT pF pN pB pC : Nat}
def Ev (cc : ByteArray) (κ : KT) (d pc pc' : Nat) (ia : α → Value) (E : PX α) : Prop := ∀ ls st h K, stw st ≤ d → (∀ x h', K x h' → wA cc κ pc' ls (ia x :: st) h') → E ls h K → wA cc κ pc ls st h
def Eo (cc : ByteArray) (κ : KT) (d pc pc' : Nat) (E : PX (Option Value)) : Prop := ∀ ls st h K, stw st ≤ d → (∀ o h', K o h' → wA cc κ pc' ls (o.toList ++ st) h') → E ls h K → wA cc κ pc ls st h
def Ea (cc : ByteArray) (κ : KT) (d pc pc' : Nat) (E : PX LV) : Prop := ∀ ls st h K, stw st ≤ d → (∀ vs h', K vs h' → wA cc κ pc' ls (vs.reverse ++ st) h') → E ls h K → wA cc κ pc ls st h
def Cd (cc : ByteArray) (κ : KT) (d pc pT pF : Nat) (E : PX Bool) : Prop := ∀ ls st h K, stw st ≤ d → (∀ h', K true h' → wA cc κ pT ls st h') → (∀ h', K false h' → wA cc κ pF ls st h') → E ls h K → wA cc κ pc ls st h
def Ex (cc : ByteArray) (κ : KT) (pc pN pB pC : Nat) (S : PS) : Prop := ∀ ls h kn kb kc kr, (∀ ls' h', kn ls' h' → wA cc κ pN ls' [] h') → (∀ ls' h', kb ls' h' → wA cc κ pB ls' [] h') → (∀ ls' h', kc ls' h' → wA cc κ pC ls' [] h') → (∀ o h', kr o h' → k_ret κ o h') → S kn kb kc kr ls h → wA cc κ pc ls [] h
theorem stw_cons (v : Value) (st : LV) : stw (v :: st) = v.category + stw st := by simp [stw]
theorem E_ic {n : Int} {v : Int32} (hd : decode cc pc = .ok (.iconst n, 1)) (hv : Int32.ofInt n = v) : Ev cc κ d pc (pc + 1) .int (eV v) := fun _ _ _ _ _ q k => r_iconst hd hv (q _ _ k)
theorem E_bi {n : Int} {v : Int32} (hd : decode cc pc = .ok (.bipush n, 2)) (hv : (Int8.ofInt n).toInt32 = v) : Ev cc κ d pc (pc + 2) .int (eV v) := fun _ _ _ _ _ q k => r_bipush hd hv (q _ _ k)
theorem E_si {n : Int} {v : Int32} (hd : decode cc pc = .ok (.sipush n, 3)) (hv : (Int16.ofInt n).toInt32 = v) : Ev cc κ d pc (pc + 3) .int (eV v) := fun _ _ _ _ _ q k => r_sipush hd hv (q _ _ k)
theorem E_lc {n : Fin 2} {v : Int64} (hd : decode cc pc = .ok (.lconst n, 1)) (hv : Int64.ofNat (n : Nat) = v) : Ev cc κ d pc (pc + 1) .long (eV v) := fun _ _ _ _ _ q k => r_lconst hd hv (q _ _ k)
theorem E_ldcw {own : String} {index : Nat} {v : Int32} (ho : k_own κ = own) (hw : Cond.constant own index v ∈ BIG) (hd : decode cc pc = .ok (.ldc_w index, 3)) : Ev cc κ d pc (pc + 3) .int (eV v) := fun _ _ _ _ _ q k => r_ldcw ho hw hd (q _ _ k)
theorem E_ldc2 {own : String} {index : Nat} {v : Int64} (ho : k_own κ = own) (hw : Cond.constantLong own index v ∈ BIG) (hd : decode cc pc = .ok (.ldc2_w index, 3)) : Ev cc κ d pc (pc + 3) .long (eV v) := fun _ _ _ _ _ q k => r_ldc2 ho hw hd (q _ _ k)
theorem E_iln {k : Fin 4} {i : Nat} (hd : decode cc pc = .ok (.iload_n k, 1)) (hi : (k : Nat) = i) : Ev cc κ d pc (pc + 1) .int (eI i) := fun _ _ _ _ _ q ⟨_, hl, k⟩ => r_iload_n hd hi hl (q _ _ k)
theorem E_il {i : Nat} (hd : decode cc pc = .ok (.iload i, 2)) : Ev cc κ d pc (pc + 2) .int (eI i) := fun _ _ _ _ _ q ⟨_, hl, k⟩ => r_iload hd hl (q _ _ k)
theorem E_lln {k : Fin 4} {i : Nat} (hd : decode cc pc = .ok (.lload_n k, 1)) (hi : (k : Nat) = i) : Ev cc κ d pc (pc + 1) .long (eL i) := fun _ _ _ _ _ q ⟨_, hl, k⟩ => r_lload_n hd hi hl (q _ _ k)
theorem E_ll {i : Nat} (hd : decode cc pc = .ok (.lload i, 2)) : Ev cc κ d pc (pc + 2) .long (eL i) := fun _ _ _ _ _ q ⟨_, hl, k⟩ => r_lload hd hl (q _ _ k)
theorem E_aln {k : Fin 4} {i : Nat} (hd : decode cc pc = .ok (.aload_n k, 1)) (hi : (k : Nat) = i) : Ev cc κ d pc (pc + 1) .ref (eR i) := fun _ _ _ _ _ q ⟨_, hl, k⟩ => r_aload_n hd hi hl (q _ _ k)
theorem E_u {f : α → β} {ia : α → Value} {ib : β → Value} {a : PX α} (h1 : Ev cc κ d pc pc1 ia a) (op : ∀ ls st h x, wA cc κ pc2 ls (ib (f x) :: st) h → wA cc κ pc1 ls (ia x :: st) h) : Ev cc κ d pc pc2 ib (e1 f a) :=
  fun ls st h K hs q k => h1 ls st h _ hs (fun x h' z => op ls st h' x (q _ _ z)) k
theorem E_b {f : α → β → γ} {ia : α → Value} {ib : β → Value} {ig : γ → Value} {a : PX α} {b : PX β} (hw : ∀ x, (ia x).category = w) (h1 : Ev cc κ d pc pc1 ia a) (h2 : Ev cc κ (w + d) pc1 pc2 ib b) (op : ∀ ls st h x y, wA cc κ pc3 ls (ig (f x y) :: st) h → wA cc κ pc2 ls (ib y :: ia x :: st) h) : Ev cc κ d pc pc3 ig (e2 f a b) :=
  fun ls st h K hs q k => h1 ls st h _ hs (fun x h' z => h2 ls (ia x :: st) h' _ (by rw [stw_cons, hw]; omega) (fun y h2 z2 => op ls st h2 x y (q _ _ z2)) z) k
theorem catI (x : Int32) : (Value.int x).category = 1 := rfl
theorem catL (x : Int64) : (Value.long x).category = 2 := rfl
theorem catR (x : Nat) : (Value.ref x).category = 1 := rfl
section BI
variable {a b : PX Int32}
theorem E_iadd (h1 : Ev cc κ d pc pc1 .int a) (h2 : Ev cc κ (1 + d) pc1 pc2 .int b) (hd : decode cc pc2 = .ok (.iadd, 1)) : Ev cc κ d pc (pc2 + 1) .int (e2 (fun x y : Int32 => x + y) a b) := E_b catI h1 h2 fun _ _ _ _ _ k => r_iadd hd k
theorem E_isub (h1 : Ev cc κ d pc pc1 .int a) (h2 : Ev cc κ (1 + d) pc1 pc2 .int b) (hd : decode cc pc2 = .ok (.isub, 1)) : Ev cc κ d pc (pc2 + 1) .int (e2 (fun x y : Int32 => x - y) a b) := E_b catI h1 h2 fun _ _ _ _ _ k => r_isub hd k
theorem E_imul (h1 : Ev cc κ d pc pc1 .int a) (h2 : Ev cc κ (1 + d) pc1 pc2 .int b) (hd : decode cc pc2 = .ok (.imul, 1)) : Ev cc κ d pc (pc2 + 1) .int (e2 (fun x y : Int32 => x * y) a b) := E_b catI h1 h2 fun _ _ _ _ _ k => r_imul hd k
theorem E_iand (h1 : Ev cc κ d pc pc1 .int a) (h2 : Ev cc κ (1 + d) pc1 pc2 .int b) (hd : decode cc pc2 = .ok (.iand, 1)) : Ev cc κ d pc (pc2 + 1) .int (e2 (fun x y : Int32 => x &&& y) a b) := E_b catI h1 h2 fun _ _ _ _ _ k => r_iand hd k
theorem E_ior (h1 : Ev cc κ d pc pc1 .int a) (h2 : Ev cc κ (1 + d) pc1 pc2 .int b) (hd : decode cc pc2 = .ok (.ior, 1)) : Ev cc κ d pc (pc2 + 1) .int (e2 (fun x y : Int32 => x ||| y) a b) := E_b catI h1 h2 fun _ _ _ _ _ k => r_ior hd k
theorem E_ixor (h1 : Ev cc κ d pc pc1 .int a) (h2 : Ev cc κ (1 + d) pc1 pc2 .int b) (hd : decode cc pc2 = .ok (.ixor, 1)) : Ev cc κ d pc (pc2 + 1) .int (e2 (fun x y : Int32 => x ^^^ y) a b) := E_b catI h1 h2 fun _ _ _ _ _ k => r_ixor hd k
theorem E_ishl (h1 : Ev cc κ d pc pc1 .int a) (h2 : Ev cc κ (1 + d) pc1 pc2 .int b) (hd : decode cc pc2 = .ok (.ishl, 1)) : Ev cc κ d pc (pc2 + 1) .int (e2 (fun x y : Int32 => x <<< (y &&& 31)) a b) := E_b catI h1 h2 fun _ _ _ _ _ k => r_ishl hd k
theorem E_ishr (h1 : Ev cc κ d pc pc1 .int a) (h2 : Ev cc κ (1 + d) pc1 pc2 .int b) (hd : decode cc pc2 = .ok (.ishr, 1)) : Ev cc κ d pc (pc2 + 1) .int (e2 (fun x y : Int32 => x >>> (y &&& 31)) a b) := E_b catI h1 h2 fun _ _ _ _ _ k => r_ishr hd k
theorem E_iushr (h1 : Ev cc κ d pc pc1 .int a) (h2 : Ev cc κ (1 + d) pc1 pc2 .int b) (hd : decode cc pc2 = .ok (.iushr, 1)) : Ev cc κ d pc (pc2 + 1) .int (e2 (fun x y => (x.toUInt32 >>> (y.toUInt32 &&& Int32.toUInt32 31)).toInt32) a b) := E_b catI h1 h2 fun _ _ _ _ _ k => r_iushr hd k
theorem E_ineg (h1 : Ev cc κ d pc pc1 .int a) (hd : decode cc pc1 = .ok (.ineg, 1)) : Ev cc κ d pc (pc1 + 1) .int (e1 (fun x => -x) a) := E_u h1 fun _ _ _ _ k => r_ineg hd k
theorem E_i2l (h1 : Ev cc κ d pc pc1 .int a) (hd : decode cc pc1 = .ok (.i2l, 1)) : Ev cc κ d pc (pc1 + 1) .long (e1 (fun x : Int32 => x.toInt64) a) := E_u h1 fun _ _ _ _ k => r_i2l hd k
theorem E_idiv (h1 : Ev cc κ d pc pc1 .int a) (h2 : Ev cc κ (1 + d) pc1 pc2 .int b) (hd : decode cc pc2 = .ok (.idiv, 1)) : Ev cc κ d pc (pc2 + 1) .int (eDI (fun x y => x / y) a b) :=
  fun ls st h K hs q k => h1 ls st h _ hs (fun x h' z => h2 ls (.int x :: st) h' _ (by rw [stw_cons, catI]; omega) (fun y h2 z2 => r_idiv hd z2.1 (q _ _ z2.2)) z) k
theorem E_irem (h1 : Ev cc κ d pc pc1 .int a) (h2 : Ev cc κ (1 + d) pc1 pc2 .int b) (hd : decode cc pc2 = .ok (.irem, 1)) : Ev cc κ d pc (pc2 + 1) .int (eDI (fun x y => x - x / y * y) a b) :=
  fun ls st h K hs q k => h1 ls st h _ hs (fun x h' z => h2 ls (.int x :: st) h' _ (by rw [stw_cons, catI]; omega) (fun y h2 z2 => r_irem hd z2.1 (q _ _ z2.2)) z) k
end BI
section BL
variable {a b : PX Int64} {c : PX Int32}
theorem E_ladd (h1 : Ev cc κ d pc pc1 .long a) (h2 : Ev cc κ (2 + d) pc1 pc2 .long b) (hd : decode cc pc2 = .ok (.ladd, 1)) : Ev cc κ d pc (pc2 + 1) .long (e2 (fun x y : Int64 => x + y) a b) := E_b catL h1 h2 fun _ _ _ _ _ k => r_ladd hd k
theorem E_lsub (h1 : Ev cc κ d pc pc1 .long a) (h2 : Ev cc κ (2 + d) pc1 pc2 .long b) (hd : decode cc pc2 = .ok (.lsub, 1)) : Ev cc κ d pc (pc2 + 1) .long (e2 (fun x y : Int64 => x - y) a b) := E_b catL h1 h2 fun _ _ _ _ _ k => r_lsub hd k
theorem E_lmul (h1 : Ev cc κ d pc pc1 .long a) (h2 : Ev cc κ (2 + d) pc1 pc2 .long b) (hd : decode cc pc2 = .ok (.lmul, 1)) : Ev cc κ d pc (pc2 + 1) .long (e2 (fun x y : Int64 => x * y) a b) := E_b catL h1 h2 fun _ _ _ _ _ k => r_lmul hd k
theorem E_land (h1 : Ev cc κ d pc pc1 .long a) (h2 : Ev cc κ (2 + d) pc1 pc2 .long b) (hd : decode cc pc2 = .ok (.land, 1)) : Ev cc κ d pc (pc2 + 1) .long (e2 (fun x y : Int64 => x &&& y) a b) := E_b catL h1 h2 fun _ _ _ _ _ k => r_land hd k
theorem E_lor (h1 : Ev cc κ d pc pc1 .long a) (h2 : Ev cc κ (2 + d) pc1 pc2 .long b) (hd : decode cc pc2 = .ok (.lor, 1)) : Ev cc κ d pc (pc2 + 1) .long (e2 (fun x y : Int64 => x ||| y) a b) := E_b catL h1 h2 fun _ _ _ _ _ k => r_lor hd k
theorem E_lshl (h1 : Ev cc κ d pc pc1 .long a) (h2 : Ev cc κ (2 + d) pc1 pc2 .int c) (hd : decode cc pc2 = .ok (.lshl, 1)) : Ev cc κ d pc (pc2 + 1) .long (e2 (fun (x : Int64) (y : Int32) => x <<< (y.toInt64 &&& 63)) a c) := E_b catL h1 h2 fun _ _ _ _ _ k => r_lshl hd k
theorem E_lushr (h1 : Ev cc κ d pc pc1 .long a) (h2 : Ev cc κ (2 + d) pc1 pc2 .int c) (hd : decode cc pc2 = .ok (.lushr, 1)) : Ev cc κ d pc (pc2 + 1) .long (e2 (fun x y => (x.toUInt64 >>> (y.toInt64.toUInt64 &&& Int64.toUInt64 63)).toInt64) a c) := E_b catL h1 h2 fun _ _ _ _ _ k => r_lushr hd k
theorem E_l2i (h1 : Ev cc κ d pc pc1 .long a) (hd : decode cc pc1 = .ok (.l2i, 1)) : Ev cc κ d pc (pc1 + 1) .int (e1 (fun x : Int64 => x.toInt32) a) := E_u h1 fun _ _ _ _ k => r_l2i hd k
theorem E_ldiv (h1 : Ev cc κ d pc pc1 .long a) (h2 : Ev cc κ (2 + d) pc1 pc2 .long b) (hd : decode cc pc2 = .ok (.ldiv, 1)) : Ev cc κ d pc (pc2 + 1) .long (eDL (fun x y => x / y) a b) :=
  fun ls st h K hs q k => h1 ls st h _ hs (fun x h' z => h2 ls (.long x :: st) h' _ (by rw [stw_cons, catL]; omega) (fun y h2 z2 => r_ldiv hd z2.1 (q _ _ z2.2)) z) k
theorem E_lrem (h1 : Ev cc κ d pc pc1 .long a) (h2 : Ev cc κ (2 + d) pc1 pc2 .long b) (hd : decode cc pc2 = .ok (.lrem, 1)) : Ev cc κ d pc (pc2 + 1) .long (eDL (fun x y => x - x / y * y) a b) :=
  fun ls st h K hs q k => h1 ls st h _ hs (fun x h' z => h2 ls (.long x :: st) h' _ (by rw [stw_cons, catL]; omega) (fun y h2 z2 => r_lrem hd z2.1 (q _ _ z2.2)) z) k
end BL
section FI
variable {own : String} {index ci k : Nat} {ty : FieldType} {fin : Nat} {a : PX Nat} {i : PX Int32}
theorem E_fI (hF : FldOK own index ci k ty fin) (ho : k_own κ = own) (h1 : Ev cc κ d pc pc1 .ref a) (hd : decode cc pc1 = .ok (.getfield index, 3)) : Ev cc κ d pc (pc1 + 3) .int (eFI ci k a) :=
  fun ls st h K hs q z => h1 ls st h _ hs (fun _ _ ⟨z1, z2, _, z3, z4⟩ => r_get hF ho z1 z2 z3 hd (q _ _ z4)) z
theorem E_fL (hF : FldOK own index ci k ty fin) (ho : k_own κ = own) (h1 : Ev cc κ d pc pc1 .ref a) (hd : decode cc pc1 = .ok (.getfield index, 3)) : Ev cc κ d pc (pc1 + 3) .long (eFL ci k a) :=
  fun ls st h K hs q z => h1 ls st h _ hs (fun _ _ ⟨z1, z2, _, z3, z4⟩ => r_get hF ho z1 z2 z3 hd (q _ _ z4)) z
theorem E_fR (hF : FldOK own index ci k ty fin) (ho : k_own κ = own) (h1 : Ev cc κ d pc pc1 .ref a) (hd : decode cc pc1 = .ok (.getfield index, 3)) : Ev cc κ d pc (pc1 + 3) .ref (eFR ci k a) :=
  fun ls st h K hs q z => h1 ls st h _ hs (fun _ _ ⟨z1, z2, _, z3, z4⟩ => r_get hF ho z1 z2 z3 hd (q _ _ z4)) z
theorem E_fN {C : String} {T : u_T} {N : Nat} {host : String} (f1 : ci < 20) (f2 : classes[ci]? = some (C, T, N)) (f3 : k < N) (f4 : ∀ w ∈ u_ws C T N, w ∈ BIG) (f7 : Cond.fieldLinkNest own index (T k).1 (T k).2.1 (T k).2.2.1 host ∈ BIGN) (ho : k_own κ = own) (h1 : Ev cc κ d pc pc1 .ref a) (hd : decode cc pc1 = .ok (.getfield index, 3)) : Ev cc κ d pc (pc1 + 3) .int (eFI ci k a) :=
  fun ls st h K hs q z => h1 ls st h _ hs (fun _ _ ⟨z1, z2, _, z3, z4⟩ => r_getN f1 f2 f3 f4 f7 ho z1 z2 z3 hd (q _ _ z4)) z
theorem E_aI (h1 : Ev cc κ d pc pc1 .ref a) (h2 : Ev cc κ (1 + d) pc1 pc2 .int i) (hd : decode cc pc2 = .ok (.iaload, 1)) : Ev cc κ d pc (pc2 + 1) .int (eAI a i) :=
  fun ls st h K hs q z => h1 ls st h _ hs (fun r h' z => h2 ls (.ref r :: st) h' _ (by rw [stw_cons, catR]; omega) (fun _ _ ⟨z1, z2, z3, _, z4, z5⟩ => r_iald z1 z2 z3 z4 hd (q _ _ z5)) z) z
theorem E_aZ (h1 : Ev cc κ d pc pc1 .ref a) (h2 : Ev cc κ (1 + d) pc1 pc2 .int i) (hd : decode cc pc2 = .ok (.baload, 1)) : Ev cc κ d pc (pc2 + 1) .int (eAZ a i) :=
  fun ls st h K hs q z => h1 ls st h _ hs (fun r h' z => h2 ls (.ref r :: st) h' _ (by rw [stw_cons, catR]; omega) (fun _ _ ⟨z1, z2, z3, _, z4, z5⟩ => r_zald z1 z2 z3 z4 hd (q _ _ z5)) z) z
theorem E_aR (h1 : Ev cc κ d pc pc1 .ref a) (h2 : Ev cc κ (1 + d) pc1 pc2 .int i) (hd : decode cc pc2 = .ok (.aaload, 1)) : Ev cc κ d pc (pc2 + 1) .ref (eAR a i) :=
  fun ls st h K hs q z => h1 ls st h _ hs (fun r h' z => h2 ls (.ref r :: st) h' _ (by rw [stw_cons, catR]; omega) (fun _ _ ⟨z1, z2, z3, _, z4, z5⟩ => r_aald z1 z2 z3 z4 hd (q _ _ z5)) z) z
theorem E_len (h1 : Ev cc κ d pc pc1 .ref a) (hd : decode cc pc1 = .ok (.arraylength, 1)) : Ev cc κ d pc (pc1 + 1) .int (eLen a) :=
  fun ls st h K hs q z => h1 ls st h _ hs (fun _ _ ⟨z1, z2, _, z3, z4⟩ => r_alen z1 z2 z3 hd (q _ _ z4)) z
theorem E_gs (hw : Cond.fieldLink own index "PackLanes" "FACTORIALS" "[I" ∈ BIG) (ho : k_own κ = own) (hd : decode cc pc = .ok (.getstatic index, 3)) : Ev cc κ d pc (pc + 3) .ref (eV 0) :=
  fun ls st h K hs q z => r_gets hw ho hd (q _ _ z)
end FI
theorem A_n : Ea cc κ d pc pc aN := fun _ _ _ _ _ q z => q _ _ z
theorem A_c {ia : α → Value} {e : PX α} {es : PX LV} (hw : ∀ x, (ia x).category = w) (h1 : Ev cc κ d pc pc1 ia e) (h2 : Ea cc κ (w + d) pc1 pc2 es) : Ea cc κ d pc pc2 (aC ia e es) :=
  fun ls st h K hs q z => h1 ls st h _ hs (fun x h' z => h2 ls (ia x :: st) h' _ (by rw [stw_cons, hw]; omega) (fun vs h2 z2 => by
    have := q _ _ z2
    rw [List.reverse_cons, List.append_assoc] at this
    exact this) z) z
section CA
variable {own : String} {index : Nat} {y : MethodName} {host : String} {bytes : ByteArray} {maxL : Nat} {ret : Option FieldType} {n ci : Nat} {rm : Room} {F : PM} {T : u_T} {N : Nat} {r : PX Nat} {as : PX LV}
theorem O_V (hc : CallV own index y bytes maxL ret n) (hC : Ctr (k_l κ) y bytes maxL ret rm F) (hm : rm.cells = 0 ∧ rm.slots = 0) (ho : k_own κ = own) (hR : rm.frames + 1 ≤ (k_R κ).frames ∧ 8 + (maxL + 11) + rm.locals ≤ (k_R κ).locals) (h8 : d ≤ 8) (hcl : classes[ci]? = some (y.cls, T, N)) (hci : ci < 20)
    (h1 : Ev cc κ d pc pc1 .ref r) (h2 : Ea cc κ (1 + d) pc1 pc2 as) (hd : decode cc pc2 = .ok (.invokevirtual index, 3)) : Eo cc κ d pc (pc2 + 3) (xV ci n F r as) :=
  fun ls st h K hs q z => h1 ls st h _ hs (fun r h' z => h2 ls (.ref r :: st) h' _ (by rw [stw_cons, catR]; omega) (fun vs h2 ⟨z1, z2, z3, z4⟩ => r_callV hc hC hm ho hR (by omega) hcl hci z1 z2 z3 z4 hd q) z) z
theorem O_S (hc : CallS own index y bytes maxL ret n) (hC : Ctr (k_l κ) y bytes maxL ret rm F) (hm : rm.cells = 0 ∧ rm.slots = 0) (ho : k_own κ = own) (hR : rm.frames + 1 ≤ (k_R κ).frames ∧ 8 + (maxL + 11) + rm.locals ≤ (k_R κ).locals) (h8 : d ≤ 8)
    (h2 : Ea cc κ d pc pc2 as) (hd : decode cc pc2 = .ok (.invokestatic index, 3)) : Eo cc κ d pc (pc2 + 3) (xS n F as) :=
  fun ls st h K hs q z => h2 ls st h _ hs (fun vs h2 ⟨z1, z2⟩ => r_callS hc hC hm ho hR (by omega) z1 z2 hd q) z
theorem O_SN (hc : CallSN own index y host bytes maxL ret n) (hC : Ctr (k_l κ) y bytes maxL ret rm F) (hm : rm.cells = 0 ∧ rm.slots = 0) (ho : k_own κ = own) (hR : rm.frames + 1 ≤ (k_R κ).frames ∧ 8 + (maxL + 11) + rm.locals ≤ (k_R κ).locals) (h8 : d ≤ 8)
    (h2 : Ea cc κ d pc pc2 as) (hd : decode cc pc2 = .ok (.invokestatic index, 3)) : Eo cc κ d pc (pc2 + 3) (xS n F as) :=
  fun ls st h K hs q z => h2 ls st h _ hs (fun vs h2 ⟨z1, z2⟩ => r_callSN hc hC hm ho hR (by omega) z1 z2 hd q) z
theorem E_x {ia : α → Value} {c : PX (Option Value)} (h1 : Eo cc κ d pc pc1 c) : Ev cc κ d pc pc1 ia (eX ia c) :=
  fun ls st h K hs q z => h1 ls st h _ hs (fun _ _ ⟨x, z1, z2⟩ => by subst z1; exact q _ _ z2) z
end CA
section CC
variable {a b : PX Bool} {x y : PX Int32} {off : Int}
theorem E_if {ia : α → Value} {c : PX Bool} {u v : PX α} (hc : Cd cc κ d pc pT pF c) (h1 : Ev cc κ d pT pc1 ia u) (hd : decode cc pc1 = .ok (.goto off, 3)) (ht : (pc1 : Int) + off = (pc2 : Int)) (h2 : Ev cc κ d pF pc2 ia v) : Ev cc κ d pc pc2 ia (eIf c u v) :=
  fun ls st h K hs q z => hc ls st h _ hs (fun h' z => h1 ls st h' _ hs (fun x h2 z2 => r_goto hd ht (q _ _ z2)) z) (fun h' z => h2 ls st h' _ hs q z) z
theorem E_C {c : PX Bool} (hc : Cd cc κ d pc pT pF c) (d1 : decode cc pT = .ok (.iconst 1, 1)) (hd : decode cc (pT + 1) = .ok (.goto off, 3)) (ht : ((pT + 1 : Nat) : Int) + off = (pc2 : Int)) (d2 : decode cc pF = .ok (.iconst 0, 1)) (he : pF + 1 = pc2) : Ev cc κ d pc pc2 .int (eC c) :=
  fun ls st h K hs q z => hc ls st h _ hs (fun h' z => r_iconst d1 rfl (r_goto hd ht (q _ _ z))) (fun h' z => r_iconst d2 rfl (by rw [he]; exact q _ _ z)) z
theorem C_and (h1 : Cd cc κ d pc pc1 pF a) (h2 : Cd cc κ d pc1 pT pF b) : Cd cc κ d pc pT pF (cA a b) :=
  fun ls st h K hs qt qf z => h1 ls st h (fun t h1 => if t then b ls h1 K else K false h1) hs (fun h' z => h2 ls st h' K hs qt qf z) (fun h' z => qf _ z) z
theorem C_or (h1 : Cd cc κ d pc pT pc1 a) (h2 : Cd cc κ d pc1 pT pF b) : Cd cc κ d pc pT pF (cO a b) :=
  fun ls st h K hs qt qf z => h1 ls st h (fun t h1 => if t then K true h1 else b ls h1 K) hs (fun h' z => qt _ z) (fun h' z => h2 ls st h' K hs qt qf z) z
theorem C_not (h1 : Cd cc κ d pc pF pT a) : Cd cc κ d pc pT pF (cN a) :=
  fun ls st h K hs qt qf z => h1 ls st h _ hs (fun h' z => qf _ z) (fun h' z => qt _ z) z
/-- a jump when it does not hold (J), or when it holds (T) -/
theorem C_2 {f : Int32 → Int32 → Bool} (h1 : Ev cc κ d pc pc1 .int x) (h2 : Ev cc κ (1 + d) pc1 pc2 .int y) (op : ∀ ls st h u v, (f u v = true → wA cc κ pT ls st h) → (f u v = false → wA cc κ pF ls st h) → wA cc κ pc2 ls (.int v :: .int u :: st) h) : Cd cc κ d pc pT pF (e2 f x y) :=
  fun ls st h K hs qt qf z => h1 ls st h _ hs (fun u h' z => h2 ls (.int u :: st) h' _ (by rw [stw_cons, catI]; omega) (fun v h2 z2 => op ls st h2 u v (fun e => qt _ (by rw [e] at z2; exact z2)) (fun e => qf _ (by rw [e] at z2; exact z2))) z) z
theorem C_1 {f : Int32 → Bool} (h1 : Ev cc κ d pc pc1 .int x) (op : ∀ ls st h u, (f u = true → wA cc κ pT ls st h) → (f u = false → wA cc κ pF ls st h) → wA cc κ pc1 ls (.int u :: st) h) : Cd cc κ d pc pT pF (e1 f x) :=
  fun ls st h K hs qt qf z => h1 ls st h _ hs (fun u h' z2 => op ls st h' u (fun e => qt _ (by rw [e] at z2; exact z2)) (fun e => qf _ (by rw [e] at z2; exact z2))) z
theorem J2_lt (h1 : Ev cc κ d pc pc1 .int x) (h2 : Ev cc κ (1 + d) pc1 pc2 .int y) (hd : decode cc pc2 = .ok (.if_icmp .ge off, 3)) (ht : (pc2 : Int) + off = (pF : Int)) : Cd cc κ d pc (pc2 + 3) pF (e2 (fun x y : Int32 => decide (x < y)) x y) := C_2 h1 h2 fun _ _ _ u v kT kF => r_ic_ge hd ht (fun q => kF (decide_eq_false (Int32.not_lt.mpr q))) (fun q => kT (decide_eq_true (Int32.not_le.mp q)))
theorem T2_lt (h1 : Ev cc κ d pc pc1 .int x) (h2 : Ev cc κ (1 + d) pc1 pc2 .int y) (hd : decode cc pc2 = .ok (.if_icmp .lt off, 3)) (ht : (pc2 : Int) + off = (pT : Int)) : Cd cc κ d pc pT (pc2 + 3) (e2 (fun x y : Int32 => decide (x < y)) x y) := C_2 h1 h2 fun _ _ _ u v kT kF => r_ic_lt hd ht (fun q => kT (decide_eq_true q)) (fun q => kF (decide_eq_false q))
theorem J1_lt (h1 : Ev cc κ d pc pc2 .int x) (hd : decode cc pc2 = .ok (.ifCond .ge off, 3)) (ht : (pc2 : Int) + off = (pF : Int)) : Cd cc κ d pc (pc2 + 3) pF (e1 (fun x : Int32 => decide (x < 0)) x) := C_1 h1 fun _ _ _ u kT kF => r_if_ge hd ht (fun q => kF (decide_eq_false (Int32.not_lt.mpr q))) (fun q => kT (decide_eq_true (Int32.not_le.mp q)))
theorem T1_lt (h1 : Ev cc κ d pc pc2 .int x) (hd : decode cc pc2 = .ok (.ifCond .lt off, 3)) (ht : (pc2 : Int) + off = (pT : Int)) : Cd cc κ d pc pT (pc2 + 3) (e1 (fun x : Int32 => decide (x < 0)) x) := C_1 h1 fun _ _ _ u kT kF => r_if_lt hd ht (fun q => kT (decide_eq_true q)) (fun q => kF (decide_eq_false q))
theorem J2_ge (h1 : Ev cc κ d pc pc1 .int x) (h2 : Ev cc κ (1 + d) pc1 pc2 .int y) (hd : decode cc pc2 = .ok (.if_icmp .lt off, 3)) (ht : (pc2 : Int) + off = (pF : Int)) : Cd cc κ d pc (pc2 + 3) pF (e2 (fun x y : Int32 => decide (y ≤ x)) x y) := C_2 h1 h2 fun _ _ _ u v kT kF => r_ic_lt hd ht (fun q => kF (decide_eq_false (Int32.not_le.mpr q))) (fun q => kT (decide_eq_true (Int32.not_lt.mp q)))
theorem T2_ge (h1 : Ev cc κ d pc pc1 .int x) (h2 : Ev cc κ (1 + d) pc1 pc2 .int y) (hd : decode cc pc2 = .ok (.if_icmp .ge off, 3)) (ht : (pc2 : Int) + off = (pT : Int)) : Cd cc κ d pc pT (pc2 + 3) (e2 (fun x y : Int32 => decide (y ≤ x)) x y) := C_2 h1 h2 fun _ _ _ u v kT kF => r_ic_ge hd ht (fun q => kT (decide_eq_true q)) (fun q => kF (decide_eq_false q))
theorem J1_ge (h1 : Ev cc κ d pc pc2 .int x) (hd : decode cc pc2 = .ok (.ifCond .lt off, 3)) (ht : (pc2 : Int) + off = (pF : Int)) : Cd cc κ d pc (pc2 + 3) pF (e1 (fun x : Int32 => decide (0 ≤ x)) x) := C_1 h1 fun _ _ _ u kT kF => r_if_lt hd ht (fun q => kF (decide_eq_false (Int32.not_le.mpr q))) (fun q => kT (decide_eq_true (Int32.not_lt.mp q)))
theorem T1_ge (h1 : Ev cc κ d pc pc2 .int x) (hd : decode cc pc2 = .ok (.ifCond .ge off, 3)) (ht : (pc2 : Int) + off = (pT : Int)) : Cd cc κ d pc pT (pc2 + 3) (e1 (fun x : Int32 => decide (0 ≤ x)) x) := C_1 h1 fun _ _ _ u kT kF => r_if_ge hd ht (fun q => kT (decide_eq_true q)) (fun q => kF (decide_eq_false q))
theorem J2_gt (h1 : Ev cc κ d pc pc1 .int x) (h2 : Ev cc κ (1 + d) pc1 pc2 .int y) (hd : decode cc pc2 = .ok (.if_icmp .le off, 3)) (ht : (pc2 : Int) + off = (pF : Int)) : Cd cc κ d pc (pc2 + 3) pF (e2 (fun x y : Int32 => decide (y < x)) x y) := C_2 h1 h2 fun _ _ _ u v kT kF => r_ic_le hd ht (fun q => kF (decide_eq_false (Int32.not_lt.mpr q))) (fun q => kT (decide_eq_true (Int32.not_le.mp q)))
theorem T2_gt (h1 : Ev cc κ d pc pc1 .int x) (h2 : Ev cc κ (1 + d) pc1 pc2 .int y) (hd : decode cc pc2 = .ok (.if_icmp .gt off, 3)) (ht : (pc2 : Int) + off = (pT : Int)) : Cd cc κ d pc pT (pc2 + 3) (e2 (fun x y : Int32 => decide (y < x)) x y) := C_2 h1 h2 fun _ _ _ u v kT kF => r_ic_gt hd ht (fun q => kT (decide_eq_true q)) (fun q => kF (decide_eq_false q))
theorem J1_gt (h1 : Ev cc κ d pc pc2 .int x) (hd : decode cc pc2 = .ok (.ifCond .le off, 3)) (ht : (pc2 : Int) + off = (pF : Int)) : Cd cc κ d pc (pc2 + 3) pF (e1 (fun x : Int32 => decide (0 < x)) x) := C_1 h1 fun _ _ _ u kT kF => r_if_le hd ht (fun q => kF (decide_eq_false (Int32.not_lt.mpr q))) (fun q => kT (decide_eq_true (Int32.not_le.mp q)))
theorem T1_gt (h1 : Ev cc κ d pc pc2 .int x) (hd : decode cc pc2 = .ok (.ifCond .gt off, 3)) (ht : (pc2 : Int) + off = (pT : Int)) : Cd cc κ d pc pT (pc2 + 3) (e1 (fun x : Int32 => decide (0 < x)) x) := C_1 h1 fun _ _ _ u kT kF => r_if_gt hd ht (fun q => kT (decide_eq_true q)) (fun q => kF (decide_eq_false q))
theorem J2_le (h1 : Ev cc κ d pc pc1 .int x) (h2 : Ev cc κ (1 + d) pc1 pc2 .int y) (hd : decode cc pc2 = .ok (.if_icmp .gt off, 3)) (ht : (pc2 : Int) + off = (pF : Int)) : Cd cc κ d pc (pc2 + 3) pF (e2 (fun x y : Int32 => decide (x ≤ y)) x y) := C_2 h1 h2 fun _ _ _ u v kT kF => r_ic_gt hd ht (fun q => kF (decide_eq_false (Int32.not_le.mpr q))) (fun q => kT (decide_eq_true (Int32.not_lt.mp q)))
theorem T2_le (h1 : Ev cc κ d pc pc1 .int x) (h2 : Ev cc κ (1 + d) pc1 pc2 .int y) (hd : decode cc pc2 = .ok (.if_icmp .le off, 3)) (ht : (pc2 : Int) + off = (pT : Int)) : Cd cc κ d pc pT (pc2 + 3) (e2 (fun x y : Int32 => decide (x ≤ y)) x y) := C_2 h1 h2 fun _ _ _ u v kT kF => r_ic_le hd ht (fun q => kT (decide_eq_true q)) (fun q => kF (decide_eq_false q))
theorem J1_le (h1 : Ev cc κ d pc pc2 .int x) (hd : decode cc pc2 = .ok (.ifCond .gt off, 3)) (ht : (pc2 : Int) + off = (pF : Int)) : Cd cc κ d pc (pc2 + 3) pF (e1 (fun x : Int32 => decide (x ≤ 0)) x) := C_1 h1 fun _ _ _ u kT kF => r_if_gt hd ht (fun q => kF (decide_eq_false (Int32.not_le.mpr q))) (fun q => kT (decide_eq_true (Int32.not_lt.mp q)))
theorem T1_le (h1 : Ev cc κ d pc pc2 .int x) (hd : decode cc pc2 = .ok (.ifCond .le off, 3)) (ht : (pc2 : Int) + off = (pT : Int)) : Cd cc κ d pc pT (pc2 + 3) (e1 (fun x : Int32 => decide (x ≤ 0)) x) := C_1 h1 fun _ _ _ u kT kF => r_if_le hd ht (fun q => kT (decide_eq_true q)) (fun q => kF (decide_eq_false q))
theorem J2_eq (h1 : Ev cc κ d pc pc1 .int x) (h2 : Ev cc κ (1 + d) pc1 pc2 .int y) (hd : decode cc pc2 = .ok (.if_icmp .ne off, 3)) (ht : (pc2 : Int) + off = (pF : Int)) : Cd cc κ d pc (pc2 + 3) pF (e2 (fun x y : Int32 => decide (x = y)) x y) := C_2 h1 h2 fun _ _ _ u v kT kF => r_ic_ne hd ht (fun q => kF (decide_eq_false q)) (fun q => kT (decide_eq_true q))
theorem T2_eq (h1 : Ev cc κ d pc pc1 .int x) (h2 : Ev cc κ (1 + d) pc1 pc2 .int y) (hd : decode cc pc2 = .ok (.if_icmp .eq off, 3)) (ht : (pc2 : Int) + off = (pT : Int)) : Cd cc κ d pc pT (pc2 + 3) (e2 (fun x y : Int32 => decide (x = y)) x y) := C_2 h1 h2 fun _ _ _ u v kT kF => r_ic_eq hd ht (fun q => kT (decide_eq_true q)) (fun q => kF (decide_eq_false q))
theorem J1_eq (h1 : Ev cc κ d pc pc2 .int x) (hd : decode cc pc2 = .ok (.ifCond .ne off, 3)) (ht : (pc2 : Int) + off = (pF : Int)) : Cd cc κ d pc (pc2 + 3) pF (e1 (fun x : Int32 => decide (x = 0)) x) := C_1 h1 fun _ _ _ u kT kF => r_if_ne hd ht (fun q => kF (decide_eq_false q)) (fun q => kT (decide_eq_true q))
theorem T1_eq (h1 : Ev cc κ d pc pc2 .int x) (hd : decode cc pc2 = .ok (.ifCond .eq off, 3)) (ht : (pc2 : Int) + off = (pT : Int)) : Cd cc κ d pc pT (pc2 + 3) (e1 (fun x : Int32 => decide (x = 0)) x) := C_1 h1 fun _ _ _ u kT kF => r_if_eq hd ht (fun q => kT (decide_eq_true q)) (fun q => kF (decide_eq_false q))
theorem J2_ne (h1 : Ev cc κ d pc pc1 .int x) (h2 : Ev cc κ (1 + d) pc1 pc2 .int y) (hd : decode cc pc2 = .ok (.if_icmp .eq off, 3)) (ht : (pc2 : Int) + off = (pF : Int)) : Cd cc κ d pc (pc2 + 3) pF (e2 (fun x y : Int32 => decide (¬ x = y)) x y) := C_2 h1 h2 fun _ _ _ u v kT kF => r_ic_eq hd ht (fun q => kF (decide_eq_false (fun z => z q))) (fun q => kT (decide_eq_true q))
theorem T2_ne (h1 : Ev cc κ d pc pc1 .int x) (h2 : Ev cc κ (1 + d) pc1 pc2 .int y) (hd : decode cc pc2 = .ok (.if_icmp .ne off, 3)) (ht : (pc2 : Int) + off = (pT : Int)) : Cd cc κ d pc pT (pc2 + 3) (e2 (fun x y : Int32 => decide (¬ x = y)) x y) := C_2 h1 h2 fun _ _ _ u v kT kF => r_ic_ne hd ht (fun q => kT (decide_eq_true q)) (fun q => kF (decide_eq_false (fun z => z q)))
theorem J1_ne (h1 : Ev cc κ d pc pc2 .int x) (hd : decode cc pc2 = .ok (.ifCond .eq off, 3)) (ht : (pc2 : Int) + off = (pF : Int)) : Cd cc κ d pc (pc2 + 3) pF (e1 (fun x : Int32 => decide (¬ x = 0)) x) := C_1 h1 fun _ _ _ u kT kF => r_if_eq hd ht (fun q => kF (decide_eq_false (fun z => z q))) (fun q => kT (decide_eq_true q))
theorem T1_ne (h1 : Ev cc κ d pc pc2 .int x) (hd : decode cc pc2 = .ok (.ifCond .ne off, 3)) (ht : (pc2 : Int) + off = (pT : Int)) : Cd cc κ d pc pT (pc2 + 3) (e1 (fun x : Int32 => decide (¬ x = 0)) x) := C_1 h1 fun _ _ _ u kT kF => r_if_ne hd ht (fun q => kT (decide_eq_true q)) (fun q => kF (decide_eq_false (fun z => z q)))
theorem lg_lt {x y : Int64} : lg_cmp x y < 0 ↔ x < y := by
  unfold lg_cmp
  split
  · next h => exact ⟨fun q => absurd q (by decide), fun q => absurd q (Int64.not_lt.mpr (Int64.le_of_lt h))⟩
  · next h =>
    split
    · next e => subst e; exact ⟨fun q => absurd q (by decide), fun q => absurd q (Int64.lt_irrefl)⟩
    · next e => exact ⟨fun _ => Int64.lt_of_le_of_ne (Int64.not_lt.mp h) e, fun _ => by decide⟩
theorem lg_gt {x y : Int64} : 0 < lg_cmp x y ↔ y < x := by
  unfold lg_cmp
  split
  · next h => exact ⟨fun _ => h, fun _ => by decide⟩
  · next h =>
    split
    · next e => exact ⟨fun q => absurd q (by decide), fun q => absurd q h⟩
    · next e => exact ⟨fun q => absurd q (by decide), fun q => absurd q h⟩
theorem lg_eq {x y : Int64} : lg_cmp x y = 0 ↔ x = y := by
  unfold lg_cmp
  split
  · next h => exact ⟨fun q => absurd q (by decide), fun q => by subst q; exact absurd h Int64.lt_irrefl⟩
  · next h =>
    split
    · next e => exact ⟨fun _ => e, fun _ => rfl⟩
    · next e => exact ⟨fun q => absurd q (by decide), fun q => absurd q e⟩
theorem lg_ge {x y : Int64} : 0 ≤ lg_cmp x y ↔ y ≤ x := by rw [← Int32.not_lt, lg_lt, Int64.not_lt]
theorem lg_le {x y : Int64} : lg_cmp x y ≤ 0 ↔ x ≤ y := by rw [← Int32.not_lt, lg_gt, Int64.not_lt]
theorem C_L {a b : PX Int64} {f : Int64 → Int64 → Bool} (h1 : Ev cc κ d pc pc1 .long a) (h2 : Ev cc κ (2 + d) pc1 pc2 .long b) (hl : decode cc pc2 = .ok (.lcmp, 1)) (op : ∀ ls st h u v, (f u v = true → wA cc κ pT ls st h) → (f u v = false → wA cc κ pF ls st h) → wA cc κ (pc2 + 1) ls (.int (lg_cmp u v) :: st) h) : Cd cc κ d pc pT pF (e2 f a b) :=
  fun ls st h K hs qt qf z => h1 ls st h _ hs (fun u h' z => h2 ls (.long u :: st) h' _ (by rw [stw_cons, catL]; omega) (fun v h2 z2 => r_lcmp hl (op ls st h2 u v (fun e => qt _ (by rw [e] at z2; exact z2)) (fun e => qf _ (by rw [e] at z2; exact z2)))) z) z
theorem JL_lt {a b : PX Int64} (h1 : Ev cc κ d pc pc1 .long a) (h2 : Ev cc κ (2 + d) pc1 pc2 .long b) (hl : decode cc pc2 = .ok (.lcmp, 1)) (hd : decode cc (pc2 + 1) = .ok (.ifCond .ge off, 3)) (ht : ((pc2 + 1 : Nat) : Int) + off = (pF : Int)) : Cd cc κ d pc (pc2 + 1 + 3) pF (e2 (fun x y : Int64 => decide (x < y)) a b) := C_L h1 h2 hl fun _ _ _ u v kT kF => r_if_ge hd ht (fun q => kF (decide_eq_false (Int64.not_lt.mpr (lg_ge.mp q)))) (fun q => kT (decide_eq_true (Int64.not_le.mp (fun z => q (lg_ge.mpr z)))))
theorem TL_lt {a b : PX Int64} (h1 : Ev cc κ d pc pc1 .long a) (h2 : Ev cc κ (2 + d) pc1 pc2 .long b) (hl : decode cc pc2 = .ok (.lcmp, 1)) (hd : decode cc (pc2 + 1) = .ok (.ifCond .lt off, 3)) (ht : ((pc2 + 1 : Nat) : Int) + off = (pT : Int)) : Cd cc κ d pc pT (pc2 + 1 + 3) (e2 (fun x y : Int64 => decide (x < y)) a b) := C_L h1 h2 hl fun _ _ _ u v kT kF => r_if_lt hd ht (fun q => kT (decide_eq_true (lg_lt.mp q))) (fun q => kF (decide_eq_false (fun z => q (lg_lt.mpr z))))
theorem JL_ge {a b : PX Int64} (h1 : Ev cc κ d pc pc1 .long a) (h2 : Ev cc κ (2 + d) pc1 pc2 .long b) (hl : decode cc pc2 = .ok (.lcmp, 1)) (hd : decode cc (pc2 + 1) = .ok (.ifCond .lt off, 3)) (ht : ((pc2 + 1 : Nat) : Int) + off = (pF : Int)) : Cd cc κ d pc (pc2 + 1 + 3) pF (e2 (fun x y : Int64 => decide (y ≤ x)) a b) := C_L h1 h2 hl fun _ _ _ u v kT kF => r_if_lt hd ht (fun q => kF (decide_eq_false (Int64.not_le.mpr (lg_lt.mp q)))) (fun q => kT (decide_eq_true (Int64.not_lt.mp (fun z => q (lg_lt.mpr z)))))
theorem TL_ge {a b : PX Int64} (h1 : Ev cc κ d pc pc1 .long a) (h2 : Ev cc κ (2 + d) pc1 pc2 .long b) (hl : decode cc pc2 = .ok (.lcmp, 1)) (hd : decode cc (pc2 + 1) = .ok (.ifCond .ge off, 3)) (ht : ((pc2 + 1 : Nat) : Int) + off = (pT : Int)) : Cd cc κ d pc pT (pc2 + 1 + 3) (e2 (fun x y : Int64 => decide (y ≤ x)) a b) := C_L h1 h2 hl fun _ _ _ u v kT kF => r_if_ge hd ht (fun q => kT (decide_eq_true (lg_ge.mp q))) (fun q => kF (decide_eq_false (fun z => q (lg_ge.mpr z))))
theorem JL_gt {a b : PX Int64} (h1 : Ev cc κ d pc pc1 .long a) (h2 : Ev cc κ (2 + d) pc1 pc2 .long b) (hl : decode cc pc2 = .ok (.lcmp, 1)) (hd : decode cc (pc2 + 1) = .ok (.ifCond .le off, 3)) (ht : ((pc2 + 1 : Nat) : Int) + off = (pF : Int)) : Cd cc κ d pc (pc2 + 1 + 3) pF (e2 (fun x y : Int64 => decide (y < x)) a b) := C_L h1 h2 hl fun _ _ _ u v kT kF => r_if_le hd ht (fun q => kF (decide_eq_false (Int64.not_lt.mpr (lg_le.mp q)))) (fun q => kT (decide_eq_true (Int64.not_le.mp (fun z => q (lg_le.mpr z)))))
theorem TL_gt {a b : PX Int64} (h1 : Ev cc κ d pc pc1 .long a) (h2 : Ev cc κ (2 + d) pc1 pc2 .long b) (hl : decode cc pc2 = .ok (.lcmp, 1)) (hd : decode cc (pc2 + 1) = .ok (.ifCond .gt off, 3)) (ht : ((pc2 + 1 : Nat) : Int) + off = (pT : Int)) : Cd cc κ d pc pT (pc2 + 1 + 3) (e2 (fun x y : Int64 => decide (y < x)) a b) := C_L h1 h2 hl fun _ _ _ u v kT kF => r_if_gt hd ht (fun q => kT (decide_eq_true (lg_gt.mp q))) (fun q => kF (decide_eq_false (fun z => q (lg_gt.mpr z))))
theorem JL_le {a b : PX Int64} (h1 : Ev cc κ d pc pc1 .long a) (h2 : Ev cc κ (2 + d) pc1 pc2 .long b) (hl : decode cc pc2 = .ok (.lcmp, 1)) (hd : decode cc (pc2 + 1) = .ok (.ifCond .gt off, 3)) (ht : ((pc2 + 1 : Nat) : Int) + off = (pF : Int)) : Cd cc κ d pc (pc2 + 1 + 3) pF (e2 (fun x y : Int64 => decide (x ≤ y)) a b) := C_L h1 h2 hl fun _ _ _ u v kT kF => r_if_gt hd ht (fun q => kF (decide_eq_false (Int64.not_le.mpr (lg_gt.mp q)))) (fun q => kT (decide_eq_true (Int64.not_lt.mp (fun z => q (lg_gt.mpr z)))))
theorem TL_le {a b : PX Int64} (h1 : Ev cc κ d pc pc1 .long a) (h2 : Ev cc κ (2 + d) pc1 pc2 .long b) (hl : decode cc pc2 = .ok (.lcmp, 1)) (hd : decode cc (pc2 + 1) = .ok (.ifCond .le off, 3)) (ht : ((pc2 + 1 : Nat) : Int) + off = (pT : Int)) : Cd cc κ d pc pT (pc2 + 1 + 3) (e2 (fun x y : Int64 => decide (x ≤ y)) a b) := C_L h1 h2 hl fun _ _ _ u v kT kF => r_if_le hd ht (fun q => kT (decide_eq_true (lg_le.mp q))) (fun q => kF (decide_eq_false (fun z => q (lg_le.mpr z))))
theorem JL_eq {a b : PX Int64} (h1 : Ev cc κ d pc pc1 .long a) (h2 : Ev cc κ (2 + d) pc1 pc2 .long b) (hl : decode cc pc2 = .ok (.lcmp, 1)) (hd : decode cc (pc2 + 1) = .ok (.ifCond .ne off, 3)) (ht : ((pc2 + 1 : Nat) : Int) + off = (pF : Int)) : Cd cc κ d pc (pc2 + 1 + 3) pF (e2 (fun x y : Int64 => decide (x = y)) a b) := C_L h1 h2 hl fun _ _ _ u v kT kF => r_if_ne hd ht (fun q => kF (decide_eq_false (fun z => q (lg_eq.mpr z)))) (fun q => kT (decide_eq_true (lg_eq.mp q)))
theorem TL_eq {a b : PX Int64} (h1 : Ev cc κ d pc pc1 .long a) (h2 : Ev cc κ (2 + d) pc1 pc2 .long b) (hl : decode cc pc2 = .ok (.lcmp, 1)) (hd : decode cc (pc2 + 1) = .ok (.ifCond .eq off, 3)) (ht : ((pc2 + 1 : Nat) : Int) + off = (pT : Int)) : Cd cc κ d pc pT (pc2 + 1 + 3) (e2 (fun x y : Int64 => decide (x = y)) a b) := C_L h1 h2 hl fun _ _ _ u v kT kF => r_if_eq hd ht (fun q => kT (decide_eq_true (lg_eq.mp q))) (fun q => kF (decide_eq_false (fun z => q (lg_eq.mpr z))))
theorem JL_ne {a b : PX Int64} (h1 : Ev cc κ d pc pc1 .long a) (h2 : Ev cc κ (2 + d) pc1 pc2 .long b) (hl : decode cc pc2 = .ok (.lcmp, 1)) (hd : decode cc (pc2 + 1) = .ok (.ifCond .eq off, 3)) (ht : ((pc2 + 1 : Nat) : Int) + off = (pF : Int)) : Cd cc κ d pc (pc2 + 1 + 3) pF (e2 (fun x y : Int64 => decide (¬ x = y)) a b) := C_L h1 h2 hl fun _ _ _ u v kT kF => r_if_eq hd ht (fun q => kF (decide_eq_false (fun z => z (lg_eq.mp q)))) (fun q => kT (decide_eq_true (fun z => q (lg_eq.mpr z))))
theorem TL_ne {a b : PX Int64} (h1 : Ev cc κ d pc pc1 .long a) (h2 : Ev cc κ (2 + d) pc1 pc2 .long b) (hl : decode cc pc2 = .ok (.lcmp, 1)) (hd : decode cc (pc2 + 1) = .ok (.ifCond .ne off, 3)) (ht : ((pc2 + 1 : Nat) : Int) + off = (pT : Int)) : Cd cc κ d pc pT (pc2 + 1 + 3) (e2 (fun x y : Int64 => decide (¬ x = y)) a b) := C_L h1 h2 hl fun _ _ _ u v kT kF => r_if_ne hd ht (fun q => kT (decide_eq_true (fun z => q (lg_eq.mpr z)))) (fun q => kF (decide_eq_false (fun z => z (lg_eq.mp q))))
end CC
end PR
end
section
def sSO : PS := fun kn _ _ _ ls h => (∃ x, ls[0]? = some (.ref x)) ∧ kn ls h
section SR
variable {cc : ByteArray} {κ : KT} {pc pc1 pc2 pc3 pc4 pT pF pN pB pC pS pG : Nat} {off : Int}
theorem S_sk : Ex cc κ pc pc pB pC sSk := fun _ _ _ _ _ _ qn _ _ _ z => qn _ _ z
theorem S_sq {a b : PS} (h1 : Ex cc κ pc pc1 pB pC a) (h2 : Ex cc κ pc1 pN pB pC b) : Ex cc κ pc pN pB pC (sSq a b) :=
  fun ls h kn kb kc kr qn qb qc qr z => h1 ls h _ kb kc kr (fun ls' h' z => h2 ls' h' kn kb kc kr qn qb qc qr z) qb qc qr z
theorem S_go {a : PS} (h1 : Ex cc κ pc pc1 pB pC a) (hd : decode cc pc1 = .ok (.goto off, 3)) (ht : (pc1 : Int) + off = (pN : Int)) : Ex cc κ pc pN pB pC a :=
  fun ls h kn kb kc kr qn qb qc qr z => h1 ls h kn kb kc kr (fun ls' h' z => r_goto hd ht (qn _ _ z)) qb qc qr z
theorem S_In {i : Nat} {k : Fin 4} {e : PX Int32} (h1 : Ev cc κ 0 pc pc1 .int e) (hd : decode cc pc1 = .ok (.istore_n k, 1)) (hi : (k : Nat) = i) : Ex cc κ pc (pc1 + 1) pB pC (sI i e) :=
  fun ls h kn kb kc kr qn qb qc qr z => h1 ls [] h _ (Nat.le_refl 0) (fun x h' ⟨z1, z2⟩ => r_istore_n hd hi z1 (qn _ _ z2)) z
theorem S_I {i : Nat} {e : PX Int32} (h1 : Ev cc κ 0 pc pc1 .int e) (hd : decode cc pc1 = .ok (.istore i, 2)) : Ex cc κ pc (pc1 + 2) pB pC (sI i e) :=
  fun ls h kn kb kc kr qn qb qc qr z => h1 ls [] h _ (Nat.le_refl 0) (fun x h' ⟨z1, z2⟩ => r_istore hd z1 (qn _ _ z2)) z
theorem S_Ln {i : Nat} {k : Fin 4} {e : PX Int64} (h1 : Ev cc κ 0 pc pc1 .long e) (hd : decode cc pc1 = .ok (.lstore_n k, 1)) (hi : (k : Nat) = i) : Ex cc κ pc (pc1 + 1) pB pC (sL i e) :=
  fun ls h kn kb kc kr qn qb qc qr z => h1 ls [] h _ (Nat.le_refl 0) (fun x h' ⟨z1, z2⟩ => r_lstore_n hd hi z1 (qn _ _ z2)) z
theorem S_L {i : Nat} {e : PX Int64} (h1 : Ev cc κ 0 pc pc1 .long e) (hd : decode cc pc1 = .ok (.lstore i, 2)) : Ex cc κ pc (pc1 + 2) pB pC (sL i e) :=
  fun ls h kn kb kc kr qn qb qc qr z => h1 ls [] h _ (Nat.le_refl 0) (fun x h' ⟨z1, z2⟩ => r_lstore hd z1 (qn _ _ z2)) z
theorem S_Rn {i : Nat} {k : Fin 4} {e : PX Nat} (h1 : Ev cc κ 0 pc pc1 .ref e) (hd : decode cc pc1 = .ok (.astore_n k, 1)) (hi : (k : Nat) = i) : Ex cc κ pc (pc1 + 1) pB pC (sR i e) :=
  fun ls h kn kb kc kr qn qb qc qr z => h1 ls [] h _ (Nat.le_refl 0) (fun x h' ⟨z1, z2⟩ => r_astore_n hd hi z1 (qn _ _ z2)) z
theorem S_Inc {i : Nat} {k : Int} {n : Int32} (hd : decode cc pc = .ok (.iinc i k, 3)) (hk : Int32.ofInt k = n) : Ex cc κ pc (pc + 3) pB pC (sInc i n) :=
  fun ls h kn kb kc kr qn qb qc qr ⟨_, z1, z2⟩ => by subst hk; exact r_iinc hd z1 (qn _ _ z2)
section SF
variable {own : String} {index ci k : Nat} {ty : FieldType} {fin : Nat} {a : PX Nat}
theorem S_FI {e : PX Int32} (hF : FldOK own index ci k .int 0) (ho : k_own κ = own) (h1 : Ev cc κ 0 pc pc1 .ref a) (h2 : Ev cc κ (1 + 0) pc1 pc2 .int e) (hd : decode cc pc2 = .ok (.putfield index, 3)) : Ex cc κ pc (pc2 + 3) pB pC (sF .int ci k a e) :=
  fun ls h kn kb kc kr qn qb qc qr z => h1 ls [] h _ (Nat.le_refl 0) (fun r h' z => h2 ls [.ref r] h' _ (Nat.le_of_eq rfl) (fun x h2 ⟨z1, z2, ⟨_, z3⟩, z4⟩ => r_put hF ho z1 z2 z3 rfl rfl hd (qn _ _ z4)) z) z
theorem S_FL {e : PX Int64} (hF : FldOK own index ci k .long 0) (ho : k_own κ = own) (h1 : Ev cc κ 0 pc pc1 .ref a) (h2 : Ev cc κ (1 + 0) pc1 pc2 .long e) (hd : decode cc pc2 = .ok (.putfield index, 3)) : Ex cc κ pc (pc2 + 3) pB pC (sF .long ci k a e) :=
  fun ls h kn kb kc kr qn qb qc qr z => h1 ls [] h _ (Nat.le_refl 0) (fun r h' z => h2 ls [.ref r] h' _ (Nat.le_of_eq rfl) (fun x h2 ⟨z1, z2, ⟨_, z3⟩, z4⟩ => r_put hF ho z1 z2 z3 rfl rfl hd (qn _ _ z4)) z) z
theorem S_FR {e : PX Nat} (hF : FldOK own index ci k ty 1) (ho : k_own κ = own) (hi : KO cc κ → (k_me κ).name = "<init>") (hn : ∀ q, narrow ty (.ref q) = .ref q ∧ fits ty (.ref q) = true) (h1 : Ev cc κ 0 pc pc1 .ref a) (h2 : Ev cc κ (1 + 0) pc1 pc2 .ref e) (hd : decode cc pc2 = .ok (.putfield index, 3)) : Ex cc κ pc (pc2 + 3) pB pC (sF .ref ci k a e) :=
  fun ls h kn kb kc kr qn qb qc qr z => h1 ls [] h _ (Nat.le_refl 0) (fun r h' z => h2 ls [.ref r] h' _ (Nat.le_of_eq rfl) (fun x h2 ⟨z1, z2, ⟨_, z3⟩, z4⟩ => r_putF hF ho z1 hi z2 z3 (hn _).1 (hn _).2 hd (qn _ _ z4)) z) z
theorem S_FO {index2 : Nat} {f : Int32 → Int32 → Int32} {e : PX Int32} {fin2 : Nat} (hF : FldOK own index ci k .int fin2) (hG : FldOK own index2 ci k .int 0) (ho : k_own κ = own) (h1 : Ev cc κ 0 pc pc1 .ref a) (hd1 : decode cc pc1 = .ok (.dup, 1)) (hd2 : decode cc (pc1 + 1) = .ok (.getfield index, 3)) (h2 : Ev cc κ 2 (pc1 + 1 + 3) pc2 .int e) (op : ∀ ls st h x y, wA cc κ (pc2 + 1) ls (.int (f x y) :: st) h → wA cc κ pc2 ls (.int y :: .int x :: st) h) (hd : decode cc (pc2 + 1) = .ok (.putfield index2, 3)) : Ex cc κ pc (pc2 + 1 + 3) pB pC (sFO ci k f a e) :=
  fun ls h kn kb kc kr qn qb qc qr z => h1 ls [] h _ (Nat.le_refl 0) (fun r h' ⟨z1, z2, x, z3, z4⟩ => r_dup hd1 rfl (r_get hF ho z1 z2 z3 hd2 (h2 ls [.int x, .ref r] h' _ (Nat.le_of_eq rfl) (fun y h2 ⟨y1, ⟨_, y2⟩, y3⟩ => op _ _ _ _ _ (r_put hG ho z1 y1 y2 rfl rfl hd (qn _ _ y3))) z4))) z
end SF
section SA
variable {a : PX Nat} {i e : PX Int32}
theorem S_AI (h1 : Ev cc κ 0 pc pc1 .ref a) (h2 : Ev cc κ (1 + 0) pc1 pc2 .int i) (h3 : Ev cc κ (1 + (1 + 0)) pc2 pc3 .int e) (hd : decode cc pc3 = .ok (.iastore, 1)) : Ex cc κ pc (pc3 + 1) pB pC (sAI a i e) :=
  fun ls h kn kb kc kr qn qb qc qr z => h1 ls [] h _ (Nat.le_refl 0) (fun r h' z => h2 ls [.ref r] h' _ (Nat.le_of_eq rfl) (fun j h2 z => h3 ls [.int j, .ref r] h2 _ (Nat.le_of_eq rfl) (fun x h3 ⟨z1, z2, z3, ⟨_, z4⟩, z5⟩ => r_iast z1 z2 z3 z4 hd (qn _ _ z5)) z) z) z
theorem S_AZ (h1 : Ev cc κ 0 pc pc1 .ref a) (h2 : Ev cc κ (1 + 0) pc1 pc2 .int i) (h3 : Ev cc κ (1 + (1 + 0)) pc2 pc3 .int e) (hd : decode cc pc3 = .ok (.bastore, 1)) : Ex cc κ pc (pc3 + 1) pB pC (sAZ a i e) :=
  fun ls h kn kb kc kr qn qb qc qr z => h1 ls [] h _ (Nat.le_refl 0) (fun r h' z => h2 ls [.ref r] h' _ (Nat.le_of_eq rfl) (fun j h2 z => h3 ls [.int j, .ref r] h2 _ (Nat.le_of_eq rfl) (fun x h3 ⟨z1, z2, z3, z0, ⟨_, z4⟩, z5⟩ => r_zast z1 z2 z3 z0 z4 hd (qn _ _ z5)) z) z) z
theorem S_AO {f : Int32 → Int32 → Int32} (h1 : Ev cc κ 0 pc pc1 .ref a) (h2 : Ev cc κ (1 + 0) pc1 pc2 .int i) (hd1 : decode cc pc2 = .ok (.dup2, 1)) (hd2 : decode cc (pc2 + 1) = .ok (.iaload, 1)) (h3 : Ev cc κ 3 (pc2 + 1 + 1) pc3 .int e) (op : ∀ ls st h x y, wA cc κ (pc3 + 1) ls (.int (f x y) :: st) h → wA cc κ pc3 ls (.int y :: .int x :: st) h) (hd : decode cc (pc3 + 1) = .ok (.iastore, 1)) : Ex cc κ pc (pc3 + 1 + 1) pB pC (sAO f a i e) :=
  fun ls h kn kb kc kr qn qb qc qr z => h1 ls [] h _ (Nat.le_refl 0) (fun r h' z => h2 ls [.ref r] h' _ (Nat.le_of_eq rfl) (fun j h2 ⟨z1, z2, z3, x, z4, z5⟩ => r_dup2 hd1 rfl rfl (r_iald (by omega) z2 z3 z4 hd2 (h3 ls [.int x, .int j, .ref r] h2 _ (Nat.le_of_eq rfl) (fun y h3 ⟨y1, ⟨_, y2⟩, y3⟩ => op _ _ _ _ _ (r_iast z1 y1 z3 y2 hd (qn _ _ y3))) z5))) z) z
end SA
theorem S_X {c : PX (Option Value)} (h1 : Eo cc κ 0 pc pc1 c) : Ex cc κ pc pc1 pB pC (sX c) :=
  fun ls h kn kb kc kr qn qb qc qr z => h1 ls [] h _ (Nat.le_refl 0) (fun o h' ⟨z1, z2⟩ => by subst z1; exact qn _ _ z2) z
theorem S_Xp {c : PX (Option Value)} (h1 : Eo cc κ 0 pc pc1 c) (hd : decode cc pc1 = .ok (.pop, 1)) : Ex cc κ pc (pc1 + 1) pB pC (sXp c) :=
  fun ls h kn kb kc kr qn qb qc qr z => h1 ls [] h _ (Nat.le_refl 0) (fun o h' ⟨⟨x, z1⟩, z2⟩ => by subst z1; exact r_pop hd rfl (qn _ _ z2)) z
theorem S_if1 {c : PX Bool} {a : PS} (h1 : Cd cc κ 0 pc pT pF c) (h2 : Ex cc κ pT pF pB pC a) : Ex cc κ pc pF pB pC (sIf c a sSk) :=
  fun ls h kn kb kc kr qn qb qc qr z => h1 ls [] h _ (Nat.le_refl 0) (fun h' z => h2 ls h' kn kb kc kr qn qb qc qr z) (fun h' z => qn _ _ z) z
theorem S_if2 {c : PX Bool} {a b : PS} (h1 : Cd cc κ 0 pc pT pF c) (h2 : Ex cc κ pT pN pB pC a) (h3 : Ex cc κ pF pN pB pC b) : Ex cc κ pc pN pB pC (sIf c a b) :=
  fun ls h kn kb kc kr qn qb qc qr z => h1 ls [] h _ (Nat.le_refl 0) (fun h' z => h2 ls h' kn kb kc kr qn qb qc qr z) (fun h' z => h3 ls h' kn kb kc kr qn qb qc qr z) z
theorem S_lp {n : Nat} {c : PX Bool} {b st : PS} (h1 : Cd cc κ 0 pc pT pF c) (h2 : Ex cc κ pT pS pF pS b) (h3 : Ex cc κ pS pG 0 0 st) (hd : decode cc pG = .ok (.goto off, 3)) (ht : (pG : Int) + off = (pc : Int)) : Ex cc κ pc pF pB pC (sLp n c b st) := by
  intro ls h kn kb kc kr qn qb qc qr z
  refine z (fun ls h => wA cc κ pc ls [] h) fun ls h z => ?_
  have step : ∀ ls2 h2, st (fun ls3 h3 => wA cc κ pc (lcut n ls3) [] h3) (fun _ _ => False) (fun _ _ => False) kr ls2 h2 → wA cc κ pS ls2 [] h2 := fun ls2 h2 z => h3 ls2 h2 _ _ _ kr (fun ls3 h3 z => r_goto hd ht (wA_cut n z)) (fun _ _ q => q.elim) (fun _ _ q => q.elim) qr z
  exact h1 ls [] h _ (Nat.le_refl 0) (fun h' z => h2 ls h' _ _ _ kr step (fun ls2 h2 z => wA_cut n (qn _ _ z)) step qr z) (fun h' z => qn _ _ z) z
theorem S_sqb {a : PS} (h1 : Ex cc κ pc pB pB pC a) : Ex cc κ pc pN pB pC (sSq a sBk) :=
  fun ls h kn kb kc kr qn qb qc qr z => h1 ls h kb kb kc kr qb qb qc qr z
theorem S_lp0 {n : Nat} {c : PX Bool} {b : PS} (h1 : Cd cc κ 0 pc pT pF c) (h2 : Ex cc κ pT pc pF pc b) : Ex cc κ pc pF pB pC (sLp n c b sSk) := by
  intro ls h kn kb kc kr qn qb qc qr z
  refine z (fun ls h => wA cc κ pc ls [] h) fun ls h z => ?_
  exact h1 ls [] h _ (Nat.le_refl 0) (fun h' z => h2 ls h' _ _ _ kr (fun ls2 h2 z => wA_cut n z) (fun ls2 h2 z => wA_cut n (qn _ _ z)) (fun ls2 h2 z => wA_cut n z) qr z) (fun h' z => qn _ _ z) z
theorem rk {rm rmc : Room} {maxL : Nat} (hR : k_R κ = rm) (h : (decide (rmc.frames + 1 ≤ rm.frames) && decide (8 + (maxL + 11) + rmc.locals ≤ rm.locals)) = true) : rmc.frames + 1 ≤ (k_R κ).frames ∧ 8 + (maxL + 11) + rmc.locals ≤ (k_R κ).locals := by
  simp only [Bool.and_eq_true, decide_eq_true_eq] at h
  rw [hR]; exact h
theorem rk1 {rm : Room} (hR : k_R κ = rm) (h : (decide (1 ≤ rm.frames) && decide (26 ≤ rm.locals)) = true) : 1 ≤ (k_R κ).frames ∧ 26 ≤ (k_R κ).locals := by
  simp only [Bool.and_eq_true, decide_eq_true_eq] at h
  rw [hR]; exact h
theorem rk2 {rm : Room} (hR : k_R κ = rm) (h : (decide (1 ≤ rm.frames) && decide (20 ≤ rm.locals)) = true) : 1 ≤ (k_R κ).frames ∧ 20 ≤ (k_R κ).locals := by
  simp only [Bool.and_eq_true, decide_eq_true_eq] at h
  rw [hR]; exact h
theorem S_cut {n : Nat} {a : PS} (h1 : Ex cc κ pc pN pB pC a) : Ex cc κ pc pN pB pC (sCut n a) :=
  fun ls h kn kb kc kr qn qb qc qr z => h1 ls h _ kb kc kr (fun ls' h' z => wA_cut n (qn _ _ z)) qb qc qr z
def Exs (cc : ByteArray) (κ : KT) (pE pC : Nat) : List Nat → List PS → Prop
  | [p], [] => p = pE
  | p :: q :: ps, b :: bs => Ex cc κ p q pE pC b ∧ Exs cc κ pE pC (q :: ps) bs
  | _, _ => False
theorem Exs_at {pE : Nat} : ∀ (i : Nat) (ps : List Nat) (bs : List PS), Exs cc κ pE pC ps bs → i ≤ bs.length → Ex cc κ (ps.getD i 0) pE pE pC (sSqs (bs.drop i))
  | 0, [p], [], h, _ => by cases h; exact S_sk
  | 0, p :: q :: ps, b :: bs, h, _ => by
    have := Exs_at 0 (q :: ps) bs h.2 (Nat.zero_le _)
    exact S_sq h.1 this
  | i + 1, p :: q :: ps, b :: bs, h, hi => Exs_at i (q :: ps) bs h.2 (by simpa using hi)
  | i + 1, [p], [], _, hi => absurd hi (by simp)
  | _, [], _, h, _ => by cases h
  | _, [_], _ :: _, h, _ => by cases h
  | _, _ :: _ :: _, [], h, _ => by cases h
theorem ixOf_le (m d : Nat) (v : Int32) (hd : d ≤ m) : ∀ tbl : List (Int32 × Nat), tbl.all (fun q => decide (q.2 ≤ m)) = true → ixOf tbl d v ≤ m
  | [], _ => hd
  | (k, i) :: t, h => by
    simp only [List.all_cons, Bool.and_eq_true, decide_eq_true_eq] at h
    simp only [ixOf]
    split
    · exact h.1
    · exact ixOf_le m d v hd t h.2
theorem S_sw {n : Nat} {e : PX Int32} {tbl : List (Int32 × Nat)} {d : Nat} {pcs : List Nat} {bs : List PS} (h1 : Ev cc κ 0 pc pc1 .int e) (hsw : ∀ ls h x, wA cc κ (pcs.getD (ixOf tbl d x) 0) ls [] h → wA cc κ pc1 ls [.int x] h) (hb : Exs cc κ pN pC pcs bs) (hd : (decide (d ≤ bs.length) && tbl.all (fun q => decide (q.2 ≤ bs.length))) = true) : Ex cc κ pc pN pB pC (sSw n e tbl d bs) := by
  intro ls h kn kb kc kr qn qb qc qr z
  simp only [Bool.and_eq_true, decide_eq_true_eq] at hd
  exact h1 ls [] h _ (Nat.le_refl 0) (fun x h' z => hsw ls h' x (Exs_at _ pcs bs hb (ixOf_le _ d x hd.1 tbl hd.2) ls h' _ _ kc kr (fun ls' h' z => wA_cut n (qn _ _ z)) (fun ls' h' z => wA_cut n (qn _ _ z)) qc qr z)) z
theorem S_ri {e : PX Int32} (hrt : k_rt κ = some .int) (h1 : Ev cc κ 0 pc pc1 .int e) (hd : decode cc pc1 = .ok (.ireturn, 1)) : Ex cc κ pc pN pB pC (sRt .int e) :=
  fun ls h kn kb kc kr qn qb qc qr z => h1 ls [] h _ (Nat.le_refl 0) (fun x h' z => r_ret (o := some (.int x)) (by rw [hrt]; exact ⟨rfl, x, rfl⟩) hd (qr _ _ z)) z
theorem S_rl {e : PX Int64} (hrt : k_rt κ = some .long) (h1 : Ev cc κ 0 pc pc1 .long e) (hd : decode cc pc1 = .ok (.lreturn, 1)) : Ex cc κ pc pN pB pC (sRt .long e) :=
  fun ls h kn kb kc kr qn qb qc qr z => h1 ls [] h _ (Nat.le_refl 0) (fun x h' z => r_ret (o := some (.long x)) (by rw [hrt]; exact ⟨rfl, x, rfl⟩) hd (qr _ _ z)) z
theorem S_rz {e : PX Int32} (hrt : k_rt κ = some .boolean) (h1 : Ev cc κ 0 pc pc1 .int e) (hd : decode cc pc1 = .ok (.ireturn, 1)) : Ex cc κ pc pN pB pC (sRz e) :=
  fun ls h kn kb kc kr qn qb qc qr z => h1 ls [] h _ (Nat.le_refl 0) (fun x h' ⟨z1, z2⟩ => r_ret (o := some (.int x)) (by rw [hrt]; exact ⟨rfl, x, rfl, z1⟩) hd (qr _ _ z2)) z
theorem S_rv (hrt : k_rt κ = none) (hd : decode cc pc = .ok (.return_, 1)) : Ex cc κ pc pN pB pC sRv :=
  fun ls h kn kb kc kr qn qb qc qr z => r_ret (o := none) (by rw [hrt]; exact ⟨rfl, rfl⟩) hd (qr _ _ z)
theorem S_bk0 : Ex cc κ pc pN pc pC sBk := fun _ _ _ _ _ _ _ qb _ _ z => qb _ _ z
theorem S_bk (hd : decode cc pc = .ok (.goto off, 3)) (ht : (pc : Int) + off = (pB : Int)) : Ex cc κ pc pN pB pC sBk := fun _ _ _ _ _ _ _ qb _ _ z => r_goto hd ht (qb _ _ z)
theorem S_ct (hd : decode cc pc = .ok (.goto off, 3)) (ht : (pc : Int) + off = (pC : Int)) : Ex cc κ pc pN pB pC sCt := fun _ _ _ _ _ _ _ _ qc _ z => r_goto hd ht (qc _ _ z)
theorem S_so {own : String} {index : Nat} (hw : Cond.methodLink own index Lib.objectInit ∈ BIG) (hi : Cond.instanceMethod Lib.objectInit ∈ BIG) (hc : Cond.code Lib.objectInit ⟨#[0xb1]⟩ 1 none ∈ BIG) (ho : k_own κ = own) (hR : 1 ≤ (k_R κ).frames ∧ 20 ≤ (k_R κ).locals) (hd0 : decode cc pc = .ok (.aload_n 0, 1)) (hd : decode cc (pc + 1) = .ok (.invokespecial index, 3)) : Ex cc κ pc (pc + 1 + 3) pB pC sSO :=
  fun ls h kn kb kc kr qn qb qc qr ⟨⟨x, z1⟩, z2⟩ => r_aload_n hd0 rfl z1 (r_oinit hw hi hc ho hR (by decide) hd (qn _ _ z2))
theorem S_cp {own : String} {index : Nat} {a b : PX Nat} {i j m : PX Int32} (hw : Cond.methodLink own index arraycopyName ∈ BIG) (hwn : Cond.native arraycopyName ∈ BIG) (hws : Cond.static arraycopyName ∈ BIG) (hwi : Cond.initialized "java/lang/System" ∈ BIG) (ho : k_own κ = own) (hR : 1 ≤ (k_R κ).frames ∧ 26 ≤ (k_R κ).locals)
    (h1 : Ev cc κ 0 pc pc1 .ref a) (h2 : Ev cc κ 1 pc1 pc2 .int i) (h3 : Ev cc κ 2 pc2 pc3 .ref b) (h4 : Ev cc κ 3 pc3 pc4 .int j) (h5 : Ev cc κ 4 pc4 pS .int m) (hd : decode cc pS = .ok (.invokestatic index, 3)) : Ex cc κ pc (pS + 3) pB pC (sCp a i b j m) :=
  fun ls h kn kb kc kr qn qb qc qr z => h1 ls [] h _ (Nat.le_refl 0) (fun r h1 z => h2 ls [.ref r] h1 _ (Nat.le_of_eq rfl) (fun x h2 z => h3 ls [.int x, .ref r] h2 _ (Nat.le_of_eq rfl) (fun q h3 z => h4 ls [.ref q, .int x, .ref r] h3 _ (Nat.le_of_eq rfl) (fun y h4 z => h5 ls [.int y, .ref q, .int x, .ref r] h4 _ (Nat.le_of_eq rfl)
    (fun w h5 ⟨src, dst, z1, z2, z3, z4, z5, z6, z7, z8, z9, z10⟩ => r_copy hw hwn hws hwi ho hR (by decide) z1 z2 z3 z4 z5 z6 z7 z8 z9 hd (qn _ _ z10)) z) z) z) z) z
theorem E_new {own : String} {index index2 d ci n : Nat} {fs : List Value} {y : MethodName} {bytes : ByteArray} {maxL : Nat} {rm : Room} {F : PM} {as : PX LV} {g : Nat × Nat} (hg : g = (k_n0 κ + (k_R κ).cells, k_t0 κ + (k_R κ).slots)) (hF : NewOK own index ci fs) (hc : CallI own index2 y bytes maxL n) (hC : Ctr (k_l κ) y bytes maxL none rm F) (ho : k_own κ = own) (hR : rm.frames + 1 ≤ (k_R κ).frames ∧ 8 + (maxL + 11) + rm.locals ≤ (k_R κ).locals) (h8 : d ≤ 7)
    (hd0 : decode cc pc = .ok (.new index, 3)) (hd1 : decode cc (pc + 3) = .ok (.dup, 1)) (h1 : Ea cc κ (2 + d) (pc + 3 + 1) pc1 as) (hd : decode cc pc1 = .ok (.invokespecial index2, 3)) : Ev cc κ d pc (pc1 + 3) .ref (eNew g ci fs rm n F as) := by
  intro ls st h K hs q ⟨z1, z2, z3⟩
  subst hg
  refine r_new hF ho z1 z2 hd0 (r_dup hd1 rfl (h1 ls (.ref h.length :: .ref h.length :: st) _ _ (by rw [stw_cons, stw_cons, catR]; omega) ?_ z3))
  rintro t h1 ⟨y1, y2, y3, y4⟩
  exact r_callI hc hC ho hR (by rw [stw_cons, catR]; omega) y2 y3 y1 y4 hd (fun o h' ⟨x1, x2⟩ => by subst x1; exact q _ _ x2)
theorem E_NI {d : Nat} {n : PX Int32} {g : Nat × Nat} (hg : g = (k_n0 κ + (k_R κ).cells, k_t0 κ + (k_R κ).slots)) (hw : Cond.arrayClass .int ∈ BIG) (h1 : Ev cc κ d pc pc1 .int n) (hd : decode cc pc1 = .ok (.newarray .int, 2)) : Ev cc κ d pc (pc1 + 2) .ref (eNA g 20 n) :=
  fun ls st h K hs q z => by subst hg; exact h1 ls st h _ hs (fun x h' ⟨z1, z2, z3, z4, z5⟩ => r_newI hw z1 rfl z2 z3 z4 hd (q _ _ z5)) z
theorem E_NZ {d : Nat} {n : PX Int32} {g : Nat × Nat} (hg : g = (k_n0 κ + (k_R κ).cells, k_t0 κ + (k_R κ).slots)) (hw : Cond.arrayClass .boolean ∈ BIG) (h1 : Ev cc κ d pc pc1 .int n) (hd : decode cc pc1 = .ok (.newarray .boolean, 2)) : Ev cc κ d pc (pc1 + 2) .ref (eNA g 21 n) :=
  fun ls st h K hs q z => by subst hg; exact h1 ls st h _ hs (fun x h' ⟨z1, z2, z3, z4, z5⟩ => r_newZ hw z1 rfl z2 z3 z4 hd (q _ _ z5)) z
theorem E_NM {own : String} {index d : Nat} {n : PX Int32} {g : Nat × Nat} (hg : g = (k_n0 κ + (k_R κ).cells, k_t0 κ + (k_R κ).slots)) (hw : Cond.classLink own index "[[I" ∈ BIG) (hwa : Cond.arrayClass .int ∈ BIG) (ho : k_own κ = own) (hd0 : decode cc pc = .ok (.iconst 2, 1)) (h1 : Ev cc κ (1 + d) (pc + 1) pc1 .int n) (hd : decode cc pc1 = .ok (.multianewarray index 2, 4)) : Ev cc κ d pc (pc1 + 4) .ref (eNM g n) :=
  fun ls st h K hs q z => by subst hg; exact r_iconst hd0 rfl (h1 ls (.int 2 :: st) h _ (by rw [stw_cons, catI]; omega) (fun x h' ⟨z1, z2, z3, z4, z5⟩ => r_mna hw hwa ho z1 rfl z2 z3 z4 hd (q _ _ z5)) z)
end SR
/-! from a method's body to its contract -/
def lx : List Value → LV
  | [] => []
  | v :: t => if v.category = 2 then v :: .null :: lx t else v :: lx t
def lini (n : Nat) (vs : List Value) : LV := lx vs ++ List.replicate (n - (lx vs).length) .null
theorem lx_args (G : GT) : ∀ (vs : List Value) (i : Nat) (v : Value) (k : Nat), (lx vs)[i]? = some v → v ≠ .null → (k + i, cv G v) ∈ lv_args k (vs.map (cv G))
  | [], i, v, k, h, _ => by simp [lx] at h
  | w :: t, i, v, k, h, hv => by
    simp only [List.map_cons, lv_args, cv_cat]
    unfold lx at h
    by_cases hc : w.category = 2
    · rw [if_pos hc] at h ⊢
      match i, h with
      | 0, h => simp at h; subst h; exact List.mem_cons_self
      | 1, h => simp at h; exact absurd h.symm hv
      | i + 2, h =>
        simp only [List.getElem?_cons_succ] at h
        have := lx_args G t i v (k + 2) h hv
        rw [show k + 2 + i = k + (i + 2) by omega] at this
        exact List.mem_cons_of_mem _ this
    · rw [if_neg hc] at h ⊢
      match i, h with
      | 0, h => simp at h; subst h; exact List.mem_cons_self
      | i + 1, h =>
        simp only [List.getElem?_cons_succ] at h
        have := lx_args G t i v (k + 1) h hv
        rw [show k + 1 + i = k + (i + 1) by omega] at this
        exact List.mem_cons_of_mem _ this
theorem lx_len (G : GT) : ∀ vs : List Value, (lg_sl (vs.map (cv G))).length = (lx vs).length
  | [] => rfl
  | v :: t => by
    have ih := lx_len G t
    unfold lg_sl at ih ⊢
    simp only [List.map_cons, List.flatMap_cons, List.length_append, ih, cv_cat]
    simp only [lx]
    split <;> simp <;> omega
theorem lini_Lh (G : GT) {n : Nat} {vs : List Value} (h : (lx vs).length ≤ n) : Lh G n ((lg_sl (vs.map (cv G)) ++ List.replicate (n - (lg_sl (vs.map (cv G))).length) Slot.unset).toArray) (lini n vs) := by
  have h0 := lv_entry (vs.map (cv G)) (n := n) (by rw [lx_len]; exact h)
  refine ⟨by unfold lini; rw [List.length_append, List.length_replicate]; omega, h0.1, h0.2.1, fun q hq => ?_⟩
  obtain ⟨v, h1, h2, h3⟩ := asc_mem.mp hq
  have hlt : (lini n vs)[q.1]? = some v := h1
  unfold lini at hlt
  by_cases hl : q.1 < (lx vs).length
  · rw [List.getElem?_append_left hl] at hlt
    have := lx_args G vs q.1 v 0 hlt h2
    rw [Nat.zero_add] at this
    have h5 := h0.2.2 _ this
    rw [h3]
    exact h5
  · rw [List.getElem?_append_right (by omega), List.getElem?_replicate] at hlt
    split at hlt
    · exact absurd (Option.some.inj hlt).symm h2
    · cases hlt
/-- the contract of a method with the body B, out of how its bytecode carries B -/
theorem Ctr_of {l : Launch} {y : MethodName} {bytes : ByteArray} {maxL : Nat} {ret : Option FieldType} {rm : Room} {own : String} {X : PM} {B : Nat × Nat → PS} {KR : HV → (Option Value → HV → Prop) → Option Value → HV → Prop} (hy : plainName y.cls = true) (hown : y.cls = own)
    (hX : ∀ vs h Q, X vs h Q → (lx vs).length ≤ maxL ∧ B (h.length + rm.cells, hsz h + rm.slots) (fun _ _ => False) (fun _ _ => False) (fun _ _ => False) (KR h Q) (lini maxL vs) h)
    (hKR : ∀ h Q o h', KR h Q o h' → (rm.cells = 0 ∧ rm.slots = 0 ∨ h'.length = h.length + rm.cells ∧ hsz h' = hsz h + rm.slots) ∧ Q o h')
    (hrt : ret = none ∨ ret = some .int ∨ ret = some .boolean ∨ ret = some .long)
    (hB : ∀ κ : KT, k_l κ = l → k_own κ = own → k_R κ = rm → k_rt κ = ret → (k_me κ).name = y.name → Ex bytes κ 0 0 0 0 (B (k_n0 κ + (k_R κ).cells, k_t0 κ + (k_R κ).slots))) : Ctr l y bytes maxL ret rm X := by
  subst hown
  intro G vs h Qp hXX
  obtain ⟨hlen, hBB⟩ := hX vs h Qp hXX
  refine Met.ofW (cc := bytes) (maxL := maxL) (ret := ret) hy rfl ?_
  intro p e s m args below meth c s₁ BB hml hv
  obtain ⟨rfl, hWo, hTa⟩ := hv
  have hts0 := atoms_spec (ws := Cond.code y bytes maxL ret :: BIG) BB.pre
  have hr : meth.sig.returnType = ret := BB.returns
  have hlocks := BB.notSynchronized
  rw [lg_entry_eq]
  let κ : KT := (p, l, e, rm, s, m, ((vs.map (cv G)).toArray), below, meth, c, MQ below (mQ G h rm Qp) ((vs.map (cv G)).toArray) s rm.cells rm.slots (g_A G), G, maxL, h.length, hsz h, y.cls, ret, KR h Qp)
  have O : KO bytes κ := by
    refine ⟨BB.exec, BB.bytes, hml, findClass_of_methodNamed BB.named, fun w hw => hts0 w (List.mem_cons_of_mem _ hw), hTa, ?_⟩
    intro pc i o mls H locs cells slots h' hri hd hW hQ0
    have hQ := hKR _ _ _ _ hQ0
    obtain ⟨⟨w1, w2, w3, w4⟩, w5, w6, w7, w8, w9, w10⟩ := id hW
    have w9 : cells ≤ rm.cells := w9
    have w10 : slots ≤ rm.slots := w10
    have w7 : h'.length = h.length + cells := w7
    have w8 : hsz h' = hsz h + slots := w8
    have hq : ∀ t : State, t.heap = H → s.WarmedH t.vm → mQ G h rm Qp ((vs.map (cv G)).toArray) s (.returned (o.map (cv G))) t := fun t ht _ => by
      have e1 : h'.length = h.length + rm.cells ∧ hsz h' = hsz h + rm.slots := by
        rcases hQ.1 with q | q
        · exact ⟨by omega, by omega⟩
        · exact q
      exact ⟨⟨o, h', rfl, hQ.2, by rw [ht]; exact hW.1, e1.1, e1.2⟩, w5.F ht⟩
    have hri : retI ret i o := hri
    refine W.widen w9 w10 ?_
    rcases hrt with rfl | rfl | rfl | rfl
    · obtain ⟨rfl, rfl⟩ := hri
      exact W.vret BB.exec BB.bytes hr hq w5.2.2 hd
    · obtain ⟨rfl, x, rfl⟩ := hri
      exact W.iret BB.exec BB.bytes hr hq w5.2.2 hd
    · obtain ⟨rfl, x, rfl, hx⟩ := hri
      exact W.zret BB.exec BB.bytes hr (by rcases hx with rfl | rfl <;> rfl) hq w5.2.2 hd
    · obtain ⟨rfl, x, rfl⟩ := hri
      exact W.lret BB.exec BB.bytes hr hq w5.2.2 hd
  have key := hB κ rfl rfl rfl rfl (name_of_methodNamed BB.named BB.method).1 (lini maxL vs) h (fun _ _ => False) (fun _ _ => False) (fun _ _ => False) (KR h Qp) (fun _ _ q => q.elim) (fun _ _ q => q.elim) (fun _ _ q => q.elim) (fun _ _ q => q) hBB
  exact key O _ s.heap [] 0 0 (lini_Lh G hlen) ⟨hWo, va_S.rf, rfl, rfl, rfl, Nat.zero_le _, Nat.zero_le _⟩
end
