section
-- ===== PART A: goes FIRST, ahead of the names: the tables' words, and 'selects' of the private methods out of them =====
/-- a private method of a class that the tables say can be made, by its rows of tables_1 -/
def lw_okq (q : MethodName × Nat) : Prop := (q.1.cls ≠ "java/lang/invoke/MethodHandle" ∧ q.1.cls ≠ "java/lang/invoke/VarHandle") ∧ Cond.instantiable q.1.cls q.2 ∈ tables_1 ∧ Cond.privateMethod q.1 ∈ tables_1 ∧ Cond.instanceMethod q.1 ∈ tables_1
theorem lw_p0 : lw_okq (⟨"PackLanes", "restart", "(III)V"⟩, 14) := ⟨⟨by decide +kernel, by decide +kernel⟩, List.mem_of_getElem? (i := 16) (by decide +kernel), List.mem_of_getElem? (i := 293) (by decide +kernel), List.mem_of_getElem? (i := 294) (by decide +kernel)⟩
theorem lw_p1 : lw_okq (⟨"PackLanes$Links", "link", "(IIII)V"⟩, 5) := ⟨⟨by decide +kernel, by decide +kernel⟩, List.mem_of_getElem? (i := 146) (by decide +kernel), List.mem_of_getElem? (i := 320) (by decide +kernel), List.mem_of_getElem? (i := 321) (by decide +kernel)⟩
theorem lw_p2 : lw_okq (⟨"PackLanes$Links", "clashInMemory", "(IIII)Z"⟩, 5) := ⟨⟨by decide +kernel, by decide +kernel⟩, List.mem_of_getElem? (i := 146) (by decide +kernel), List.mem_of_getElem? (i := 328) (by decide +kernel), List.mem_of_getElem? (i := 329) (by decide +kernel)⟩
theorem lw_p3 : lw_okq (⟨"PackLanes$Links", "clashByStop", "(II)Z"⟩, 5) := ⟨⟨by decide +kernel, by decide +kernel⟩, List.mem_of_getElem? (i := 146) (by decide +kernel), List.mem_of_getElem? (i := 340) (by decide +kernel), List.mem_of_getElem? (i := 341) (by decide +kernel)⟩
theorem lw_p4 : lw_okq (⟨"PackLanes$Packer", "leastStore", "(II)I"⟩, 14) := ⟨⟨by decide +kernel, by decide +kernel⟩, List.mem_of_getElem? (i := 140) (by decide +kernel), List.mem_of_getElem? (i := 348) (by decide +kernel), List.mem_of_getElem? (i := 349) (by decide +kernel)⟩
theorem lw_p5 : lw_okq (⟨"PackLanes$Packer", "considerRoot", "(I)V"⟩, 14) := ⟨⟨by decide +kernel, by decide +kernel⟩, List.mem_of_getElem? (i := 140) (by decide +kernel), List.mem_of_getElem? (i := 372) (by decide +kernel), List.mem_of_getElem? (i := 373) (by decide +kernel)⟩
theorem lw_p6 : lw_okq (⟨"PackLanes$Tree", "addPack", "(I)V"⟩, 11) := ⟨⟨by decide +kernel, by decide +kernel⟩, List.mem_of_getElem? (i := 172) (by decide +kernel), List.mem_of_getElem? (i := 380) (by decide +kernel), List.mem_of_getElem? (i := 381) (by decide +kernel)⟩
theorem lw_p7 : lw_okq (⟨"PackLanes$Tree", "operands", "(II)I"⟩, 11) := ⟨⟨by decide +kernel, by decide +kernel⟩, List.mem_of_getElem? (i := 172) (by decide +kernel), List.mem_of_getElem? (i := 385) (by decide +kernel), List.mem_of_getElem? (i := 386) (by decide +kernel)⟩
theorem lw_p8 : lw_okq (⟨"PackLanes$Tree", "append", "(I)V"⟩, 11) := ⟨⟨by decide +kernel, by decide +kernel⟩, List.mem_of_getElem? (i := 172) (by decide +kernel), List.mem_of_getElem? (i := 392) (by decide +kernel), List.mem_of_getElem? (i := 393) (by decide +kernel)⟩
theorem lw_p9 : lw_okq (⟨"PackLanes$Tree", "handle", "(I)V"⟩, 11) := ⟨⟨by decide +kernel, by decide +kernel⟩, List.mem_of_getElem? (i := 172) (by decide +kernel), List.mem_of_getElem? (i := 396) (by decide +kernel), List.mem_of_getElem? (i := 397) (by decide +kernel)⟩
theorem lw_p10 : lw_okq (⟨"PackLanes$Tree", "turnedLanes", "(I)I"⟩, 11) := ⟨⟨by decide +kernel, by decide +kernel⟩, List.mem_of_getElem? (i := 172) (by decide +kernel), List.mem_of_getElem? (i := 401) (by decide +kernel), List.mem_of_getElem? (i := 402) (by decide +kernel)⟩
theorem lw_p11 : lw_okq (⟨"PackLanes$Tree", "hasPack", "(I)Z"⟩, 11) := ⟨⟨by decide +kernel, by decide +kernel⟩, List.mem_of_getElem? (i := 172) (by decide +kernel), List.mem_of_getElem? (i := 405) (by decide +kernel), List.mem_of_getElem? (i := 406) (by decide +kernel)⟩
theorem lw_p12 : lw_okq (⟨"PackLanes$Tree", "takeOneByOne", "(I)V"⟩, 11) := ⟨⟨by decide +kernel, by decide +kernel⟩, List.mem_of_getElem? (i := 172) (by decide +kernel), List.mem_of_getElem? (i := 409) (by decide +kernel), List.mem_of_getElem? (i := 410) (by decide +kernel)⟩
theorem lw_p13 : lw_okq (⟨"PackLanes$Tree", "isTakenOut", "(I)Z"⟩, 11) := ⟨⟨by decide +kernel, by decide +kernel⟩, List.mem_of_getElem? (i := 172) (by decide +kernel), List.mem_of_getElem? (i := 418) (by decide +kernel), List.mem_of_getElem? (i := 419) (by decide +kernel)⟩
theorem lw_p14 : lw_okq (⟨"PackLanes$Packer", "joinTree", "(Z)V"⟩, 14) := ⟨⟨by decide +kernel, by decide +kernel⟩, List.mem_of_getElem? (i := 140) (by decide +kernel), List.mem_of_getElem? (i := 422) (by decide +kernel), List.mem_of_getElem? (i := 423) (by decide +kernel)⟩
theorem lw_p15 : lw_okq (⟨"PackLanes$Packer", "putInOrder", "()Z"⟩, 14) := ⟨⟨by decide +kernel, by decide +kernel⟩, List.mem_of_getElem? (i := 140) (by decide +kernel), List.mem_of_getElem? (i := 428) (by decide +kernel), List.mem_of_getElem? (i := 429) (by decide +kernel)⟩
def lw_privs_1 : List (MethodName × Nat) := [(⟨"PackLanes", "restart", "(III)V"⟩, 14), (⟨"PackLanes$Links", "link", "(IIII)V"⟩, 5), (⟨"PackLanes$Links", "clashInMemory", "(IIII)Z"⟩, 5), (⟨"PackLanes$Links", "clashByStop", "(II)Z"⟩, 5), (⟨"PackLanes$Packer", "leastStore", "(II)I"⟩, 14), (⟨"PackLanes$Packer", "considerRoot", "(I)V"⟩, 14), (⟨"PackLanes$Tree", "addPack", "(I)V"⟩, 11), (⟨"PackLanes$Tree", "operands", "(II)I"⟩, 11), (⟨"PackLanes$Tree", "append", "(I)V"⟩, 11), (⟨"PackLanes$Tree", "handle", "(I)V"⟩, 11), (⟨"PackLanes$Tree", "turnedLanes", "(I)I"⟩, 11), (⟨"PackLanes$Tree", "hasPack", "(I)Z"⟩, 11), (⟨"PackLanes$Tree", "takeOneByOne", "(I)V"⟩, 11), (⟨"PackLanes$Tree", "isTakenOut", "(I)Z"⟩, 11), (⟨"PackLanes$Packer", "joinTree", "(Z)V"⟩, 14), (⟨"PackLanes$Packer", "putInOrder", "()Z"⟩, 14)]
theorem lw_r1 : ∀ q ∈ lw_privs_1, lw_okq q := List.forall_mem_cons.mpr ⟨lw_p0, List.forall_mem_cons.mpr ⟨lw_p1, List.forall_mem_cons.mpr ⟨lw_p2, List.forall_mem_cons.mpr ⟨lw_p3, List.forall_mem_cons.mpr ⟨lw_p4, List.forall_mem_cons.mpr ⟨lw_p5, List.forall_mem_cons.mpr ⟨lw_p6, List.forall_mem_cons.mpr ⟨lw_p7, List.forall_mem_cons.mpr ⟨lw_p8, List.forall_mem_cons.mpr ⟨lw_p9, List.forall_mem_cons.mpr ⟨lw_p10, List.forall_mem_cons.mpr ⟨lw_p11, List.forall_mem_cons.mpr ⟨lw_p12, List.forall_mem_cons.mpr ⟨lw_p13, List.forall_mem_cons.mpr ⟨lw_p14, List.forall_mem_cons.mpr ⟨lw_p15, fun _ h => absurd h List.not_mem_nil⟩⟩⟩⟩⟩⟩⟩⟩⟩⟩⟩⟩⟩⟩⟩⟩
theorem lw_p16 : lw_okq (⟨"PackLanes$Packer", "leastReady", "(I)I"⟩, 14) := ⟨⟨by decide +kernel, by decide +kernel⟩, List.mem_of_getElem? (i := 140) (by decide +kernel), List.mem_of_getElem? (i := 432) (by decide +kernel), List.mem_of_getElem? (i := 433) (by decide +kernel)⟩
theorem lw_p17 : lw_okq (⟨"PackLanes$Packer", "followedBy", "(I)I"⟩, 14) := ⟨⟨by decide +kernel, by decide +kernel⟩, List.mem_of_getElem? (i := 140) (by decide +kernel), List.mem_of_getElem? (i := 436) (by decide +kernel), List.mem_of_getElem? (i := 437) (by decide +kernel)⟩
theorem lw_p18 : lw_okq (⟨"PackLanes$Packer", "appendNode", "(II)V"⟩, 14) := ⟨⟨by decide +kernel, by decide +kernel⟩, List.mem_of_getElem? (i := 140) (by decide +kernel), List.mem_of_getElem? (i := 440) (by decide +kernel), List.mem_of_getElem? (i := 441) (by decide +kernel)⟩
theorem lw_p19 : lw_okq (⟨"PackLanes$Machine", "begin", "([I)V"⟩, 5) := ⟨⟨by decide +kernel, by decide +kernel⟩, List.mem_of_getElem? (i := 268) (by decide +kernel), List.mem_of_getElem? (i := 571) (by decide +kernel), List.mem_of_getElem? (i := 572) (by decide +kernel)⟩
theorem lw_p20 : lw_okq (⟨"PackLanes$Machine", "carryOut", "(I)V"⟩, 5) := ⟨⟨by decide +kernel, by decide +kernel⟩, List.mem_of_getElem? (i := 268) (by decide +kernel), List.mem_of_getElem? (i := 578) (by decide +kernel), List.mem_of_getElem? (i := 579) (by decide +kernel)⟩
theorem lw_p21 : lw_okq (⟨"PackLanes", "bestWidth", "()I"⟩, 14) := ⟨⟨by decide +kernel, by decide +kernel⟩, List.mem_of_getElem? (i := 16) (by decide +kernel), List.mem_of_getElem? (i := 587) (by decide +kernel), List.mem_of_getElem? (i := 588) (by decide +kernel)⟩
theorem lw_p22 : lw_okq (⟨"PackLanes", "isRight", "(I)Z"⟩, 14) := ⟨⟨by decide +kernel, by decide +kernel⟩, List.mem_of_getElem? (i := 16) (by decide +kernel), List.mem_of_getElem? (i := 649) (by decide +kernel), List.mem_of_getElem? (i := 650) (by decide +kernel)⟩
theorem lw_p23 : lw_okq (⟨"PackLanes", "sumGainsOfAllChoices", "(I)V"⟩, 14) := ⟨⟨by decide +kernel, by decide +kernel⟩, List.mem_of_getElem? (i := 16) (by decide +kernel), List.mem_of_getElem? (i := 682) (by decide +kernel), List.mem_of_getElem? (i := 683) (by decide +kernel)⟩
theorem lw_p24 : lw_okq (⟨"PackLanes", "storesOutside", "(I)I"⟩, 14) := ⟨⟨by decide +kernel, by decide +kernel⟩, List.mem_of_getElem? (i := 16) (by decide +kernel), List.mem_of_getElem? (i := 686) (by decide +kernel), List.mem_of_getElem? (i := 687) (by decide +kernel)⟩
theorem lw_p25 : lw_okq (⟨"PackLanes", "drawStartValues", "()V"⟩, 14) := ⟨⟨by decide +kernel, by decide +kernel⟩, List.mem_of_getElem? (i := 16) (by decide +kernel), List.mem_of_getElem? (i := 717) (by decide +kernel), List.mem_of_getElem? (i := 718) (by decide +kernel)⟩
theorem lw_p26 : lw_okq (⟨"PackLanesModel", "readText", "()I"⟩, 50) := ⟨⟨by decide +kernel, by decide +kernel⟩, List.mem_of_getElem? (i := 740) (by decide +kernel), List.mem_of_getElem? (i := 916) (by decide +kernel), List.mem_of_getElem? (i := 917) (by decide +kernel)⟩
theorem lw_p27 : lw_okq (⟨"PackLanesModel", "takeHead", "(I)Z"⟩, 50) := ⟨⟨by decide +kernel, by decide +kernel⟩, List.mem_of_getElem? (i := 740) (by decide +kernel), List.mem_of_getElem? (i := 920) (by decide +kernel), List.mem_of_getElem? (i := 921) (by decide +kernel)⟩
theorem lw_p28 : lw_okq (⟨"PackLanesModel", "takeSign", "(I)Z"⟩, 50) := ⟨⟨by decide +kernel, by decide +kernel⟩, List.mem_of_getElem? (i := 740) (by decide +kernel), List.mem_of_getElem? (i := 925) (by decide +kernel), List.mem_of_getElem? (i := 926) (by decide +kernel)⟩
theorem lw_p29 : lw_okq (⟨"PackLanesModel", "isAnyValueAsRead", "()Z"⟩, 50) := ⟨⟨by decide +kernel, by decide +kernel⟩, List.mem_of_getElem? (i := 740) (by decide +kernel), List.mem_of_getElem? (i := 932) (by decide +kernel), List.mem_of_getElem? (i := 933) (by decide +kernel)⟩
theorem lw_p30 : lw_okq (⟨"PackLanesModel", "takeOf", "(I)Z"⟩, 50) := ⟨⟨by decide +kernel, by decide +kernel⟩, List.mem_of_getElem? (i := 740) (by decide +kernel), List.mem_of_getElem? (i := 936) (by decide +kernel), List.mem_of_getElem? (i := 937) (by decide +kernel)⟩
theorem lw_p31 : lw_okq (⟨"PackLanesModel", "done", "(Z)Z"⟩, 50) := ⟨⟨by decide +kernel, by decide +kernel⟩, List.mem_of_getElem? (i := 740) (by decide +kernel), List.mem_of_getElem? (i := 942) (by decide +kernel), List.mem_of_getElem? (i := 943) (by decide +kernel)⟩
def lw_privs_2 : List (MethodName × Nat) := [(⟨"PackLanes$Packer", "leastReady", "(I)I"⟩, 14), (⟨"PackLanes$Packer", "followedBy", "(I)I"⟩, 14), (⟨"PackLanes$Packer", "appendNode", "(II)V"⟩, 14), (⟨"PackLanes$Machine", "begin", "([I)V"⟩, 5), (⟨"PackLanes$Machine", "carryOut", "(I)V"⟩, 5), (⟨"PackLanes", "bestWidth", "()I"⟩, 14), (⟨"PackLanes", "isRight", "(I)Z"⟩, 14), (⟨"PackLanes", "sumGainsOfAllChoices", "(I)V"⟩, 14), (⟨"PackLanes", "storesOutside", "(I)I"⟩, 14), (⟨"PackLanes", "drawStartValues", "()V"⟩, 14), (⟨"PackLanesModel", "readText", "()I"⟩, 50), (⟨"PackLanesModel", "takeHead", "(I)Z"⟩, 50), (⟨"PackLanesModel", "takeSign", "(I)Z"⟩, 50), (⟨"PackLanesModel", "isAnyValueAsRead", "()Z"⟩, 50), (⟨"PackLanesModel", "takeOf", "(I)Z"⟩, 50), (⟨"PackLanesModel", "done", "(Z)Z"⟩, 50)]
theorem lw_r2 : ∀ q ∈ lw_privs_2, lw_okq q := List.forall_mem_cons.mpr ⟨lw_p16, List.forall_mem_cons.mpr ⟨lw_p17, List.forall_mem_cons.mpr ⟨lw_p18, List.forall_mem_cons.mpr ⟨lw_p19, List.forall_mem_cons.mpr ⟨lw_p20, List.forall_mem_cons.mpr ⟨lw_p21, List.forall_mem_cons.mpr ⟨lw_p22, List.forall_mem_cons.mpr ⟨lw_p23, List.forall_mem_cons.mpr ⟨lw_p24, List.forall_mem_cons.mpr ⟨lw_p25, List.forall_mem_cons.mpr ⟨lw_p26, List.forall_mem_cons.mpr ⟨lw_p27, List.forall_mem_cons.mpr ⟨lw_p28, List.forall_mem_cons.mpr ⟨lw_p29, List.forall_mem_cons.mpr ⟨lw_p30, List.forall_mem_cons.mpr ⟨lw_p31, fun _ h => absurd h List.not_mem_nil⟩⟩⟩⟩⟩⟩⟩⟩⟩⟩⟩⟩⟩⟩⟩⟩
theorem lw_p32 : lw_okq (⟨"PackLanesModel", "isValueAsRead", "(I)Z"⟩, 50) := ⟨⟨by decide +kernel, by decide +kernel⟩, List.mem_of_getElem? (i := 740) (by decide +kernel), List.mem_of_getElem? (i := 949) (by decide +kernel), List.mem_of_getElem? (i := 950) (by decide +kernel)⟩
theorem lw_p33 : lw_okq (⟨"PackLanesModel", "costNow", "()I"⟩, 50) := ⟨⟨by decide +kernel, by decide +kernel⟩, List.mem_of_getElem? (i := 740) (by decide +kernel), List.mem_of_getElem? (i := 961) (by decide +kernel), List.mem_of_getElem? (i := 962) (by decide +kernel)⟩
theorem lw_p34 : lw_okq (⟨"PackLanesModel", "runFaults", "(Z)I"⟩, 50) := ⟨⟨by decide +kernel, by decide +kernel⟩, List.mem_of_getElem? (i := 740) (by decide +kernel), List.mem_of_getElem? (i := 965) (by decide +kernel), List.mem_of_getElem? (i := 966) (by decide +kernel)⟩
theorem lw_p35 : lw_okq (⟨"PackLanesModel", "packedRun", "([I)V"⟩, 50) := ⟨⟨by decide +kernel, by decide +kernel⟩, List.mem_of_getElem? (i := 740) (by decide +kernel), List.mem_of_getElem? (i := 969) (by decide +kernel), List.mem_of_getElem? (i := 970) (by decide +kernel)⟩
theorem lw_p36 : lw_okq (⟨"PackLanesModel", "pack", "([II)V"⟩, 50) := ⟨⟨by decide +kernel, by decide +kernel⟩, List.mem_of_getElem? (i := 740) (by decide +kernel), List.mem_of_getElem? (i := 973) (by decide +kernel), List.mem_of_getElem? (i := 974) (by decide +kernel)⟩
theorem lw_p37 : lw_okq (⟨"PackLanesModel", "nothingKept", "([II)V"⟩, 50) := ⟨⟨by decide +kernel, by decide +kernel⟩, List.mem_of_getElem? (i := 740) (by decide +kernel), List.mem_of_getElem? (i := 977) (by decide +kernel), List.mem_of_getElem? (i := 978) (by decide +kernel)⟩
theorem lw_p38 : lw_okq (⟨"PackLanesModel", "layFollows", "([I)V"⟩, 50) := ⟨⟨by decide +kernel, by decide +kernel⟩, List.mem_of_getElem? (i := 740) (by decide +kernel), List.mem_of_getElem? (i := 981) (by decide +kernel), List.mem_of_getElem? (i := 982) (by decide +kernel)⟩
theorem lw_p39 : lw_okq (⟨"PackLanesModel", "doesFollow", "([III)Z"⟩, 50) := ⟨⟨by decide +kernel, by decide +kernel⟩, List.mem_of_getElem? (i := 740) (by decide +kernel), List.mem_of_getElem? (i := 985) (by decide +kernel), List.mem_of_getElem? (i := 986) (by decide +kernel)⟩
theorem lw_p40 : lw_okq (⟨"PackLanesModel", "isMemory", "(I)Z"⟩, 50) := ⟨⟨by decide +kernel, by decide +kernel⟩, List.mem_of_getElem? (i := 740) (by decide +kernel), List.mem_of_getElem? (i := 992) (by decide +kernel), List.mem_of_getElem? (i := 993) (by decide +kernel)⟩
theorem lw_p41 : lw_okq (⟨"PackLanesModel", "meet", "([III)Z"⟩, 50) := ⟨⟨by decide +kernel, by decide +kernel⟩, List.mem_of_getElem? (i := 740) (by decide +kernel), List.mem_of_getElem? (i := 996) (by decide +kernel), List.mem_of_getElem? (i := 997) (by decide +kernel)⟩
theorem lw_p42 : lw_okq (⟨"PackLanesModel", "uses", "(II)Z"⟩, 50) := ⟨⟨by decide +kernel, by decide +kernel⟩, List.mem_of_getElem? (i := 740) (by decide +kernel), List.mem_of_getElem? (i := 1003) (by decide +kernel), List.mem_of_getElem? (i := 1004) (by decide +kernel)⟩
theorem lw_p43 : lw_okq (⟨"PackLanesModel", "isBinary", "(I)Z"⟩, 50) := ⟨⟨by decide +kernel, by decide +kernel⟩, List.mem_of_getElem? (i := 740) (by decide +kernel), List.mem_of_getElem? (i := 1007) (by decide +kernel), List.mem_of_getElem? (i := 1008) (by decide +kernel)⟩
theorem lw_p44 : lw_okq (⟨"PackLanesModel", "laySeed", "(II)Z"⟩, 50) := ⟨⟨by decide +kernel, by decide +kernel⟩, List.mem_of_getElem? (i := 740) (by decide +kernel), List.mem_of_getElem? (i := 1013) (by decide +kernel), List.mem_of_getElem? (i := 1014) (by decide +kernel)⟩
theorem lw_p45 : lw_okq (⟨"PackLanesModel", "isPack", "(I)Z"⟩, 50) := ⟨⟨by decide +kernel, by decide +kernel⟩, List.mem_of_getElem? (i := 740) (by decide +kernel), List.mem_of_getElem? (i := 1017) (by decide +kernel), List.mem_of_getElem? (i := 1018) (by decide +kernel)⟩
theorem lw_p46 : lw_okq (⟨"PackLanesModel", "grow", "()V"⟩, 50) := ⟨⟨by decide +kernel, by decide +kernel⟩, List.mem_of_getElem? (i := 740) (by decide +kernel), List.mem_of_getElem? (i := 1021) (by decide +kernel), List.mem_of_getElem? (i := 1022) (by decide +kernel)⟩
theorem lw_p47 : lw_okq (⟨"PackLanesModel", "addPack", "(I)V"⟩, 50) := ⟨⟨by decide +kernel, by decide +kernel⟩, List.mem_of_getElem? (i := 740) (by decide +kernel), List.mem_of_getElem? (i := 1025) (by decide +kernel), List.mem_of_getElem? (i := 1026) (by decide +kernel)⟩
def lw_privs_3 : List (MethodName × Nat) := [(⟨"PackLanesModel", "isValueAsRead", "(I)Z"⟩, 50), (⟨"PackLanesModel", "costNow", "()I"⟩, 50), (⟨"PackLanesModel", "runFaults", "(Z)I"⟩, 50), (⟨"PackLanesModel", "packedRun", "([I)V"⟩, 50), (⟨"PackLanesModel", "pack", "([II)V"⟩, 50), (⟨"PackLanesModel", "nothingKept", "([II)V"⟩, 50), (⟨"PackLanesModel", "layFollows", "([I)V"⟩, 50), (⟨"PackLanesModel", "doesFollow", "([III)Z"⟩, 50), (⟨"PackLanesModel", "isMemory", "(I)Z"⟩, 50), (⟨"PackLanesModel", "meet", "([III)Z"⟩, 50), (⟨"PackLanesModel", "uses", "(II)Z"⟩, 50), (⟨"PackLanesModel", "isBinary", "(I)Z"⟩, 50), (⟨"PackLanesModel", "laySeed", "(II)Z"⟩, 50), (⟨"PackLanesModel", "isPack", "(I)Z"⟩, 50), (⟨"PackLanesModel", "grow", "()V"⟩, 50), (⟨"PackLanesModel", "addPack", "(I)V"⟩, 50)]
theorem lw_r3 : ∀ q ∈ lw_privs_3, lw_okq q := List.forall_mem_cons.mpr ⟨lw_p32, List.forall_mem_cons.mpr ⟨lw_p33, List.forall_mem_cons.mpr ⟨lw_p34, List.forall_mem_cons.mpr ⟨lw_p35, List.forall_mem_cons.mpr ⟨lw_p36, List.forall_mem_cons.mpr ⟨lw_p37, List.forall_mem_cons.mpr ⟨lw_p38, List.forall_mem_cons.mpr ⟨lw_p39, List.forall_mem_cons.mpr ⟨lw_p40, List.forall_mem_cons.mpr ⟨lw_p41, List.forall_mem_cons.mpr ⟨lw_p42, List.forall_mem_cons.mpr ⟨lw_p43, List.forall_mem_cons.mpr ⟨lw_p44, List.forall_mem_cons.mpr ⟨lw_p45, List.forall_mem_cons.mpr ⟨lw_p46, List.forall_mem_cons.mpr ⟨lw_p47, fun _ h => absurd h List.not_mem_nil⟩⟩⟩⟩⟩⟩⟩⟩⟩⟩⟩⟩⟩⟩⟩⟩
theorem lw_p48 : lw_okq (⟨"PackLanesModel", "look", "(I)V"⟩, 50) := ⟨⟨by decide +kernel, by decide +kernel⟩, List.mem_of_getElem? (i := 740) (by decide +kernel), List.mem_of_getElem? (i := 1029) (by decide +kernel), List.mem_of_getElem? (i := 1030) (by decide +kernel)⟩
theorem lw_p49 : lw_okq (⟨"PackLanesModel", "isFree", "(I)Z"⟩, 50) := ⟨⟨by decide +kernel, by decide +kernel⟩, List.mem_of_getElem? (i := 740) (by decide +kernel), List.mem_of_getElem? (i := 1033) (by decide +kernel), List.mem_of_getElem? (i := 1034) (by decide +kernel)⟩
theorem lw_p50 : lw_okq (⟨"PackLanesModel", "waitBoth", "(I)V"⟩, 50) := ⟨⟨by decide +kernel, by decide +kernel⟩, List.mem_of_getElem? (i := 740) (by decide +kernel), List.mem_of_getElem? (i := 1037) (by decide +kernel), List.mem_of_getElem? (i := 1038) (by decide +kernel)⟩
theorem lw_p51 : lw_okq (⟨"PackLanesModel", "isTreePack", "(I)Z"⟩, 50) := ⟨⟨by decide +kernel, by decide +kernel⟩, List.mem_of_getElem? (i := 740) (by decide +kernel), List.mem_of_getElem? (i := 1041) (by decide +kernel), List.mem_of_getElem? (i := 1042) (by decide +kernel)⟩
theorem lw_p52 : lw_okq (⟨"PackLanesModel", "costOf", "(I)I"⟩, 50) := ⟨⟨by decide +kernel, by decide +kernel⟩, List.mem_of_getElem? (i := 740) (by decide +kernel), List.mem_of_getElem? (i := 1045) (by decide +kernel), List.mem_of_getElem? (i := 1046) (by decide +kernel)⟩
theorem lw_p53 : lw_okq (⟨"PackLanesModel", "gainOfTree", "()I"⟩, 50) := ⟨⟨by decide +kernel, by decide +kernel⟩, List.mem_of_getElem? (i := 740) (by decide +kernel), List.mem_of_getElem? (i := 1049) (by decide +kernel), List.mem_of_getElem? (i := 1050) (by decide +kernel)⟩
theorem lw_p54 : lw_okq (⟨"PackLanesModel", "isUsedOutside", "(I)Z"⟩, 50) := ⟨⟨by decide +kernel, by decide +kernel⟩, List.mem_of_getElem? (i := 740) (by decide +kernel), List.mem_of_getElem? (i := 1053) (by decide +kernel), List.mem_of_getElem? (i := 1054) (by decide +kernel)⟩
theorem lw_p55 : lw_okq (⟨"PackLanesModel", "setInOrder", "()Z"⟩, 50) := ⟨⟨by decide +kernel, by decide +kernel⟩, List.mem_of_getElem? (i := 740) (by decide +kernel), List.mem_of_getElem? (i := 1057) (by decide +kernel), List.mem_of_getElem? (i := 1058) (by decide +kernel)⟩
theorem lw_p56 : lw_okq (⟨"PackLanesModel", "nodeOf", "(I)I"⟩, 50) := ⟨⟨by decide +kernel, by decide +kernel⟩, List.mem_of_getElem? (i := 740) (by decide +kernel), List.mem_of_getElem? (i := 1061) (by decide +kernel), List.mem_of_getElem? (i := 1062) (by decide +kernel)⟩
theorem lw_p57 : lw_okq (⟨"PackLanesModel", "isReady", "(II)Z"⟩, 50) := ⟨⟨by decide +kernel, by decide +kernel⟩, List.mem_of_getElem? (i := 740) (by decide +kernel), List.mem_of_getElem? (i := 1065) (by decide +kernel), List.mem_of_getElem? (i := 1066) (by decide +kernel)⟩
theorem lw_p58 : lw_okq (⟨"PackLanesModel", "keepTree", "(I)V"⟩, 50) := ⟨⟨by decide +kernel, by decide +kernel⟩, List.mem_of_getElem? (i := 740) (by decide +kernel), List.mem_of_getElem? (i := 1069) (by decide +kernel), List.mem_of_getElem? (i := 1070) (by decide +kernel)⟩
theorem lw_p59 : lw_okq (⟨"PackLanesModel", "noTree", "()V"⟩, 50) := ⟨⟨by decide +kernel, by decide +kernel⟩, List.mem_of_getElem? (i := 740) (by decide +kernel), List.mem_of_getElem? (i := 1073) (by decide +kernel), List.mem_of_getElem? (i := 1074) (by decide +kernel)⟩
theorem lw_p60 : lw_okq (⟨"PackLanesModel", "beginRun", "([I)V"⟩, 50) := ⟨⟨by decide +kernel, by decide +kernel⟩, List.mem_of_getElem? (i := 740) (by decide +kernel), List.mem_of_getElem? (i := 1077) (by decide +kernel), List.mem_of_getElem? (i := 1078) (by decide +kernel)⟩
theorem lw_p61 : lw_okq (⟨"PackLanesModel", "doOne", "([II)V"⟩, 50) := ⟨⟨by decide +kernel, by decide +kernel⟩, List.mem_of_getElem? (i := 740) (by decide +kernel), List.mem_of_getElem? (i := 1081) (by decide +kernel), List.mem_of_getElem? (i := 1082) (by decide +kernel)⟩
theorem lw_p62 : lw_okq (⟨"PackLanesModel", "run", "([II)V"⟩, 50) := ⟨⟨by decide +kernel, by decide +kernel⟩, List.mem_of_getElem? (i := 740) (by decide +kernel), List.mem_of_getElem? (i := 1085) (by decide +kernel), List.mem_of_getElem? (i := 1086) (by decide +kernel)⟩
theorem lw_p63 : lw_okq (⟨"PackLanesModel", "bestWidth", "()I"⟩, 50) := ⟨⟨by decide +kernel, by decide +kernel⟩, List.mem_of_getElem? (i := 740) (by decide +kernel), List.mem_of_getElem? (i := 1089) (by decide +kernel), List.mem_of_getElem? (i := 1090) (by decide +kernel)⟩
def lw_privs_4 : List (MethodName × Nat) := [(⟨"PackLanesModel", "look", "(I)V"⟩, 50), (⟨"PackLanesModel", "isFree", "(I)Z"⟩, 50), (⟨"PackLanesModel", "waitBoth", "(I)V"⟩, 50), (⟨"PackLanesModel", "isTreePack", "(I)Z"⟩, 50), (⟨"PackLanesModel", "costOf", "(I)I"⟩, 50), (⟨"PackLanesModel", "gainOfTree", "()I"⟩, 50), (⟨"PackLanesModel", "isUsedOutside", "(I)Z"⟩, 50), (⟨"PackLanesModel", "setInOrder", "()Z"⟩, 50), (⟨"PackLanesModel", "nodeOf", "(I)I"⟩, 50), (⟨"PackLanesModel", "isReady", "(II)Z"⟩, 50), (⟨"PackLanesModel", "keepTree", "(I)V"⟩, 50), (⟨"PackLanesModel", "noTree", "()V"⟩, 50), (⟨"PackLanesModel", "beginRun", "([I)V"⟩, 50), (⟨"PackLanesModel", "doOne", "([II)V"⟩, 50), (⟨"PackLanesModel", "run", "([II)V"⟩, 50), (⟨"PackLanesModel", "bestWidth", "()I"⟩, 50)]
theorem lw_r4 : ∀ q ∈ lw_privs_4, lw_okq q := List.forall_mem_cons.mpr ⟨lw_p48, List.forall_mem_cons.mpr ⟨lw_p49, List.forall_mem_cons.mpr ⟨lw_p50, List.forall_mem_cons.mpr ⟨lw_p51, List.forall_mem_cons.mpr ⟨lw_p52, List.forall_mem_cons.mpr ⟨lw_p53, List.forall_mem_cons.mpr ⟨lw_p54, List.forall_mem_cons.mpr ⟨lw_p55, List.forall_mem_cons.mpr ⟨lw_p56, List.forall_mem_cons.mpr ⟨lw_p57, List.forall_mem_cons.mpr ⟨lw_p58, List.forall_mem_cons.mpr ⟨lw_p59, List.forall_mem_cons.mpr ⟨lw_p60, List.forall_mem_cons.mpr ⟨lw_p61, List.forall_mem_cons.mpr ⟨lw_p62, List.forall_mem_cons.mpr ⟨lw_p63, fun _ h => absurd h List.not_mem_nil⟩⟩⟩⟩⟩⟩⟩⟩⟩⟩⟩⟩⟩⟩⟩⟩
theorem lw_p64 : lw_okq (⟨"PackLanesModel", "packedCost", "([I)I"⟩, 50) := ⟨⟨by decide +kernel, by decide +kernel⟩, List.mem_of_getElem? (i := 740) (by decide +kernel), List.mem_of_getElem? (i := 1096) (by decide +kernel), List.mem_of_getElem? (i := 1097) (by decide +kernel)⟩
theorem lw_p65 : lw_okq (⟨"PackLanesModel", "found", "(I)I"⟩, 50) := ⟨⟨by decide +kernel, by decide +kernel⟩, List.mem_of_getElem? (i := 740) (by decide +kernel), List.mem_of_getElem? (i := 1100) (by decide +kernel), List.mem_of_getElem? (i := 1101) (by decide +kernel)⟩
theorem lw_p66 : lw_okq (⟨"PackLanesModel", "packed", "()I"⟩, 50) := ⟨⟨by decide +kernel, by decide +kernel⟩, List.mem_of_getElem? (i := 740) (by decide +kernel), List.mem_of_getElem? (i := 1104) (by decide +kernel), List.mem_of_getElem? (i := 1105) (by decide +kernel)⟩
theorem lw_p67 : lw_okq (⟨"PackLanesModel", "isThere", "(I)Z"⟩, 50) := ⟨⟨by decide +kernel, by decide +kernel⟩, List.mem_of_getElem? (i := 740) (by decide +kernel), List.mem_of_getElem? (i := 1112) (by decide +kernel), List.mem_of_getElem? (i := 1113) (by decide +kernel)⟩
theorem lw_p68 : lw_okq (⟨"PackLanesModel", "note", "()V"⟩, 50) := ⟨⟨by decide +kernel, by decide +kernel⟩, List.mem_of_getElem? (i := 740) (by decide +kernel), List.mem_of_getElem? (i := 1137) (by decide +kernel), List.mem_of_getElem? (i := 1138) (by decide +kernel)⟩
theorem lw_p69 : lw_okq (⟨"PackLanesModel", "judged", "(II)Z"⟩, 50) := ⟨⟨by decide +kernel, by decide +kernel⟩, List.mem_of_getElem? (i := 740) (by decide +kernel), List.mem_of_getElem? (i := 1165) (by decide +kernel), List.mem_of_getElem? (i := 1166) (by decide +kernel)⟩
theorem lw_p70 : lw_okq (⟨"PackLanesModel", "isDependent", "(II)Z"⟩, 50) := ⟨⟨by decide +kernel, by decide +kernel⟩, List.mem_of_getElem? (i := 740) (by decide +kernel), List.mem_of_getElem? (i := 1169) (by decide +kernel), List.mem_of_getElem? (i := 1170) (by decide +kernel)⟩
theorem lw_p71 : lw_okq (⟨"PackLanesModel", "isPackedAs", "(II)Z"⟩, 50) := ⟨⟨by decide +kernel, by decide +kernel⟩, List.mem_of_getElem? (i := 740) (by decide +kernel), List.mem_of_getElem? (i := 1173) (by decide +kernel), List.mem_of_getElem? (i := 1174) (by decide +kernel)⟩
theorem lw_p72 : lw_okq (⟨"PackLanesModel", "layStores", "()I"⟩, 50) := ⟨⟨by decide +kernel, by decide +kernel⟩, List.mem_of_getElem? (i := 740) (by decide +kernel), List.mem_of_getElem? (i := 1193) (by decide +kernel), List.mem_of_getElem? (i := 1194) (by decide +kernel)⟩
theorem lw_p73 : lw_okq (⟨"PackLanesModel", "gainsBy", "(II)I"⟩, 50) := ⟨⟨by decide +kernel, by decide +kernel⟩, List.mem_of_getElem? (i := 740) (by decide +kernel), List.mem_of_getElem? (i := 1197) (by decide +kernel), List.mem_of_getElem? (i := 1198) (by decide +kernel)⟩
def lw_privs_5 : List (MethodName × Nat) := [(⟨"PackLanesModel", "packedCost", "([I)I"⟩, 50), (⟨"PackLanesModel", "found", "(I)I"⟩, 50), (⟨"PackLanesModel", "packed", "()I"⟩, 50), (⟨"PackLanesModel", "isThere", "(I)Z"⟩, 50), (⟨"PackLanesModel", "note", "()V"⟩, 50), (⟨"PackLanesModel", "judged", "(II)Z"⟩, 50), (⟨"PackLanesModel", "isDependent", "(II)Z"⟩, 50), (⟨"PackLanesModel", "isPackedAs", "(II)Z"⟩, 50), (⟨"PackLanesModel", "layStores", "()I"⟩, 50), (⟨"PackLanesModel", "gainsBy", "(II)I"⟩, 50)]
theorem lw_r5 : ∀ q ∈ lw_privs_5, lw_okq q := List.forall_mem_cons.mpr ⟨lw_p64, List.forall_mem_cons.mpr ⟨lw_p65, List.forall_mem_cons.mpr ⟨lw_p66, List.forall_mem_cons.mpr ⟨lw_p67, List.forall_mem_cons.mpr ⟨lw_p68, List.forall_mem_cons.mpr ⟨lw_p69, List.forall_mem_cons.mpr ⟨lw_p70, List.forall_mem_cons.mpr ⟨lw_p71, List.forall_mem_cons.mpr ⟨lw_p72, List.forall_mem_cons.mpr ⟨lw_p73, fun _ h => absurd h List.not_mem_nil⟩⟩⟩⟩⟩⟩⟩⟩⟩⟩
def lw_privs : List (MethodName × Nat) := lw_privs_1 ++ (lw_privs_2 ++ (lw_privs_3 ++ (lw_privs_4 ++ (lw_privs_5))))
def lw_tbl : List Cond := k2_sels lw_privs ++ tables_1
theorem lw_privs_ok : ∀ q ∈ lw_privs, lw_okq q := by
  show ∀ q ∈ lw_privs_1 ++ (lw_privs_2 ++ (lw_privs_3 ++ (lw_privs_4 ++ (lw_privs_5)))), lw_okq q
  exact List.forall_mem_append.mpr ⟨lw_r1, List.forall_mem_append.mpr ⟨lw_r2, List.forall_mem_append.mpr ⟨lw_r3, List.forall_mem_append.mpr ⟨lw_r4, lw_r5⟩⟩⟩⟩
-- ===== end of PART A; then your names; then what follows =====
/-- the words that stay true at every later state -/
def BIG : List Cond := lw_tbl.filter goodWord
theorem big_sub : ∀ w ∈ BIG, w ∈ lw_tbl := fun w h => (List.mem_filter.mp h).1
theorem big_good : GoodIn BIG BIG := fun w h => ⟨h, good_of_word (List.mem_filter.mp h).2⟩
end
section
/-! the classes of the claim, by kinds 0..10; their fields in the order of the slots -/
def KR0 : String := "PackLanes$Acts"
def KT0 : u_T := fun k => match k with
  | 0 => ("PackLanes$Acts", "places", "[I", true)
  | 1 => ("PackLanes$Acts", "olds", "[I", true)
  | _ => ("PackLanes$Acts", "count", "I", false)
def Kt0 : Nat → FieldType := fun k => match k with
  | 0 => .array .int
  | 1 => .array .int
  | _ => .int
theorem Kn0 : ∀ a, a < 3 → ∀ b, b < 3 → a ≠ b → (KT0 a).2.1 ≠ (KT0 b).2.1 := by decide +kernel
theorem Kp0 : ∀ k, k < 3 → parseFieldDescriptor (KT0 k).2.2.1 = some (Kt0 k) := by decide +kernel
theorem Ki0 : ∀ w ∈ u_ws KR0 KT0 3, w ∈ BIG := by decide +kernel
def KR1 : String := "PackLanes$Code"
def KT1 : u_T := fun k => match k with
  | 0 => ("PackLanes$Code", "kind", "[I", true)
  | 1 => ("PackLanes$Code", "row", "[I", true)
  | 2 => ("PackLanes$Code", "cell", "[I", true)
  | 3 => ("PackLanes$Code", "digit", "[I", true)
  | 4 => ("PackLanes$Code", "left", "[I", true)
  | 5 => ("PackLanes$Code", "right", "[I", true)
  | _ => ("PackLanes$Code", "count", "I", false)
def Kt1 : Nat → FieldType := fun k => match k with
  | 0 => .array .int
  | 1 => .array .int
  | 2 => .array .int
  | 3 => .array .int
  | 4 => .array .int
  | 5 => .array .int
  | _ => .int
theorem Kn1 : ∀ a, a < 7 → ∀ b, b < 7 → a ≠ b → (KT1 a).2.1 ≠ (KT1 b).2.1 := by decide +kernel
theorem Kp1 : ∀ k, k < 7 → parseFieldDescriptor (KT1 k).2.2.1 = some (Kt1 k) := by decide +kernel
theorem Ki1 : ∀ w ∈ u_ws KR1 KT1 7, w ∈ BIG := by decide +kernel
def KR2 : String := "PackLanes$Links"
def KT2 : u_T := fun k => match k with
  | 0 => ("PackLanes$Links", "code", "LPackLanes$Code;", true)
  | 1 => ("PackLanes$Links", "follows", "[I", true)
  | 2 => ("PackLanes$Links", "needs", "[I", true)
  | 3 => ("PackLanes$Links", "users", "[I", true)
  | _ => ("PackLanes$Links", "omitted", "I", false)
def Kt2 : Nat → FieldType := fun k => match k with
  | 0 => .object "PackLanes$Code"
  | 1 => .array .int
  | 2 => .array .int
  | 3 => .array .int
  | _ => .int
theorem Kn2 : ∀ a, a < 5 → ∀ b, b < 5 → a ≠ b → (KT2 a).2.1 ≠ (KT2 b).2.1 := by decide +kernel
theorem Kp2 : ∀ k, k < 5 → parseFieldDescriptor (KT2 k).2.2.1 = some (Kt2 k) := by decide +kernel
theorem Ki2 : ∀ w ∈ u_ws KR2 KT2 5, w ∈ BIG := by decide +kernel
def KR3 : String := "PackLanes$Machine"
def KT3 : u_T := fun k => match k with
  | 0 => ("PackLanes$Machine", "code", "LPackLanes$Code;", true)
  | 1 => ("PackLanes$Machine", "memory", "[I", true)
  | 2 => ("PackLanes$Machine", "value", "[I", true)
  | 3 => ("PackLanes$Machine", "stop", "I", false)
  | _ => ("PackLanes$Machine", "base", "I", false)
def Kt3 : Nat → FieldType := fun k => match k with
  | 0 => .object "PackLanes$Code"
  | 1 => .array .int
  | 2 => .array .int
  | 3 => .int
  | _ => .int
theorem Kn3 : ∀ a, a < 5 → ∀ b, b < 5 → a ≠ b → (KT3 a).2.1 ≠ (KT3 b).2.1 := by decide +kernel
theorem Kp3 : ∀ k, k < 5 → parseFieldDescriptor (KT3 k).2.2.1 = some (Kt3 k) := by decide +kernel
theorem Ki3 : ∀ w ∈ u_ws KR3 KT3 5, w ∈ BIG := by decide +kernel
def KR4 : String := "PackLanes$Packer"
def KT4 : u_T := fun k => match k with
  | 0 => ("PackLanes$Packer", "code", "LPackLanes$Code;", true)
  | 1 => ("PackLanes$Packer", "links", "LPackLanes$Links;", true)
  | 2 => ("PackLanes$Packer", "tree", "LPackLanes$Tree;", true)
  | 3 => ("PackLanes$Packer", "width", "I", false)
  | 4 => ("PackLanes$Packer", "partners", "[I", true)
  | 5 => ("PackLanes$Packer", "number", "[I", true)
  | 6 => ("PackLanes$Packer", "lane", "[I", true)
  | 7 => ("PackLanes$Packer", "node", "[I", true)
  | 8 => ("PackLanes$Packer", "order", "[I", true)
  | 9 => ("PackLanes$Packer", "ordered", "I", false)
  | 10 => ("PackLanes$Packer", "packs", "I", false)
  | 11 => ("PackLanes$Packer", "members", "I", false)
  | 12 => ("PackLanes$Packer", "trees", "I", false)
  | _ => ("PackLanes$Packer", "gains", "I", false)
def Kt4 : Nat → FieldType := fun k => match k with
  | 0 => .object "PackLanes$Code"
  | 1 => .object "PackLanes$Links"
  | 2 => .object "PackLanes$Tree"
  | 3 => .int
  | 4 => .array .int
  | 5 => .array .int
  | 6 => .array .int
  | 7 => .array .int
  | 8 => .array .int
  | 9 => .int
  | 10 => .int
  | 11 => .int
  | 12 => .int
  | _ => .int
theorem Kn4 : ∀ a, a < 14 → ∀ b, b < 14 → a ≠ b → (KT4 a).2.1 ≠ (KT4 b).2.1 := by decide +kernel
theorem Kp4 : ∀ k, k < 14 → parseFieldDescriptor (KT4 k).2.2.1 = some (Kt4 k) := by decide +kernel
theorem Ki4 : ∀ w ∈ u_ws KR4 KT4 14, w ∈ BIG := by decide +kernel
def KR5 : String := "PackLanes$Sights"
def KT5 : u_T := fun k => match k with
  | 0 => ("PackLanes$Sights", "addresses", "[I", true)
  | 1 => ("PackLanes$Sights", "values", "[I", true)
  | _ => ("PackLanes$Sights", "count", "I", false)
def Kt5 : Nat → FieldType := fun k => match k with
  | 0 => .array .int
  | 1 => .array .int
  | _ => .int
theorem Kn5 : ∀ a, a < 3 → ∀ b, b < 3 → a ≠ b → (KT5 a).2.1 ≠ (KT5 b).2.1 := by decide +kernel
theorem Kp5 : ∀ k, k < 3 → parseFieldDescriptor (KT5 k).2.2.1 = some (Kt5 k) := by decide +kernel
theorem Ki5 : ∀ w ∈ u_ws KR5 KT5 3, w ∈ BIG := by decide +kernel
def KR6 : String := "PackLanes$Slots"
def KT6 : u_T := fun k => match k with
  | 0 => ("PackLanes$Slots", "filled", "[Z", true)
  | _ => ("PackLanes$Slots", "states", "[[I", true)
def Kt6 : Nat → FieldType := fun k => match k with
  | 0 => .array .boolean
  | _ => .array (.array .int)
theorem Kn6 : ∀ a, a < 2 → ∀ b, b < 2 → a ≠ b → (KT6 a).2.1 ≠ (KT6 b).2.1 := by decide +kernel
theorem Kp6 : ∀ k, k < 2 → parseFieldDescriptor (KT6 k).2.2.1 = some (Kt6 k) := by decide +kernel
theorem Ki6 : ∀ w ∈ u_ws KR6 KT6 2, w ∈ BIG := by decide +kernel
def KR7 : String := "PackLanes$Source"
def KT7 : u_T := fun k => match k with
  | 0 => ("PackLanes$Source", "letters", "[I", true)
  | 1 => ("PackLanes$Source", "parts", "[I", true)
  | _ => ("PackLanes$Source", "length", "I", false)
def Kt7 : Nat → FieldType := fun k => match k with
  | 0 => .array .int
  | 1 => .array .int
  | _ => .int
theorem Kn7 : ∀ a, a < 3 → ∀ b, b < 3 → a ≠ b → (KT7 a).2.1 ≠ (KT7 b).2.1 := by decide +kernel
theorem Kp7 : ∀ k, k < 3 → parseFieldDescriptor (KT7 k).2.2.1 = some (Kt7 k) := by decide +kernel
theorem Ki7 : ∀ w ∈ u_ws KR7 KT7 3, w ∈ BIG := by decide +kernel
def KR8 : String := "PackLanes$Tree"
def KT8 : u_T := fun k => match k with
  | 0 => ("PackLanes$Tree", "code", "LPackLanes$Code;", true)
  | 1 => ("PackLanes$Tree", "links", "LPackLanes$Links;", true)
  | 2 => ("PackLanes$Tree", "packs", "[I", true)
  | 3 => ("PackLanes$Tree", "size", "I", false)
  | 4 => ("PackLanes$Tree", "members", "I", false)
  | 5 => ("PackLanes$Tree", "queue", "[I", true)
  | 6 => ("PackLanes$Tree", "queued", "I", false)
  | 7 => ("PackLanes$Tree", "width", "I", false)
  | 8 => ("PackLanes$Tree", "kept", "I", false)
  | 9 => ("PackLanes$Tree", "single", "I", false)
  | _ => ("PackLanes$Tree", "costs", "I", false)
def Kt8 : Nat → FieldType := fun k => match k with
  | 0 => .object "PackLanes$Code"
  | 1 => .object "PackLanes$Links"
  | 2 => .array .int
  | 3 => .int
  | 4 => .int
  | 5 => .array .int
  | 6 => .int
  | 7 => .int
  | 8 => .int
  | 9 => .int
  | _ => .int
theorem Kn8 : ∀ a, a < 11 → ∀ b, b < 11 → a ≠ b → (KT8 a).2.1 ≠ (KT8 b).2.1 := by decide +kernel
theorem Kp8 : ∀ k, k < 11 → parseFieldDescriptor (KT8 k).2.2.1 = some (Kt8 k) := by decide +kernel
theorem Ki8 : ∀ w ∈ u_ws KR8 KT8 11, w ∈ BIG := by decide +kernel
def KR9 : String := "PackLanes"
def KT9 : u_T := fun k => match k with
  | 0 => ("PackLanes", "source", "LPackLanes$Source;", true)
  | 1 => ("PackLanes", "code", "LPackLanes$Code;", true)
  | 2 => ("PackLanes", "draft", "LPackLanes$Code;", true)
  | 3 => ("PackLanes", "present", "[I", true)
  | 4 => ("PackLanes", "random", "[I", true)
  | 5 => ("PackLanes", "asked", "[I", true)
  | 6 => ("PackLanes", "acts", "LPackLanes$Acts;", true)
  | 7 => ("PackLanes", "slots", "LPackLanes$Slots;", true)
  | 8 => ("PackLanes", "sights", "LPackLanes$Sights;", true)
  | 9 => ("PackLanes", "now", "LPackLanes$Packer;", true)
  | 10 => ("PackLanes", "trial", "LPackLanes$Packer;", true)
  | 11 => ("PackLanes", "machine", "LPackLanes$Machine;", true)
  | 12 => ("PackLanes", "sums", "[I", true)
  | _ => ("PackLanes", "randomNumber", "J", false)
def Kt9 : Nat → FieldType := fun k => match k with
  | 0 => .object "PackLanes$Source"
  | 1 => .object "PackLanes$Code"
  | 2 => .object "PackLanes$Code"
  | 3 => .array .int
  | 4 => .array .int
  | 5 => .array .int
  | 6 => .object "PackLanes$Acts"
  | 7 => .object "PackLanes$Slots"
  | 8 => .object "PackLanes$Sights"
  | 9 => .object "PackLanes$Packer"
  | 10 => .object "PackLanes$Packer"
  | 11 => .object "PackLanes$Machine"
  | 12 => .array .int
  | _ => .long
theorem Kn9 : ∀ a, a < 14 → ∀ b, b < 14 → a ≠ b → (KT9 a).2.1 ≠ (KT9 b).2.1 := by decide +kernel
theorem Kp9 : ∀ k, k < 14 → parseFieldDescriptor (KT9 k).2.2.1 = some (Kt9 k) := by decide +kernel
theorem Ki9 : ∀ w ∈ u_ws KR9 KT9 14, w ∈ BIG := by decide +kernel
def KR10 : String := "PackLanesModel"
def KT10 : u_T := fun k => match k with
  | 0 => ("PackLanesModel", "text", "[I", true)
  | 1 => ("PackLanesModel", "length", "I", false)
  | 2 => ("PackLanesModel", "many", "I", false)
  | 3 => ("PackLanesModel", "kind", "[I", true)
  | 4 => ("PackLanesModel", "one", "[I", true)
  | 5 => ("PackLanesModel", "two", "[I", true)
  | 6 => ("PackLanesModel", "what", "[I", true)
  | 7 => ("PackLanesModel", "now", "[I", true)
  | 8 => ("PackLanesModel", "trial", "[I", true)
  | 9 => ("PackLanesModel", "diary", "[I", true)
  | 10 => ("PackLanesModel", "acts", "I", false)
  | 11 => ("PackLanesModel", "next", "I", false)
  | 12 => ("PackLanesModel", "kept", "[I", true)
  | 13 => ("PackLanesModel", "isKept", "[Z", true)
  | 14 => ("PackLanesModel", "seenAt", "[I", true)
  | 15 => ("PackLanesModel", "seenIs", "[I", true)
  | 16 => ("PackLanesModel", "seen", "I", false)
  | 17 => ("PackLanesModel", "seed", "J", false)
  | 18 => ("PackLanesModel", "out", "I", false)
  | 19 => ("PackLanesModel", "wide", "I", false)
  | 20 => ("PackLanesModel", "follows", "[I", true)
  | 21 => ("PackLanesModel", "depends", "[I", true)
  | 22 => ("PackLanesModel", "packOf", "[I", true)
  | 23 => ("PackLanesModel", "laneOf", "[I", true)
  | 24 => ("PackLanesModel", "packs", "I", false)
  | 25 => ("PackLanesModel", "trees", "I", false)
  | 26 => ("PackLanesModel", "gains", "I", false)
  | 27 => ("PackLanesModel", "treeOf", "[I", true)
  | 28 => ("PackLanesModel", "treeLane", "[I", true)
  | 29 => ("PackLanesModel", "treePacks", "I", false)
  | 30 => ("PackLanesModel", "bundles", "[I", true)
  | 31 => ("PackLanesModel", "waiting", "I", false)
  | 32 => ("PackLanesModel", "single", "I", false)
  | 33 => ("PackLanesModel", "cost", "I", false)
  | 34 => ("PackLanesModel", "place", "[I", true)
  | 35 => ("PackLanesModel", "cells", "[I", true)
  | 36 => ("PackLanesModel", "values", "[I", true)
  | 37 => ("PackLanesModel", "faults", "I", false)
  | 38 => ("PackLanesModel", "stores", "[I", true)
  | 39 => ("PackLanesModel", "worth", "[I", true)
  | 40 => ("PackLanesModel", "readBase", "I", false)
  | 41 => ("PackLanesModel", "readKnown", "I", false)
  | 42 => ("PackLanesModel", "readWidth", "I", false)
  | 43 => ("PackLanesModel", "readMany", "I", false)
  | 44 => ("PackLanesModel", "readKind", "[I", true)
  | 45 => ("PackLanesModel", "readOne", "[I", true)
  | 46 => ("PackLanesModel", "readTwo", "[I", true)
  | 47 => ("PackLanesModel", "readWhat", "[I", true)
  | 48 => ("PackLanesModel", "part", "I", false)
  | _ => ("PackLanesModel", "step", "I", false)
def Kt10 : Nat → FieldType := fun k => match k with
  | 0 => .array .int
  | 1 => .int
  | 2 => .int
  | 3 => .array .int
  | 4 => .array .int
  | 5 => .array .int
  | 6 => .array .int
  | 7 => .array .int
  | 8 => .array .int
  | 9 => .array .int
  | 10 => .int
  | 11 => .int
  | 12 => .array .int
  | 13 => .array .boolean
  | 14 => .array .int
  | 15 => .array .int
  | 16 => .int
  | 17 => .long
  | 18 => .int
  | 19 => .int
  | 20 => .array .int
  | 21 => .array .int
  | 22 => .array .int
  | 23 => .array .int
  | 24 => .int
  | 25 => .int
  | 26 => .int
  | 27 => .array .int
  | 28 => .array .int
  | 29 => .int
  | 30 => .array .int
  | 31 => .int
  | 32 => .int
  | 33 => .int
  | 34 => .array .int
  | 35 => .array .int
  | 36 => .array .int
  | 37 => .int
  | 38 => .array .int
  | 39 => .array .int
  | 40 => .int
  | 41 => .int
  | 42 => .int
  | 43 => .int
  | 44 => .array .int
  | 45 => .array .int
  | 46 => .array .int
  | 47 => .array .int
  | 48 => .int
  | _ => .int
theorem Kn10 : ∀ a, a < 50 → ∀ b, b < 50 → a ≠ b → (KT10 a).2.1 ≠ (KT10 b).2.1 := by decide +kernel
theorem Kp10 : ∀ k, k < 50 → parseFieldDescriptor (KT10 k).2.2.1 = some (Kt10 k) := by decide +kernel
theorem Ki10 : ∀ w ∈ u_ws KR10 KT10 50, w ∈ BIG := by decide +kernel
abbrev classes : List vw_C := [(KR0, KT0, 3), (KR1, KT1, 7), (KR2, KT2, 5), (KR3, KT3, 5), (KR4, KT4, 14), (KR5, KT5, 3), (KR6, KT6, 2), (KR7, KT7, 3), (KR8, KT8, 11), (KR9, KT9, 14), (KR10, KT10, 50)]
end
section
/-! THE ABSTRACT MACHINE OF THIS CLAIM: an abstract heap is a list of cells (kind, contents); kinds 0..10 are the claim's classes, 20 int[], 21 boolean[], 22 int[][]; the reference k is the place k of that list; place 0 is the static array FACTORIALS, place 1 the script. -/
abbrev HV : Type := List (Nat × List Value)
abbrev LV : Type := List Value
/-- the geometry: class numbers, slots, the array classes, the addresses of the two cells that were there, the first new address -/
abbrev GT : Type := (Nat → ClassId) × (Nat → Nat → Nat) × ClassId × ClassId × ClassId × Nat × Nat × Nat
abbrev g_D (G : GT) : va_G := (G.1, G.2.1)
abbrev g_I (G : GT) : ClassId := G.2.2.1
abbrev g_Z (G : GT) : ClassId := G.2.2.2.1
abbrev g_R (G : GT) : ClassId := G.2.2.2.2.1
abbrev g_t (G : GT) : Nat := G.2.2.2.2.2.1
abbrev g_b (G : GT) : Nat := G.2.2.2.2.2.2.1
abbrev g_base (G : GT) : Nat := G.2.2.2.2.2.2.2
def g_A (G : GT) : Nat → Prop := fun q => g_base G ≤ q
def g_mu (G : GT) (k : Nat) : Nat := if k = 0 then g_t G else if k = 1 then g_b G else g_base G + (k - 2)
theorem g_mu2 (G : GT) (k : Nat) : g_mu G (k + 2) = g_base G + k := by simp [g_mu]
def cv (G : GT) (v : Value) : Value := match v with
  | .ref k => .ref (g_mu G k)
  | w => w
theorem cv_int (G : GT) (x : Int32) : cv G (.int x) = .int x := rfl
theorem cv_long (G : GT) (x : Int64) : cv G (.long x) = .long x := rfl
theorem cv_ref (G : GT) (k : Nat) : cv G (.ref k) = .ref (g_mu G k) := rfl
theorem cv_cat (G : GT) (v : Value) : (cv G v).category = v.category := by cases v <;> rfl
def c_toI (v : Value) : Int32 := match v with
  | .int x => x
  | _ => 0
def c_toR (G : GT) (v : Value) : Option Nat := match v with
  | .ref k => some (g_mu G k)
  | _ => none
/-- an abstract cell as the kit has it -/
def cE (G : GT) (c : Nat × List Value) : va_E :=
  if c.1 = 20 then .inl (g_I G, c.2.length, .inl (fun j => c_toI (c.2.getD j .null)))
  else if c.1 = 21 then .inl (g_Z G, c.2.length, .inl (fun j => c_toI (c.2.getD j .null)))
  else if c.1 = 22 then .inl (g_R G, c.2.length, .inr (.inr (.inr (.inr (fun j => c_toR G (c.2.getD j .null))))))
  else .inr (c.1, c.2.map (cv G))
theorem cE_I (G : GT) (vs : List Value) : cE G (20, vs) = .inl (g_I G, vs.length, .inl (fun j => c_toI (vs.getD j .null))) := rfl
theorem cE_Z (G : GT) (vs : List Value) : cE G (21, vs) = .inl (g_Z G, vs.length, .inl (fun j => c_toI (vs.getD j .null))) := rfl
theorem cE_R (G : GT) (vs : List Value) : cE G (22, vs) = .inl (g_R G, vs.length, .inr (.inr (.inr (.inr (fun j => c_toR G (vs.getD j .null)))))) := rfl
theorem cE_O (G : GT) {ci : Nat} (hc : ci < 20) (vs : List Value) : cE G (ci, vs) = .inr (ci, vs.map (cv G)) := by
  unfold cE
  rw [if_neg (by show ¬ ci = 20; omega), if_neg (by show ¬ ci = 21; omega), if_neg (by show ¬ ci = 22; omega)]
/-- the cells with their addresses -/
def wsAt (G : GT) : Nat → HV → va_W
  | _, [] => []
  | k, c :: t => (g_base G + k, cE G c) :: wsAt G (k + 1) t
def wsOf (G : GT) (h : HV) : va_W := wsAt G 0 (h.drop 2)
theorem wsAt_get (G : GT) : ∀ (h : HV) (k q : Nat), (wsAt G k h)[q]? = (h[q]?).map (fun c => (g_base G + (k + q), cE G c))
  | [], k, q => by simp [wsAt]
  | c :: t, k, 0 => by simp [wsAt]
  | c :: t, k, q + 1 => by
    simp only [wsAt, List.getElem?_cons_succ]
    rw [wsAt_get G t (k + 1) q, show k + 1 + q = k + (q + 1) by omega]
theorem wsAt_set (G : GT) : ∀ (h : HV) (k q : Nat) (c : Nat × List Value), (wsAt G k h).set q (g_base G + (k + q), cE G c) = wsAt G k (h.set q c)
  | [], k, q, c => by simp [wsAt]
  | a :: t, k, 0, c => by simp [wsAt]
  | a :: t, k, q + 1, c => by
    simp only [wsAt, List.set_cons_succ]
    rw [← wsAt_set G t (k + 1) q c, show k + 1 + q = k + (q + 1) by omega]
theorem wsAt_app (G : GT) : ∀ (h : HV) (k : Nat) (c : Nat × List Value), wsAt G k (h ++ [c]) = wsAt G k h ++ [(g_base G + (k + h.length), cE G c)]
  | [], k, c => by simp [wsAt]
  | a :: t, k, c => by
    simp only [wsAt, List.cons_append, List.length_cons]
    rw [wsAt_app G t (k + 1) c, show k + 1 + t.length = k + (t.length + 1) by omega]
theorem wsOf_get (G : GT) {h : HV} {r : Nat} {c : Nat × List Value} (hr : h[r + 2]? = some c) : (wsOf G h)[r]? = some (g_base G + r, cE G c) := by
  unfold wsOf
  rw [wsAt_get, List.getElem?_drop, show 2 + r = r + 2 by omega, hr]
  simp
theorem wsOf_set (G : GT) (h : HV) (r : Nat) (c : Nat × List Value) : (wsOf G h).set r (g_base G + r, cE G c) = wsOf G (h.set (r + 2) c) := by
  unfold wsOf
  have e := wsAt_set G (h.drop 2) 0 r c
  rw [show 0 + r = r by omega] at e
  rw [e]
  congr 1
  rw [List.drop_set, if_neg (by omega), show r + 2 - 2 = r by omega]
theorem wsOf_app (G : GT) {h : HV} (h2 : 2 ≤ h.length) (c : Nat × List Value) : wsOf G (h ++ [c]) = wsOf G h ++ [(g_base G + (h.length - 2), cE G c)] := by
  unfold wsOf
  rw [List.drop_append_of_le_length h2, wsAt_app, List.length_drop]
  simp
theorem wsOf_len (G : GT) (h : HV) {k : Nat} {q : Nat × va_E} (hk : (wsOf G h)[k]? = some q) : q.1 = g_base G + k ∧ k + 2 < h.length := by
  unfold wsOf at hk
  rw [wsAt_get, Option.map_eq_some_iff] at hk
  obtain ⟨c, hc, rfl⟩ := hk
  refine ⟨by simp, ?_⟩
  have := (List.getElem?_eq_some_iff.mp hc).1
  rw [List.length_drop] at this
  omega
theorem wsOf_D (G : GT) (h : HV) : va_D (g_A G) (wsOf G h) := by
  refine ⟨fun i j p q hi hj he => ?_, fun k q hk => ?_⟩
  · have a := (wsOf_len G h hi).1
    have b := (wsOf_len G h hj).1
    omega
  · rw [(wsOf_len G h hk).1]
    exact Nat.le_add_right _ _
/-- reading and writing the abstract heap -/
def hg (h : HV) (r k : Nat) : Option Value := (h[r]?).bind fun c => c.2[k]?
def hk (h : HV) (r : Nat) : Option Nat := (h[r]?).map fun c => c.1
def hn (h : HV) (r : Nat) : Option Nat := (h[r]?).map fun c => c.2.length
def hs (h : HV) (r k : Nat) (v : Value) : HV := match h[r]? with
  | some c => h.set r (c.1, c.2.set k v)
  | none => h
def hsz : HV → Nat
  | [] => 0
  | c :: t => c.2.length + hsz t
theorem hs_len (h : HV) (r k : Nat) (v : Value) : (hs h r k v).length = h.length := by
  unfold hs; split <;> simp
theorem hsz_set : ∀ (h : HV) (r : Nat) (c c' : Nat × List Value), h[r]? = some c → c'.2.length = c.2.length → hsz (h.set r c') = hsz h
  | [], r, c, c', h1, _ => by simp at h1
  | a :: t, 0, c, c', h1, h2 => by
    simp at h1; subst h1
    simp [hsz, h2]
  | a :: t, r + 1, c, c', h1, h2 => by
    simp at h1
    simp [hsz, hsz_set t r c c' h1 h2]
theorem hsz_app : ∀ (h : HV) (c : Nat × List Value), hsz (h ++ [c]) = hsz h + c.2.length
  | [], c => by simp [hsz]
  | a :: t, c => by simp [hsz, hsz_app t c]; omega
theorem hs_sz (h : HV) (r k : Nat) (v : Value) : hsz (hs h r k v) = hsz h := by
  unfold hs; split
  · next c hc => exact hsz_set h r c _ hc (by simp)
  · rfl
theorem hg_some {h : HV} {r k : Nat} {v : Value} (e : hg h r k = some v) : ∃ c, h[r]? = some c ∧ c.2[k]? = some v := by
  unfold hg at e
  exact Option.bind_eq_some_iff.mp e
theorem hk_some {h : HV} {r k : Nat} (e : hk h r = some k) : ∃ c, h[r]? = some c ∧ c.1 = k := by
  unfold hk at e
  exact Option.map_eq_some_iff.mp e
theorem hk_cell {h : HV} {r ci : Nat} (e : hk h r = some ci) : ∃ vs, h[r]? = some (ci, vs) := by
  obtain ⟨⟨a, b⟩, h1, h2⟩ := hk_some e
  exact ⟨b, by rw [h1]; cases h2; rfl⟩
theorem hs_eq {h : HV} {r k ci : Nat} {vs : List Value} {v : Value} (e : h[r]? = some (ci, vs)) : hs h r k v = h.set r (ci, vs.set k v) := by
  unfold hs; rw [e]
theorem hg_eq {h : HV} {r k ci : Nat} {vs : List Value} (e : h[r]? = some (ci, vs)) : hg h r k = vs[k]? := by
  unfold hg; rw [e]; rfl
/-- locals: a list by slots, null where nothing is known -/
def lclr (v : Value) : Value := if v.category = 2 then .null else v
def lset : LV → Nat → Value → LV
  | [], _, _ => []
  | _ :: t, 0, v => v :: t
  | a :: t, n + 1, v => (if n = 0 then lclr a else a) :: lset t n v
def lcut : Nat → LV → LV
  | _, [] => []
  | 0, _ :: t => .null :: lcut 0 t
  | n + 1, a :: t => a :: lcut n t
theorem lset_len : ∀ (ls : LV) (i : Nat) (v : Value), (lset ls i v).length = ls.length
  | [], _, _ => rfl
  | _ :: _, 0, _ => rfl
  | a :: t, n + 1, v => by simp [lset, lset_len t n v]
theorem lcut_len : ∀ (n : Nat) (ls : LV), (lcut n ls).length = ls.length
  | _, [] => by simp [lcut]
  | 0, _ :: t => by simp [lcut, lcut_len 0 t]
  | n + 1, _ :: t => by simp [lcut, lcut_len n t]
theorem lcut_get : ∀ (n : Nat) (ls : LV) (i : Nat) (v : Value), (lcut n ls)[i]? = some v → v ≠ .null → ls[i]? = some v
  | _, [], i, v, h, _ => by simp [lcut] at h
  | 0, _ :: t, 0, v, h, hv => by simp [lcut] at h; exact absurd h.symm hv
  | 0, _ :: t, i + 1, v, h, hv => by
    simp only [lcut, List.getElem?_cons_succ] at h ⊢
    exact lcut_get 0 t i v h hv
  | n + 1, a :: t, 0, v, h, _ => by simpa [lcut] using h
  | n + 1, a :: t, i + 1, v, h, hv => by
    simp only [lcut, List.getElem?_cons_succ] at h ⊢
    exact lcut_get n t i v h hv
theorem lset_self : ∀ (ls : LV) (i : Nat) (v : Value), i < ls.length → (lset ls i v)[i]? = some v
  | [], _, _, h => by simp at h
  | _ :: _, 0, _, _ => rfl
  | a :: t, n + 1, v, h => by
    simp only [lset, List.getElem?_cons_succ]
    exact lset_self t n v (by simpa using h)
theorem lset_ne : ∀ (ls : LV) (i : Nat) (v : Value) (j : Nat) (w : Value), j ≠ i → (lset ls i v)[j]? = some w → w ≠ .null → ls[j]? = some w ∧ (j + 1 = i → w.category ≠ 2)
  | [], _, _, _, _, _, h, _ => by simp [lset] at h
  | a :: t, 0, v, 0, w, hne, _, _ => absurd rfl hne
  | a :: t, 0, v, j + 1, w, _, h, _ => by
    simp only [lset, List.getElem?_cons_succ] at h ⊢
    exact ⟨h, fun e => by omega⟩
  | a :: t, n + 1, v, 0, w, _, h, hw => by
    simp only [lset, List.getElem?_cons_zero] at h ⊢
    by_cases hn : n = 0
    · rw [if_pos hn] at h
      unfold lclr at h
      split at h
      · exact absurd (Option.some.inj h).symm hw
      · next hc => exact ⟨h, fun _ => by cases h; exact hc⟩
    · rw [if_neg hn] at h
      exact ⟨h, fun e => by omega⟩
  | a :: t, n + 1, v, j + 1, w, hne, h, hw => by
    simp only [lset, List.getElem?_cons_succ] at h ⊢
    obtain ⟨h1, h2⟩ := lset_ne t n v j w (by omega) h hw
    exact ⟨h1, fun e => h2 (by omega)⟩
/-- a machine's locals and the abstract ones -/
def asc (G : GT) (ls : LV) : List (Nat × Value) := (List.range ls.length).filterMap fun i => match ls[i]? with
  | some v => if v = .null then none else some (i, cv G v)
  | none => none
theorem asc_mem {G : GT} {ls : LV} {q : Nat × Value} : q ∈ asc G ls ↔ ∃ v, ls[q.1]? = some v ∧ v ≠ .null ∧ q.2 = cv G v := by
  unfold asc
  rw [List.mem_filterMap]
  constructor
  · rintro ⟨i, hi, h⟩
    rw [List.mem_range] at hi
    rw [List.getElem?_eq_getElem hi] at h
    simp only at h
    split at h
    · cases h
    · next hne => cases h; exact ⟨ls[i], by rw [List.getElem?_eq_getElem hi], hne, rfl⟩
  · rintro ⟨v, h1, h2, h3⟩
    refine ⟨q.1, List.mem_range.mpr (List.getElem?_eq_some_iff.mp h1).1, ?_⟩
    rw [h1]
    simp only
    rw [if_neg h2]
    rw [← h3]
def Lh (G : GT) (nL : Nat) (mls : Array Slot) (ls : LV) : Prop := ls.length = nL ∧ lv_has mls nL (asc G ls)
theorem Lh_at {G : GT} {nL : Nat} {mls : Array Slot} {ls : LV} (h : Lh G nL mls ls) {i : Nat} {v : Value} (hv : ls[i]? = some v) (hne : v ≠ .null) : mls[i]? = some (.val (cv G v)) :=
  h.2.2.2 (i, cv G v) (asc_mem.mpr ⟨v, hv, hne, rfl⟩)
theorem Lh_size {G : GT} {nL : Nat} {mls : Array Slot} {ls : LV} (h : Lh G nL mls ls) : mls.size = nL := h.2.1
theorem Lh_weak {G : GT} {nL : Nat} {mls : Array Slot} {ls ls' : LV} (h : Lh G nL mls ls) (hl : ls'.length = ls.length) (hs : ∀ (i : Nat) (v : Value), ls'[i]? = some v → v ≠ .null → ls[i]? = some v) : Lh G nL mls ls' :=
  ⟨hl.trans h.1, h.2.1, h.2.2.1, fun q hq => by
    obtain ⟨v, h1, h2, h3⟩ := asc_mem.mp hq
    exact h.2.2.2 q (asc_mem.mpr ⟨v, hs _ _ h1 h2, h2, h3⟩)⟩
theorem Lh_cut {G : GT} {nL : Nat} {mls : Array Slot} {ls : LV} (n : Nat) (h : Lh G nL mls ls) : Lh G nL mls (lcut n ls) := Lh_weak h (lcut_len n ls) (lcut_get n ls)
theorem Lh_set1 {G : GT} {nL : Nat} {mls : Array Slot} {ls : LV} {i : Nat} {v : Value} (hl : ls.length = nL) (hi : i < nL) (h : lv_has mls nL ((i, cv G v) :: (asc G ls).filter (fun q => !(q.1 == i) && !(q.1 + 1 == i && q.2.category == 2)))) : Lh G nL mls (lset ls i v) := by
  refine ⟨(lset_len ls i v).trans hl, h.1, h.2.1, fun q hq => ?_⟩
  obtain ⟨w, h1, h2, h3⟩ := asc_mem.mp hq
  by_cases e : q.1 = i
  · rw [e, lset_self ls i v (by omega)] at h1
    cases h1
    have := h.2.2 (i, cv G v) List.mem_cons_self
    rw [e, h3]; exact this
  · obtain ⟨a, b⟩ := lset_ne ls i v q.1 w e h1 h2
    refine h.2.2 q (List.mem_cons_of_mem _ (List.mem_filter.mpr ⟨asc_mem.mpr ⟨w, a, h2, h3⟩, ?_⟩))
    have hc : q.2.category = w.category := by rw [h3, cv_cat]
    simp only [Bool.and_eq_true, Bool.not_eq_true', beq_eq_false_iff_ne, ne_eq, Bool.and_eq_false_iff, hc]
    refine ⟨e, ?_⟩
    by_cases e2 : q.1 + 1 = i
    · exact Or.inr (b e2)
    · exact Or.inl e2
theorem Lh_set2 {G : GT} {nL : Nat} {mls : Array Slot} {ls : LV} {i : Nat} {v : Value} (hl : ls.length = nL) (hi : i + 1 < nL) (h : lv_has mls nL ((i, cv G v) :: (asc G ls).filter (fun q => !(q.1 == i) && (!(q.1 == i + 1) && !(q.1 + 1 == i && q.2.category == 2))))) : Lh G nL mls (lset (lset ls (i + 1) .null) i v) := by
  refine ⟨(lset_len _ i v).trans ((lset_len ls _ _).trans hl), h.1, h.2.1, fun q hq => ?_⟩
  obtain ⟨w, h1, h2, h3⟩ := asc_mem.mp hq
  by_cases e : q.1 = i
  · rw [e, lset_self _ i v (by rw [lset_len]; omega)] at h1
    cases h1
    have := h.2.2 (i, cv G v) List.mem_cons_self
    rw [e, h3]; exact this
  · obtain ⟨a, b⟩ := lset_ne _ i v q.1 w e h1 h2
    by_cases e1 : q.1 = i + 1
    · rw [e1, lset_self ls (i + 1) .null (by omega)] at a
      exact absurd (Option.some.inj a).symm h2
    · obtain ⟨a', b'⟩ := lset_ne ls (i + 1) .null q.1 w e1 a h2
      refine h.2.2 q (List.mem_cons_of_mem _ (List.mem_filter.mpr ⟨asc_mem.mpr ⟨w, a', h2, h3⟩, ?_⟩))
      have hc : q.2.category = w.category := by rw [h3, cv_cat]
      simp only [Bool.and_eq_true, Bool.not_eq_true', beq_eq_false_iff_ne, ne_eq, Bool.and_eq_false_iff, hc]
      refine ⟨e, e1, ?_⟩
      by_cases e2 : q.1 + 1 = i
      · exact Or.inr (b e2)
      · exact Or.inl e2
end
section
/-! THE JUDGEMENT wA: from this place of a method, with these locals, this stack and this abstract heap, the method comes to an end that its caller allows. -/
abbrev KT : Type := Program × Launch × Env × Room × State × MethodId × Array Value × List Frame × Method × Code × (State → Prop) × GT × Nat × Nat × Nat × String × Option FieldType × (Option Value → HV → Prop)
abbrev k_p (κ : KT) : Program := κ.1
abbrev k_l (κ : KT) : Launch := κ.2.1
abbrev k_e (κ : KT) : Env := κ.2.2.1
abbrev k_R (κ : KT) : Room := κ.2.2.2.1
abbrev k_s (κ : KT) : State := κ.2.2.2.2.1
abbrev k_m (κ : KT) : MethodId := κ.2.2.2.2.2.1
abbrev k_a (κ : KT) : Array Value := κ.2.2.2.2.2.2.1
abbrev k_b (κ : KT) : List Frame := κ.2.2.2.2.2.2.2.1
abbrev k_me (κ : KT) : Method := κ.2.2.2.2.2.2.2.2.1
abbrev k_c (κ : KT) : Code := κ.2.2.2.2.2.2.2.2.2.1
abbrev k_Q (κ : KT) : State → Prop := κ.2.2.2.2.2.2.2.2.2.2.1
abbrev k_G (κ : KT) : GT := κ.2.2.2.2.2.2.2.2.2.2.2.1
abbrev k_nL (κ : KT) : Nat := κ.2.2.2.2.2.2.2.2.2.2.2.2.1
abbrev k_n0 (κ : KT) : Nat := κ.2.2.2.2.2.2.2.2.2.2.2.2.2.1
abbrev k_t0 (κ : KT) : Nat := κ.2.2.2.2.2.2.2.2.2.2.2.2.2.2.1
abbrev k_own (κ : KT) : String := κ.2.2.2.2.2.2.2.2.2.2.2.2.2.2.2.1
abbrev k_rt (κ : KT) : Option FieldType := κ.2.2.2.2.2.2.2.2.2.2.2.2.2.2.2.2.1
abbrev k_ret (κ : KT) : Option Value → HV → Prop := κ.2.2.2.2.2.2.2.2.2.2.2.2.2.2.2.2.2
def facs : List Int32 := [1, 1, 2, 6, 24, 120, 720]
def facV : List Value := facs.map Value.int
def facF (j : Nat) : Value := .int (facs.getD j 0)
abbrev g_tys (G : GT) : List (ClassId × FieldType) := [(g_I G, .int), (g_Z G, .boolean), (g_R G, .array .int)]
/-- the world: what a real heap is when the abstract one is h -/
def Wo (G : GT) (h : HV) (H : Heap) : Prop := H.size + 2 = g_base G + h.length ∧ 2 ≤ h.length ∧ h[0]? = some (20, facV) ∧ va_P (g_D G) classes (wsOf G h) H
/-- what stays true of the tables and the statics -/
def Ta (G : GT) (s : State) (H : Heap) : Prop := va_K (g_D G) classes (g_tys G) s ∧ va_Z "PackLanes" "FACTORIALS" "[I" (.ref (g_t G)) (g_A G) s H ∧ va_T .int (g_t G) 7 facF (g_A G) s H ∧ (Cond.arrayOver (.array .int)).before #[] s = true ∧ g_base G ≤ H.size
def Wd (κ : KT) (H : Heap) (locs : List Loc) (cells slots : Nat) (h : HV) : Prop :=
  Wo (k_G κ) h H ∧ va_S (g_A (k_G κ)) (k_s κ).heap H locs ∧ H.size = (k_s κ).heap.size + cells ∧ h.length = k_n0 κ + cells ∧ hsz h = k_t0 κ + slots ∧ cells ≤ (k_R κ).cells ∧ slots ≤ (k_R κ).slots
/-- does this instruction give this answer back, of a method with this return type -/
def retI (rt : Option FieldType) (i : Instr) (o : Option Value) : Prop := match rt with
  | none => i = .return_ ∧ o = none
  | some .long => i = .lreturn ∧ ∃ x, o = some (.long x)
  | some .int => i = .ireturn ∧ ∃ x, o = some (.int x)
  | some .boolean => i = .ireturn ∧ ∃ x : Int32, o = some (.int x) ∧ (x = 0 ∨ x = 1)
  | _ => False
abbrev kW (κ : KT) (H : Heap) (locs : List Loc) (cells slots : Nat) (pc : Nat) (mls : Array Slot) (st : List Value) : Prop :=
  W (k_p κ) (k_l κ) (k_e κ) (k_R κ) (k_s κ) (k_m κ) (k_a κ) (k_b κ) (k_me κ) (k_c κ) H locs cells slots (k_Q κ) (F0 (k_m κ) pc mls st)
def KO (cc : ByteArray) (κ : KT) : Prop :=
  (k_p κ).tables.exec = Jvm.exec ∧ (k_c κ).code = cc ∧ (k_c κ).maxLocals = k_nL κ ∧ (k_s κ).vm.findClass (k_own κ) = some (k_m κ).cls ∧ (∀ w ∈ BIG, w.before (k_a κ) (k_s κ) = true) ∧ Ta (k_G κ) (k_s κ) (k_s κ).heap ∧
  (∀ (pc : Nat) (i : Instr) (o : Option Value) (mls : Array Slot) (H : Heap) (locs : List Loc) (cells slots : Nat) (h : HV), retI (k_rt κ) i o → decode cc pc = .ok (i, 1) → Wd κ H locs cells slots h → k_ret κ o h → kW κ H locs cells slots pc mls (o.toList.map (cv (k_G κ))))
def wA (cc : ByteArray) (κ : KT) (pc : Nat) (ls st : LV) (h : HV) : Prop :=
  KO cc κ → ∀ (mls : Array Slot) (H : Heap) (locs : List Loc) (cells slots : Nat), Lh (k_G κ) (k_nL κ) mls ls → Wd κ H locs cells slots h → kW κ H locs cells slots pc mls (st.map (cv (k_G κ)))
section RU
variable {cc : ByteArray} {κ : KT} {pc : Nat} {ls st : LV} {h : HV}
theorem wA_cut (n : Nat) (k : wA cc κ pc (lcut n ls) st h) : wA cc κ pc ls st h := fun O mls H locs cells slots hL hW => k O mls H locs cells slots (Lh_cut n hL) hW
theorem r_iload_n {k : Fin 4} {i : Nat} {x : Int32} (hd : decode cc pc = .ok (.iload_n k, 1)) (hi : (k : Nat) = i) (hl : ls[i]? = some (.int x)) (kk : wA cc κ (pc + 1) ls (.int x :: st) h) : wA cc κ pc ls st h :=
  fun O mls H locs cells slots hL hW => lv_iload_n O.1 O.2.1 hd hi (Lh_at hL hl (by simp)) (kk O mls H locs cells slots hL hW)
theorem r_iload {i : Nat} {x : Int32} (hd : decode cc pc = .ok (.iload i, 2)) (hl : ls[i]? = some (.int x)) (kk : wA cc κ (pc + 2) ls (.int x :: st) h) : wA cc κ pc ls st h :=
  fun O mls H locs cells slots hL hW => lv_iload O.1 O.2.1 hd (Lh_at hL hl (by simp)) (kk O mls H locs cells slots hL hW)
theorem r_lload_n {k : Fin 4} {i : Nat} {x : Int64} (hd : decode cc pc = .ok (.lload_n k, 1)) (hi : (k : Nat) = i) (hl : ls[i]? = some (.long x)) (kk : wA cc κ (pc + 1) ls (.long x :: st) h) : wA cc κ pc ls st h :=
  fun O mls H locs cells slots hL hW => lv_lload_n O.1 O.2.1 hd hi (Lh_at hL hl (by simp)) (kk O mls H locs cells slots hL hW)
theorem r_lload {i : Nat} {x : Int64} (hd : decode cc pc = .ok (.lload i, 2)) (hl : ls[i]? = some (.long x)) (kk : wA cc κ (pc + 2) ls (.long x :: st) h) : wA cc κ pc ls st h :=
  fun O mls H locs cells slots hL hW => lv_lload O.1 O.2.1 hd (Lh_at hL hl (by simp)) (kk O mls H locs cells slots hL hW)
theorem r_aload_n {k : Fin 4} {i : Nat} {x : Nat} (hd : decode cc pc = .ok (.aload_n k, 1)) (hi : (k : Nat) = i) (hl : ls[i]? = some (.ref x)) (kk : wA cc κ (pc + 1) ls (.ref x :: st) h) : wA cc κ pc ls st h :=
  fun O mls H locs cells slots hL hW => lv_aload_n O.1 O.2.1 hd hi (Lh_at hL hl (by simp)) (kk O mls H locs cells slots hL hW)
theorem r_istore_n {k : Fin 4} {i : Nat} {x : Int32} (hd : decode cc pc = .ok (.istore_n k, 1)) (hi : (k : Nat) = i) (hn : i < ls.length) (kk : wA cc κ (pc + 1) (lset ls i (.int x)) st h) : wA cc κ pc ls (.int x :: st) h :=
  fun O mls H locs cells slots hL hW => lv_istore_n O.1 O.2.1 hd hi hL.2 (by rw [← hL.1]; exact hn) rfl fun ls' hl' => kk O ls' H locs cells slots (Lh_set1 (v := .int x) hL.1 (by rw [← hL.1]; exact hn) hl') hW
theorem r_istore {i : Nat} {x : Int32} (hd : decode cc pc = .ok (.istore i, 2)) (hn : i < ls.length) (kk : wA cc κ (pc + 2) (lset ls i (.int x)) st h) : wA cc κ pc ls (.int x :: st) h :=
  fun O mls H locs cells slots hL hW => lv_istore O.1 O.2.1 hd hL.2 (by rw [← hL.1]; exact hn) rfl fun ls' hl' => kk O ls' H locs cells slots (Lh_set1 (v := .int x) hL.1 (by rw [← hL.1]; exact hn) hl') hW
theorem r_lstore_n {k : Fin 4} {i : Nat} {x : Int64} (hd : decode cc pc = .ok (.lstore_n k, 1)) (hi : (k : Nat) = i) (hn : i + 1 < ls.length) (kk : wA cc κ (pc + 1) (lset (lset ls (i + 1) .null) i (.long x)) st h) : wA cc κ pc ls (.long x :: st) h :=
  fun O mls H locs cells slots hL hW => lv_lstore_n O.1 O.2.1 hd hi hL.2 (by rw [← hL.1]; exact hn) rfl fun ls' hl' => kk O ls' H locs cells slots (Lh_set2 (v := .long x) hL.1 (by rw [← hL.1]; exact hn) hl') hW
theorem r_lstore {i : Nat} {x : Int64} (hd : decode cc pc = .ok (.lstore i, 2)) (hn : i + 1 < ls.length) (kk : wA cc κ (pc + 2) (lset (lset ls (i + 1) .null) i (.long x)) st h) : wA cc κ pc ls (.long x :: st) h :=
  fun O mls H locs cells slots hL hW => lv_lstore O.1 O.2.1 hd hL.2 (by rw [← hL.1]; exact hn) rfl fun ls' hl' => kk O ls' H locs cells slots (Lh_set2 (v := .long x) hL.1 (by rw [← hL.1]; exact hn) hl') hW
theorem r_astore_n {k : Fin 4} {i : Nat} {x : Nat} (hd : decode cc pc = .ok (.astore_n k, 1)) (hi : (k : Nat) = i) (hn : i < ls.length) (kk : wA cc κ (pc + 1) (lset ls i (.ref x)) st h) : wA cc κ pc ls (.ref x :: st) h :=
  fun O mls H locs cells slots hL hW => lv_astore_n O.1 O.2.1 hd hi hL.2 (by rw [← hL.1]; exact hn) rfl fun ls' hl' => kk O ls' H locs cells slots (Lh_set1 (v := .ref x) hL.1 (by rw [← hL.1]; exact hn) hl') hW
theorem r_iinc {i : Nat} {n : Int} {x : Int32} (hd : decode cc pc = .ok (.iinc i n, 3)) (hl : ls[i]? = some (.int x)) (kk : wA cc κ (pc + 3) (lset ls i (.int (x + Int32.ofInt n))) st h) : wA cc κ pc ls st h :=
  fun O mls H locs cells slots hL hW => by
    have hi : i < ls.length := (List.getElem?_eq_some_iff.mp hl).1
    obtain ⟨k, hk⟩ := List.getElem?_of_mem (asc_mem.mpr ⟨_, hl, by simp, rfl⟩ : (i, cv (k_G κ) (.int x)) ∈ asc (k_G κ) ls)
    exact lv_iinc O.1 O.2.1 hd hL.2 hk rfl (by rw [← hL.1]; exact hi) rfl fun ls' hl' => kk O ls' H locs cells slots (Lh_set1 (v := .int (x + Int32.ofInt n)) hL.1 (by rw [← hL.1]; exact hi) hl') hW
theorem r_iconst {n : Int} {v : Int32} (hd : decode cc pc = .ok (.iconst n, 1)) (hv : Int32.ofInt n = v) (kk : wA cc κ (pc + 1) ls (.int v :: st) h) : wA cc κ pc ls st h :=
  fun O mls H locs cells slots hL hW => lv_iconst O.1 O.2.1 hd hv (kk O mls H locs cells slots hL hW)
theorem r_bipush {n : Int} {v : Int32} (hd : decode cc pc = .ok (.bipush n, 2)) (hv : (Int8.ofInt n).toInt32 = v) (kk : wA cc κ (pc + 2) ls (.int v :: st) h) : wA cc κ pc ls st h :=
  fun O mls H locs cells slots hL hW => lv_bipush O.1 O.2.1 hd hv (kk O mls H locs cells slots hL hW)
theorem r_sipush {n : Int} {v : Int32} (hd : decode cc pc = .ok (.sipush n, 3)) (hv : (Int16.ofInt n).toInt32 = v) (kk : wA cc κ (pc + 3) ls (.int v :: st) h) : wA cc κ pc ls st h :=
  fun O mls H locs cells slots hL hW => lv_sipush O.1 O.2.1 hd hv (kk O mls H locs cells slots hL hW)
theorem r_lconst {n : Fin 2} {v : Int64} (hd : decode cc pc = .ok (.lconst n, 1)) (hv : Int64.ofNat (n : Nat) = v) (kk : wA cc κ (pc + 1) ls (.long v :: st) h) : wA cc κ pc ls st h :=
  fun O mls H locs cells slots hL hW => lv_lconst O.1 O.2.1 hd hv (kk O mls H locs cells slots hL hW)
theorem r_ldcw {own : String} {index : Nat} {v : Int32} (ho : k_own κ = own) (hw : Cond.constant own index v ∈ BIG) (hd : decode cc pc = .ok (.ldc_w index, 3)) (kk : wA cc κ (pc + 3) ls (.int v :: st) h) : wA cc κ pc ls st h :=
  fun O mls H locs cells slots hL hW => lv_ldcw O.1 O.2.1 (by rw [← ho]; exact O.2.2.2.1) (O.2.2.2.2.1 _ hw) hd (kk O mls H locs cells slots hL hW)
theorem r_ldc2 {own : String} {index : Nat} {v : Int64} (ho : k_own κ = own) (hw : Cond.constantLong own index v ∈ BIG) (hd : decode cc pc = .ok (.ldc2_w index, 3)) (kk : wA cc κ (pc + 3) ls (.long v :: st) h) : wA cc κ pc ls st h :=
  fun O mls H locs cells slots hL hW => lv_ldc2 O.1 O.2.1 (by rw [← ho]; exact O.2.2.2.1) (O.2.2.2.2.1 _ hw) hd (kk O mls H locs cells slots hL hW)
theorem r_iadd {x y : Int32} (hd : decode cc pc = .ok (.iadd, 1)) (kk : wA cc κ (pc + 1) ls (.int (x + y) :: st) h) : wA cc κ pc ls (.int y :: .int x :: st) h := fun O mls H locs cells slots hL hW => lv_iadd O.1 O.2.1 hd (kk O mls H locs cells slots hL hW)
theorem r_isub {x y : Int32} (hd : decode cc pc = .ok (.isub, 1)) (kk : wA cc κ (pc + 1) ls (.int (x - y) :: st) h) : wA cc κ pc ls (.int y :: .int x :: st) h := fun O mls H locs cells slots hL hW => lv_isub O.1 O.2.1 hd (kk O mls H locs cells slots hL hW)
theorem r_imul {x y : Int32} (hd : decode cc pc = .ok (.imul, 1)) (kk : wA cc κ (pc + 1) ls (.int (x * y) :: st) h) : wA cc κ pc ls (.int y :: .int x :: st) h := fun O mls H locs cells slots hL hW => lv_imul O.1 O.2.1 hd (kk O mls H locs cells slots hL hW)
theorem r_iand {x y : Int32} (hd : decode cc pc = .ok (.iand, 1)) (kk : wA cc κ (pc + 1) ls (.int (x &&& y) :: st) h) : wA cc κ pc ls (.int y :: .int x :: st) h := fun O mls H locs cells slots hL hW => lv_iand O.1 O.2.1 hd (kk O mls H locs cells slots hL hW)
theorem r_ior {x y : Int32} (hd : decode cc pc = .ok (.ior, 1)) (kk : wA cc κ (pc + 1) ls (.int (x ||| y) :: st) h) : wA cc κ pc ls (.int y :: .int x :: st) h := fun O mls H locs cells slots hL hW => lv_ior O.1 O.2.1 hd (kk O mls H locs cells slots hL hW)
theorem r_ixor {x y : Int32} (hd : decode cc pc = .ok (.ixor, 1)) (kk : wA cc κ (pc + 1) ls (.int (x ^^^ y) :: st) h) : wA cc κ pc ls (.int y :: .int x :: st) h := fun O mls H locs cells slots hL hW => lv_ixor O.1 O.2.1 hd (kk O mls H locs cells slots hL hW)
theorem r_ishl {x y : Int32} (hd : decode cc pc = .ok (.ishl, 1)) (kk : wA cc κ (pc + 1) ls (.int (x <<< (y &&& 31)) :: st) h) : wA cc κ pc ls (.int y :: .int x :: st) h := fun O mls H locs cells slots hL hW => lv_ishl O.1 O.2.1 hd (kk O mls H locs cells slots hL hW)
theorem r_ishr {x y : Int32} (hd : decode cc pc = .ok (.ishr, 1)) (kk : wA cc κ (pc + 1) ls (.int (x >>> (y &&& 31)) :: st) h) : wA cc κ pc ls (.int y :: .int x :: st) h := fun O mls H locs cells slots hL hW => lv_ishr O.1 O.2.1 hd (kk O mls H locs cells slots hL hW)
theorem r_iushr {x y : Int32} (hd : decode cc pc = .ok (.iushr, 1)) (kk : wA cc κ (pc + 1) ls (.int (x.toUInt32 >>> (y.toUInt32 &&& Int32.toUInt32 31)).toInt32 :: st) h) : wA cc κ pc ls (.int y :: .int x :: st) h := fun O mls H locs cells slots hL hW => lv_iushr O.1 O.2.1 hd rfl (kk O mls H locs cells slots hL hW)
theorem r_ineg {x : Int32} (hd : decode cc pc = .ok (.ineg, 1)) (kk : wA cc κ (pc + 1) ls (.int (-x) :: st) h) : wA cc κ pc ls (.int x :: st) h := fun O mls H locs cells slots hL hW => lv_ineg O.1 O.2.1 hd (kk O mls H locs cells slots hL hW)
theorem r_idiv {x y : Int32} (hd : decode cc pc = .ok (.idiv, 1)) (hne : ¬ y = 0) (kk : wA cc κ (pc + 1) ls (.int (x / y) :: st) h) : wA cc κ pc ls (.int y :: .int x :: st) h := fun O mls H locs cells slots hL hW => lv_idiv O.1 O.2.1 hd hne (kk O mls H locs cells slots hL hW)
theorem r_irem {x y : Int32} (hd : decode cc pc = .ok (.irem, 1)) (hne : ¬ y = 0) (kk : wA cc κ (pc + 1) ls (.int (x - x / y * y) :: st) h) : wA cc κ pc ls (.int y :: .int x :: st) h := fun O mls H locs cells slots hL hW => lv_irem O.1 O.2.1 hd hne (kk O mls H locs cells slots hL hW)
theorem r_ladd {x y : Int64} (hd : decode cc pc = .ok (.ladd, 1)) (kk : wA cc κ (pc + 1) ls (.long (x + y) :: st) h) : wA cc κ pc ls (.long y :: .long x :: st) h := fun O mls H locs cells slots hL hW => lv_ladd O.1 O.2.1 hd (kk O mls H locs cells slots hL hW)
theorem r_lsub {x y : Int64} (hd : decode cc pc = .ok (.lsub, 1)) (kk : wA cc κ (pc + 1) ls (.long (x - y) :: st) h) : wA cc κ pc ls (.long y :: .long x :: st) h := fun O mls H locs cells slots hL hW => lv_lsub O.1 O.2.1 hd (kk O mls H locs cells slots hL hW)
theorem r_lmul {x y : Int64} (hd : decode cc pc = .ok (.lmul, 1)) (kk : wA cc κ (pc + 1) ls (.long (x * y) :: st) h) : wA cc κ pc ls (.long y :: .long x :: st) h := fun O mls H locs cells slots hL hW => lv_lmul O.1 O.2.1 hd (kk O mls H locs cells slots hL hW)
theorem r_land {x y : Int64} (hd : decode cc pc = .ok (.land, 1)) (kk : wA cc κ (pc + 1) ls (.long (x &&& y) :: st) h) : wA cc κ pc ls (.long y :: .long x :: st) h := fun O mls H locs cells slots hL hW => lv_land O.1 O.2.1 hd (kk O mls H locs cells slots hL hW)
theorem r_lor {x y : Int64} (hd : decode cc pc = .ok (.lor, 1)) (kk : wA cc κ (pc + 1) ls (.long (x ||| y) :: st) h) : wA cc κ pc ls (.long y :: .long x :: st) h := fun O mls H locs cells slots hL hW => lv_lor O.1 O.2.1 hd (kk O mls H locs cells slots hL hW)
theorem r_ldiv {x y : Int64} (hd : decode cc pc = .ok (.ldiv, 1)) (hne : ¬ y = 0) (kk : wA cc κ (pc + 1) ls (.long (x / y) :: st) h) : wA cc κ pc ls (.long y :: .long x :: st) h := fun O mls H locs cells slots hL hW => lv_ldiv O.1 O.2.1 hd hne (kk O mls H locs cells slots hL hW)
theorem r_lrem {x y : Int64} (hd : decode cc pc = .ok (.lrem, 1)) (hne : ¬ y = 0) (kk : wA cc κ (pc + 1) ls (.long (x - x / y * y) :: st) h) : wA cc κ pc ls (.long y :: .long x :: st) h := fun O mls H locs cells slots hL hW => lv_lrem O.1 O.2.1 hd hne (kk O mls H locs cells slots hL hW)
theorem r_lshl {x : Int64} {y : Int32} (hd : decode cc pc = .ok (.lshl, 1)) (kk : wA cc κ (pc + 1) ls (.long (x <<< (y.toInt64 &&& 63)) :: st) h) : wA cc κ pc ls (.int y :: .long x :: st) h := fun O mls H locs cells slots hL hW => lv_lshl O.1 O.2.1 hd rfl (kk O mls H locs cells slots hL hW)
theorem r_lushr {x : Int64} {y : Int32} (hd : decode cc pc = .ok (.lushr, 1)) (kk : wA cc κ (pc + 1) ls (.long (x.toUInt64 >>> (y.toInt64.toUInt64 &&& Int64.toUInt64 63)).toInt64 :: st) h) : wA cc κ pc ls (.int y :: .long x :: st) h := fun O mls H locs cells slots hL hW => lv_lushr O.1 O.2.1 hd rfl (kk O mls H locs cells slots hL hW)
theorem r_lcmp {x y : Int64} (hd : decode cc pc = .ok (.lcmp, 1)) (kk : wA cc κ (pc + 1) ls (.int (lg_cmp x y) :: st) h) : wA cc κ pc ls (.long y :: .long x :: st) h := fun O mls H locs cells slots hL hW => W.lcmp O.1 O.2.1 hd (kk O mls H locs cells slots hL hW)
theorem r_i2l {x : Int32} (hd : decode cc pc = .ok (.i2l, 1)) (kk : wA cc κ (pc + 1) ls (.long x.toInt64 :: st) h) : wA cc κ pc ls (.int x :: st) h := fun O mls H locs cells slots hL hW => lv_i2l O.1 O.2.1 hd rfl (kk O mls H locs cells slots hL hW)
theorem r_l2i {x : Int64} (hd : decode cc pc = .ok (.l2i, 1)) (kk : wA cc κ (pc + 1) ls (.int x.toInt32 :: st) h) : wA cc κ pc ls (.long x :: st) h := fun O mls H locs cells slots hL hW => lv_l2i O.1 O.2.1 hd rfl (kk O mls H locs cells slots hL hW)
theorem r_dup {v : Value} (hd : decode cc pc = .ok (.dup, 1)) (hv : v.category = 1) (kk : wA cc κ (pc + 1) ls (v :: v :: st) h) : wA cc κ pc ls (v :: st) h := fun O mls H locs cells slots hL hW => lv_dup O.1 O.2.1 hd (by rw [cv_cat]; exact hv) (kk O mls H locs cells slots hL hW)
theorem r_dup2 {v w : Value} (hd : decode cc pc = .ok (.dup2, 1)) (hv : v.category = 1) (hw : w.category = 1) (kk : wA cc κ (pc + 1) ls (v :: w :: v :: w :: st) h) : wA cc κ pc ls (v :: w :: st) h := fun O mls H locs cells slots hL hW => lv_dup2_11 O.1 O.2.1 hd (by rw [cv_cat]; exact hv) (by rw [cv_cat]; exact hw) (kk O mls H locs cells slots hL hW)
theorem r_pop {v : Value} (hd : decode cc pc = .ok (.pop, 1)) (hv : v.category = 1) (kk : wA cc κ (pc + 1) ls st h) : wA cc κ pc ls (v :: st) h := fun O mls H locs cells slots hL hW => lv_pop O.1 O.2.1 hd (by rw [cv_cat]; exact hv) (kk O mls H locs cells slots hL hW)
theorem r_goto {off : Int} {tgt : Nat} (hd : decode cc pc = .ok (.goto off, 3)) (ht : (pc : Int) + off = (tgt : Int)) (kk : wA cc κ tgt ls st h) : wA cc κ pc ls st h := fun O mls H locs cells slots hL hW => lv_goto O.1 O.2.1 hd ht (kk O mls H locs cells slots hL hW)
theorem r_if_eq {x : Int32} {off : Int} {tgt : Nat} (hd : decode cc pc = .ok (.ifCond .eq off, 3)) (ht : (pc : Int) + off = (tgt : Int)) (kt : x = 0 → wA cc κ tgt ls st h) (kf : ¬ x = 0 → wA cc κ (pc + 3) ls st h) : wA cc κ pc ls (.int x :: st) h := fun O mls H locs cells slots hL hW => lv_if_eq O.1 O.2.1 hd ht (fun q => kt q O mls H locs cells slots hL hW) (fun q => kf q O mls H locs cells slots hL hW)
theorem r_if_ne {x : Int32} {off : Int} {tgt : Nat} (hd : decode cc pc = .ok (.ifCond .ne off, 3)) (ht : (pc : Int) + off = (tgt : Int)) (kt : ¬ x = 0 → wA cc κ tgt ls st h) (kf : x = 0 → wA cc κ (pc + 3) ls st h) : wA cc κ pc ls (.int x :: st) h := fun O mls H locs cells slots hL hW => lv_if_ne O.1 O.2.1 hd ht (fun q => kt q O mls H locs cells slots hL hW) (fun q => kf q O mls H locs cells slots hL hW)
theorem r_if_lt {x : Int32} {off : Int} {tgt : Nat} (hd : decode cc pc = .ok (.ifCond .lt off, 3)) (ht : (pc : Int) + off = (tgt : Int)) (kt : x < 0 → wA cc κ tgt ls st h) (kf : ¬ x < 0 → wA cc κ (pc + 3) ls st h) : wA cc κ pc ls (.int x :: st) h := fun O mls H locs cells slots hL hW => lv_if_lt O.1 O.2.1 hd ht (fun q => kt q O mls H locs cells slots hL hW) (fun q => kf q O mls H locs cells slots hL hW)
theorem r_if_ge {x : Int32} {off : Int} {tgt : Nat} (hd : decode cc pc = .ok (.ifCond .ge off, 3)) (ht : (pc : Int) + off = (tgt : Int)) (kt : 0 ≤ x → wA cc κ tgt ls st h) (kf : ¬ 0 ≤ x → wA cc κ (pc + 3) ls st h) : wA cc κ pc ls (.int x :: st) h := fun O mls H locs cells slots hL hW => lv_if_ge O.1 O.2.1 hd ht (fun q => kt q O mls H locs cells slots hL hW) (fun q => kf q O mls H locs cells slots hL hW)
theorem r_if_gt {x : Int32} {off : Int} {tgt : Nat} (hd : decode cc pc = .ok (.ifCond .gt off, 3)) (ht : (pc : Int) + off = (tgt : Int)) (kt : 0 < x → wA cc κ tgt ls st h) (kf : ¬ 0 < x → wA cc κ (pc + 3) ls st h) : wA cc κ pc ls (.int x :: st) h := fun O mls H locs cells slots hL hW => lv_if_gt O.1 O.2.1 hd ht (fun q => kt q O mls H locs cells slots hL hW) (fun q => kf q O mls H locs cells slots hL hW)
theorem r_if_le {x : Int32} {off : Int} {tgt : Nat} (hd : decode cc pc = .ok (.ifCond .le off, 3)) (ht : (pc : Int) + off = (tgt : Int)) (kt : x ≤ 0 → wA cc κ tgt ls st h) (kf : ¬ x ≤ 0 → wA cc κ (pc + 3) ls st h) : wA cc κ pc ls (.int x :: st) h := fun O mls H locs cells slots hL hW => lv_if_le O.1 O.2.1 hd ht (fun q => kt q O mls H locs cells slots hL hW) (fun q => kf q O mls H locs cells slots hL hW)
theorem r_ic_eq {x y : Int32} {off : Int} {tgt : Nat} (hd : decode cc pc = .ok (.if_icmp .eq off, 3)) (ht : (pc : Int) + off = (tgt : Int)) (kt : x = y → wA cc κ tgt ls st h) (kf : ¬ x = y → wA cc κ (pc + 3) ls st h) : wA cc κ pc ls (.int y :: .int x :: st) h := fun O mls H locs cells slots hL hW => lv_icmp_eq O.1 O.2.1 hd ht (fun q => kt q O mls H locs cells slots hL hW) (fun q => kf q O mls H locs cells slots hL hW)
theorem r_ic_ne {x y : Int32} {off : Int} {tgt : Nat} (hd : decode cc pc = .ok (.if_icmp .ne off, 3)) (ht : (pc : Int) + off = (tgt : Int)) (kt : ¬ x = y → wA cc κ tgt ls st h) (kf : x = y → wA cc κ (pc + 3) ls st h) : wA cc κ pc ls (.int y :: .int x :: st) h := fun O mls H locs cells slots hL hW => lv_icmp_ne O.1 O.2.1 hd ht (fun q => kt q O mls H locs cells slots hL hW) (fun q => kf q O mls H locs cells slots hL hW)
theorem r_ic_lt {x y : Int32} {off : Int} {tgt : Nat} (hd : decode cc pc = .ok (.if_icmp .lt off, 3)) (ht : (pc : Int) + off = (tgt : Int)) (kt : x < y → wA cc κ tgt ls st h) (kf : ¬ x < y → wA cc κ (pc + 3) ls st h) : wA cc κ pc ls (.int y :: .int x :: st) h := fun O mls H locs cells slots hL hW => lv_icmp_lt O.1 O.2.1 hd ht (fun q => kt q O mls H locs cells slots hL hW) (fun q => kf q O mls H locs cells slots hL hW)
theorem r_ic_ge {x y : Int32} {off : Int} {tgt : Nat} (hd : decode cc pc = .ok (.if_icmp .ge off, 3)) (ht : (pc : Int) + off = (tgt : Int)) (kt : y ≤ x → wA cc κ tgt ls st h) (kf : ¬ y ≤ x → wA cc κ (pc + 3) ls st h) : wA cc κ pc ls (.int y :: .int x :: st) h := fun O mls H locs cells slots hL hW => lv_icmp_ge O.1 O.2.1 hd ht (fun q => kt q O mls H locs cells slots hL hW) (fun q => kf q O mls H locs cells slots hL hW)
theorem r_ic_gt {x y : Int32} {off : Int} {tgt : Nat} (hd : decode cc pc = .ok (.if_icmp .gt off, 3)) (ht : (pc : Int) + off = (tgt : Int)) (kt : y < x → wA cc κ tgt ls st h) (kf : ¬ y < x → wA cc κ (pc + 3) ls st h) : wA cc κ pc ls (.int y :: .int x :: st) h := fun O mls H locs cells slots hL hW => lv_icmp_gt O.1 O.2.1 hd ht (fun q => kt q O mls H locs cells slots hL hW) (fun q => kf q O mls H locs cells slots hL hW)
theorem r_ic_le {x y : Int32} {off : Int} {tgt : Nat} (hd : decode cc pc = .ok (.if_icmp .le off, 3)) (ht : (pc : Int) + off = (tgt : Int)) (kt : x ≤ y → wA cc κ tgt ls st h) (kf : ¬ x ≤ y → wA cc κ (pc + 3) ls st h) : wA cc κ pc ls (.int y :: .int x :: st) h := fun O mls H locs cells slots hL hW => lv_icmp_le O.1 O.2.1 hd ht (fun q => kt q O mls H locs cells slots hL hW) (fun q => kf q O mls H locs cells slots hL hW)
/-- a field by its link: of the class ci, its place k, its type, is it final -/
def FldOK (own : String) (index ci k : Nat) (ty : FieldType) (fin : Bool) : Prop :=
  ∃ (C : String) (T : u_T) (N : Nat) (ty0 : Nat → FieldType), ci < 20 ∧ classes[ci]? = some (C, T, N) ∧ k < N ∧ (∀ w ∈ u_ws C T N, w ∈ BIG) ∧ (∀ k, k < N → parseFieldDescriptor (T k).2.2.1 = some (ty0 k)) ∧ (∀ a, a < N → ∀ b, b < N → a ≠ b → (T a).2.1 ≠ (T b).2.1) ∧
    Cond.fieldLink own index (T k).1 (T k).2.1 (T k).2.2.1 ∈ BIG ∧ parseFieldDescriptor (T k).2.2.1 = some ty ∧ (T k).2.2.2 = fin ∧ (fin = true → (T k).1 = own)
theorem kW_size {H : Heap} {locs : List Loc} {cells slots pc : Nat} {mls : Array Slot} {st : List Value} (k : H.size ≤ (k_s κ).heap.size + cells → kW κ H locs cells slots pc mls st) : kW κ H locs cells slots pc mls st :=
  fun T hT X => k (by rw [← hT]; exact X.heapSize) T hT X
theorem va_S.start {A : Nat → Prop} {H0 H : Heap} {locs : List Loc} (h : va_S A H0 H locs) : va_S A H H locs := ⟨Nat.le_refl _, fun _ _ _ => rfl, h.2.2⟩
theorem va_S.go {A : Nat → Prop} {H0 H H1 : Heap} {locs locs1 : List Loc} (h : va_S A H0 H locs) (h1 : va_S A H H1 locs1) : va_S A H0 H1 locs1 :=
  ⟨Nat.le_trans h.1 h1.1, fun q a b => by rw [h1.2.1 q (Nat.lt_of_lt_of_le a h.1) b]; exact h.2.1 q a b, h1.2.2⟩
theorem hs_get0 {h : HV} {r k : Nat} {v : Value} (hr : r ≠ 0) : (hs h r k v)[0]? = h[0]? := by
  unfold hs; split
  · rw [List.getElem?_set_ne hr]
  · rfl
/-- behind a write to one cell -/
theorem Wd_hs {H H1 : Heap} {locs locs1 : List Loc} {cells slots r k ci : Nat} {vs : List Value} {v : Value} (hW : Wd κ H locs cells slots h) (hr : h[r + 2]? = some (ci, vs)) (hP : va_P (g_D (k_G κ)) classes ((wsOf (k_G κ) h).set r (g_base (k_G κ) + r, cE (k_G κ) (ci, vs.set k v))) H1)
    (hS : va_S (g_A (k_G κ)) H H1 locs1) (hz : H1.size ≤ (k_s κ).heap.size + cells) : Wd κ H1 locs1 cells slots (hs h (r + 2) k v) := by
  obtain ⟨⟨w1, w2, w3, w4⟩, w5, w6, w7, w8, w9, w10⟩ := hW
  have e : H1.size = H.size := Nat.le_antisymm (by rw [w6]; exact hz) hS.1
  refine ⟨⟨by rw [hs_len, e]; exact w1, by rw [hs_len]; exact w2, by rw [hs_get0 (by omega)]; exact w3, ?_⟩, w5.go hS, by rw [e]; exact w6, by rw [hs_len]; exact w7, by rw [hs_sz]; exact w8, w9, w10⟩
  rw [hs_eq hr, ← wsOf_set]
  exact hP
theorem two_of {H : Heap} {locs : List Loc} {cells slots r ci : Nat} (hW : Wd κ H locs cells slots h) (hr : hk h r = some ci) (hc : ci < 20) (h1 : r ≠ 1) : ∃ q, r = q + 2 := by
  rcases r with _ | _ | q
  · obtain ⟨vs, e⟩ := hk_cell hr
    have e2 := hW.1.2.2.1
    rw [e] at e2
    cases e2
    omega
  · exact absurd rfl h1
  · exact ⟨q, rfl⟩
theorem r_get {own : String} {index ci k : Nat} {ty : FieldType} {fin : Bool} {r : Nat} {v : Value} (hF : FldOK own index ci k ty fin) (ho : k_own κ = own) (h1 : r ≠ 1) (hr : hk h r = some ci) (hv : hg h r k = some v) (hd : decode cc pc = .ok (.getfield index, 3)) (kk : wA cc κ (pc + 3) ls (v :: st) h) : wA cc κ pc ls (.ref r :: st) h := by
  intro O mls H locs cells slots hL hW
  obtain ⟨C, T, N, ty0, f1, f2, f3, f4, f5, f6, f7, f8, f9, f10⟩ := hF
  obtain ⟨q, rfl⟩ := two_of hW hr f1 h1
  obtain ⟨vs, e⟩ := hk_cell hr
  rw [hg_eq e] at hv
  have hw := wsOf_get (k_G κ) e
  rw [cE_O _ f1] at hw
  show kW κ H locs cells slots pc mls (.ref (g_mu (k_G κ) (q + 2)) :: st.map (cv (k_G κ)))
  rw [g_mu2]
  exact va_get O.1 O.2.1 O.2.2.2.2.1 f4 (by rw [← ho]; exact O.2.2.2.1) O.2.2.2.2.2.1.1 hW.1.2.2.2 q hw f2 k f3 (O.2.2.2.2.1 _ f7) (fun _ h9 => h9) (v := cv (k_G κ) v) (by rw [List.getElem?_map, hv]; rfl) hd (kk O mls H locs cells slots hL hW)
theorem r_put {own : String} {index ci k : Nat} {ty : FieldType} {r : Nat} {v w : Value} (hF : FldOK own index ci k ty false) (ho : k_own κ = own) (h1 : r ≠ 1) (hr : hk h r = some ci) (hv : hg h r k = some w) (hn : narrow ty (cv (k_G κ) v) = cv (k_G κ) v) (hf : fits ty (cv (k_G κ) v) = true) (hd : decode cc pc = .ok (.putfield index, 3)) (kk : wA cc κ (pc + 3) ls st (hs h r k v)) : wA cc κ pc ls (v :: .ref r :: st) h := by
  intro O mls H locs cells slots hL hW
  obtain ⟨C, T, N, ty0, f1, f2, f3, f4, f5, f6, f7, f8, f9, f10⟩ := hF
  obtain ⟨q, rfl⟩ := two_of hW hr f1 h1
  obtain ⟨vs, e⟩ := hk_cell hr
  rw [hg_eq e] at hv
  have hw := wsOf_get (k_G κ) e
  rw [cE_O _ f1] at hw
  show kW κ H locs cells slots pc mls (cv (k_G κ) v :: .ref (g_mu (k_G κ) (q + 2)) :: st.map (cv (k_G κ)))
  rw [g_mu2]
  refine va_put (v := cv (k_G κ) v) O.1 O.2.1 O.2.2.2.2.1 f4 ty0 f5 f6 (by rw [← ho]; exact O.2.2.2.1) O.2.2.2.2.2.1.1 hW.1.2.2.2 (wsOf_D _ h) hW.2.1.start q hw f2 k f3 (O.2.2.2.2.1 _ f7) (fun _ h9 => h9) f9 f8 hn hf (by rw [List.length_map]; exact (List.getElem?_eq_some_iff.mp hv).1) hd (fun H1 locs1 hP hD hS => ?_)
  refine kW_size fun hz => kk O mls H1 locs1 cells slots hL (Wd_hs hW e ?_ hS hz)
  rw [cE_O _ f1, List.map_set]
  exact hP
theorem r_putF {own : String} {index ci k : Nat} {ty : FieldType} {r : Nat} {v w : Value} (hF : FldOK own index ci k ty true) (ho : k_own κ = own) (h1 : r ≠ 1) (hi : KO cc κ → (k_me κ).name = "<init>") (hr : hk h r = some ci) (hv : hg h r k = some w) (hn : narrow ty (cv (k_G κ) v) = cv (k_G κ) v) (hf : fits ty (cv (k_G κ) v) = true) (hd : decode cc pc = .ok (.putfield index, 3)) (kk : wA cc κ (pc + 3) ls st (hs h r k v)) : wA cc κ pc ls (v :: .ref r :: st) h := by
  intro O mls H locs cells slots hL hW
  obtain ⟨C, T, N, ty0, f1, f2, f3, f4, f5, f6, f7, f8, f9, f10⟩ := hF
  obtain ⟨q, rfl⟩ := two_of hW hr f1 h1
  obtain ⟨vs, e⟩ := hk_cell hr
  rw [hg_eq e] at hv
  have hw := wsOf_get (k_G κ) e
  rw [cE_O _ f1] at hw
  have hi2 := hi O
  show kW κ H locs cells slots pc mls (cv (k_G κ) v :: .ref (g_mu (k_G κ) (q + 2)) :: st.map (cv (k_G κ)))
  rw [g_mu2]
  refine va_putF (v := cv (k_G κ) v) O.1 O.2.1 O.2.2.2.2.1 f4 ty0 f5 f6 (by rw [← ho]; exact O.2.2.2.1) O.2.2.2.2.2.1.1 hW.1.2.2.2 (wsOf_D _ h) hW.2.1.start q hw f2 k f3 (O.2.2.2.2.1 _ f7) (fun _ h9 => h9) f9 hi2 (f10 rfl) f8 hn hf (by rw [List.length_map]; exact (List.getElem?_eq_some_iff.mp hv).1) hd (fun H1 locs1 hP hD hS => ?_)
  refine kW_size fun hz => kk O mls H1 locs1 cells slots hL (Wd_hs hW e ?_ hS hz)
  rw [cE_O _ f1, List.map_set]
  exact hP
/-- the one field that is read by a nest mate -/
theorem r_getN {own C : String} {T : u_T} {N index ci k : Nat} {host : String} {r : Nat} {v : Value} (f1 : ci < 20) (f2 : classes[ci]? = some (C, T, N)) (f3 : k < N) (f4 : ∀ w ∈ u_ws C T N, w ∈ BIG) (f7 : Cond.fieldLinkNest own index (T k).1 (T k).2.1 (T k).2.2.1 host ∈ BIG) (ho : k_own κ = own) (h1 : r ≠ 1) (hr : hk h r = some ci) (hv : hg h r k = some v) (hd : decode cc pc = .ok (.getfield index, 3)) (kk : wA cc κ (pc + 3) ls (v :: st) h) : wA cc κ pc ls (.ref r :: st) h := by
  intro O mls H locs cells slots hL hW
  obtain ⟨q, rfl⟩ := two_of hW hr f1 h1
  obtain ⟨vs, e⟩ := hk_cell hr
  rw [hg_eq e] at hv
  have hw := wsOf_get (k_G κ) e
  rw [cE_O _ f1] at hw
  show kW κ H locs cells slots pc mls (.ref (g_mu (k_G κ) (q + 2)) :: st.map (cv (k_G κ)))
  rw [g_mu2]
  exact va_getN O.1 O.2.1 O.2.2.2.2.1 f4 (by rw [← ho]; exact O.2.2.2.1) O.2.2.2.2.2.1.1 hW.1.2.2.2 q hw f2 k f3 (O.2.2.2.2.1 _ f7) (fun _ h9 => h9) (v := cv (k_G κ) v) (by rw [List.getElem?_map, hv]; rfl) hd (kk O mls H locs cells slots hL hW)
theorem in_of {vs : List Value} {j : Int32} {x : Value} (h0 : 0 ≤ j) (hv : vs[j.toNatClampNeg]? = some x) : vp_in j vs.length := by
  rintro (q | q)
  · exact absurd q (Int32.not_lt.mpr h0)
  · have := (List.getElem?_eq_some_iff.mp hv).1
    omega
theorem r_iald {r : Nat} {j x : Int32} (h1 : r ≠ 1) (hr : hk h r = some 20) (h0 : 0 ≤ j) (hv : hg h r j.toNatClampNeg = some (.int x)) (hd : decode cc pc = .ok (.iaload, 1)) (kk : wA cc κ (pc + 1) ls (.int x :: st) h) : wA cc κ pc ls (.int j :: .ref r :: st) h := by
  intro O mls H locs cells slots hL hW
  obtain ⟨vs, e⟩ := hk_cell hr
  rw [hg_eq e] at hv
  rcases r with _ | _ | q
  · have e2 := hW.1.2.2.1
    rw [e] at e2
    cases e2
    refine va_ti O.1 O.2.1 O.2.2.2.2.2.1.2.2.1 hW.2.1 (i := j) (in_of h0 hv) (v := .int x) ?_ hd (kk O mls H locs cells slots hL hW)
    unfold facV at hv
    rw [List.getElem?_map] at hv
    obtain ⟨y, a, b⟩ := Option.map_eq_some_iff.mp hv
    unfold facF
    rw [List.getD_eq_getElem?_getD, a]
    exact b
  · exact absurd rfl h1
  · have hw := wsOf_get (k_G κ) e
    rw [cE_I] at hw
    show kW κ H locs cells slots pc mls (.int j :: .ref (g_mu (k_G κ) (q + 2)) :: st.map (cv (k_G κ)))
    rw [g_mu2]
    refine va_iald O.1 O.2.1 O.2.2.2.2.2.1.1 hW.1.2.2.2 q 0 hw rfl (in_of h0 hv) hd ?_
    rw [List.getD_eq_getElem?_getD, hv]
    exact kk O mls H locs cells slots hL hW
theorem upd_toI {vs : List Value} {k : Nat} {x : Int32} (hk : k < vs.length) : (fun j => c_toI ((vs.set k (.int x)).getD j .null)) = upd (fun j => c_toI (vs.getD j .null)) k x := by
  funext j
  show c_toI ((vs.set k (.int x)).getD j .null) = if j = k then x else c_toI (vs.getD j .null)
  rw [List.getD_eq_getElem?_getD, List.getD_eq_getElem?_getD, List.getElem?_set]
  by_cases e : j = k
  · subst e
    simp [hk, c_toI]
  · simp [e, Ne.symm e]
theorem r_iast {r : Nat} {j x : Int32} {w : Value} (h1 : 2 ≤ r) (hr : hk h r = some 20) (h0 : 0 ≤ j) (hv : hg h r j.toNatClampNeg = some w) (hd : decode cc pc = .ok (.iastore, 1)) (kk : wA cc κ (pc + 1) ls st (hs h r j.toNatClampNeg (.int x))) : wA cc κ pc ls (.int x :: .int j :: .ref r :: st) h := by
  intro O mls H locs cells slots hL hW
  obtain ⟨vs, e⟩ := hk_cell hr
  rw [hg_eq e] at hv
  obtain ⟨q, rfl⟩ : ∃ q, r = q + 2 := ⟨r - 2, by omega⟩
  have hw := wsOf_get (k_G κ) e
  rw [cE_I] at hw
  show kW κ H locs cells slots pc mls (.int x :: .int j :: .ref (g_mu (k_G κ) (q + 2)) :: st.map (cv (k_G κ)))
  rw [g_mu2]
  refine va_iast O.1 O.2.1 O.2.2.2.2.2.1.1 hW.1.2.2.2 (wsOf_D _ h) hW.2.1.start q 0 hw rfl (in_of h0 hv) hd (fun H1 locs1 hP hD hS => ?_)
  refine kW_size fun hz => kk O mls H1 locs1 cells slots hL (Wd_hs hW e ?_ hS hz)
  rw [cE_I, List.length_set, upd_toI (List.getElem?_eq_some_iff.mp hv).1]
  exact hP
theorem r_zald {r : Nat} {j x : Int32} (h1 : 2 ≤ r) (hr : hk h r = some 21) (h0 : 0 ≤ j) (hv : hg h r j.toNatClampNeg = some (.int x)) (hd : decode cc pc = .ok (.baload, 1)) (kk : wA cc κ (pc + 1) ls (.int x :: st) h) : wA cc κ pc ls (.int j :: .ref r :: st) h := by
  intro O mls H locs cells slots hL hW
  obtain ⟨vs, e⟩ := hk_cell hr
  rw [hg_eq e] at hv
  obtain ⟨q, rfl⟩ : ∃ q, r = q + 2 := ⟨r - 2, by omega⟩
  have hw := wsOf_get (k_G κ) e
  rw [cE_Z] at hw
  show kW κ H locs cells slots pc mls (.int j :: .ref (g_mu (k_G κ) (q + 2)) :: st.map (cv (k_G κ)))
  rw [g_mu2]
  refine va_zald O.1 O.2.1 O.2.2.2.2.2.1.1 hW.1.2.2.2 q 1 hw rfl (in_of h0 hv) hd ?_
  rw [List.getD_eq_getElem?_getD, hv]
  exact kk O mls H locs cells slots hL hW
theorem r_zast {r : Nat} {j x : Int32} {w : Value} (h1 : 2 ≤ r) (hr : hk h r = some 21) (h0 : 0 ≤ j) (hx : x = 0 ∨ x = 1) (hv : hg h r j.toNatClampNeg = some w) (hd : decode cc pc = .ok (.bastore, 1)) (kk : wA cc κ (pc + 1) ls st (hs h r j.toNatClampNeg (.int x))) : wA cc κ pc ls (.int x :: .int j :: .ref r :: st) h := by
  intro O mls H locs cells slots hL hW
  obtain ⟨vs, e⟩ := hk_cell hr
  rw [hg_eq e] at hv
  obtain ⟨q, rfl⟩ : ∃ q, r = q + 2 := ⟨r - 2, by omega⟩
  have hw := wsOf_get (k_G κ) e
  rw [cE_Z] at hw
  show kW κ H locs cells slots pc mls (.int x :: .int j :: .ref (g_mu (k_G κ) (q + 2)) :: st.map (cv (k_G κ)))
  rw [g_mu2]
  refine va_zast O.1 O.2.1 O.2.2.2.2.2.1.1 hW.1.2.2.2 (wsOf_D _ h) hW.2.1.start q 1 hw rfl (in_of h0 hv) hd (fun H1 locs1 hP hD hS => ?_)
  refine kW_size fun hz => kk O mls H1 locs1 cells slots hL (Wd_hs hW e ?_ hS hz)
  rw [cE_Z, List.length_set, upd_toI (List.getElem?_eq_some_iff.mp hv).1]
  have en : vp_nar .boolean x = x := by rcases hx with rfl | rfl <;> rfl
  rw [en] at hP
  exact hP
theorem r_aald {r y : Nat} {j : Int32} (h1 : 2 ≤ r) (hr : hk h r = some 22) (h0 : 0 ≤ j) (hv : hg h r j.toNatClampNeg = some (.ref y)) (hd : decode cc pc = .ok (.aaload, 1)) (kk : wA cc κ (pc + 1) ls (.ref y :: st) h) : wA cc κ pc ls (.int j :: .ref r :: st) h := by
  intro O mls H locs cells slots hL hW
  obtain ⟨vs, e⟩ := hk_cell hr
  rw [hg_eq e] at hv
  obtain ⟨q, rfl⟩ : ∃ q, r = q + 2 := ⟨r - 2, by omega⟩
  have hw := wsOf_get (k_G κ) e
  rw [cE_R] at hw
  show kW κ H locs cells slots pc mls (.int j :: .ref (g_mu (k_G κ) (q + 2)) :: st.map (cv (k_G κ)))
  rw [g_mu2]
  have hin := in_of h0 hv
  have hlt := (List.getElem?_eq_some_iff.mp hv).1
  refine W.aald (v := .ref (g_mu (k_G κ) y)) (ty := .array .int) O.1 O.2.1 (hW.1.2.2.2 q _ hw) ((O.2.2.2.2.2.1.1.2 2 _ rfl).1 vs.length (fun j => va_rf (c_toR (k_G κ) (vs.getD j .null)))) rfl (fun z => by cases z) (by show ¬ (j < 0 ∨ (arrV _ _ _).slots.size ≤ _); rw [arrV_size]; exact hin) (by show (arrV _ _ _).slots[_]? = _; rw [arrV_read _ _ hlt]; show some (va_rf (c_toR (k_G κ) (vs.getD j.toNatClampNeg .null))) = _; rw [List.getD_eq_getElem?_getD, hv]; rfl) rfl rfl hd (kk O mls H locs cells slots hL hW)
theorem r_alen {r n : Nat} (h1 : r ≠ 1) (hr : hk h r = some 20) (hv : hn h r = some n) (hd : decode cc pc = .ok (.arraylength, 1)) (kk : wA cc κ (pc + 1) ls (.int (Int32.ofNat n) :: st) h) : wA cc κ pc ls (.ref r :: st) h := by
  intro O mls H locs cells slots hL hW
  obtain ⟨vs, e⟩ := hk_cell hr
  have hv2 : vs.length = n := by
    unfold hn at hv
    rw [e] at hv
    exact Option.some.inj hv
  clear hv
  rcases r with _ | _ | q
  · have e2 := hW.1.2.2.1
    rw [e] at e2
    cases e2
    exact va_tlen O.1 O.2.1 O.2.2.2.2.2.1.2.2.1 hW.2.1 (by rw [← hv2]; rfl) hd (kk O mls H locs cells slots hL hW)
  · exact absurd rfl h1
  · have hw := wsOf_get (k_G κ) e
    rw [cE_I] at hw
    show kW κ H locs cells slots pc mls (.ref (g_mu (k_G κ) (q + 2)) :: st.map (cv (k_G κ)))
    rw [g_mu2]
    exact va_alen O.1 O.2.1 O.2.2.2.2.2.1.1 hW.1.2.2.2 q 0 hw rfl (by rw [← hv2]) hd (kk O mls H locs cells slots hL hW)
theorem r_gets {own : String} {index : Nat} (hw : Cond.fieldLink own index "PackLanes" "FACTORIALS" "[I" ∈ BIG) (ho : k_own κ = own) (hd : decode cc pc = .ok (.getstatic index, 3)) (kk : wA cc κ (pc + 3) ls (.ref 0 :: st) h) : wA cc κ pc ls st h := by
  intro O mls H locs cells slots hL hW
  exact va_gets O.1 O.2.1 O.2.2.2.2.2.1.2.1 hW.2.1 (by rw [← ho]; exact O.2.2.2.1) (O.2.2.2.2.1 _ hw) (fun _ h9 => h9) hd (kk O mls H locs cells slots hL hW)
end RU
end
section
theorem aO_moved {u U : State} (hvm : u.vm.Alike U.vm) (h : (Cond.arrayOver (.array .int)).before #[] u = true) : (Cond.arrayOver (.array .int)).before #[] U = true := by
  have h2 : (Cond.arrayOver (.array .int)).holds #[] u none u [] = true := h
  simp only [Cond.holds, Cond.value, beq_iff_eq] at h2
  rw [Option.bind_eq_some_iff] at h2
  obtain ⟨comp, f1, h2⟩ := h2
  rw [Option.bind_eq_some_iff] at h2
  obtain ⟨c, f2, h2⟩ := h2
  rw [Option.map_eq_some_iff] at h2
  obtain ⟨k, f3, h2⟩ := h2
  obtain ⟨k', hk', he⟩ := hvm.2.2 _ _ f3
  have ga := va_idx_bare U.vm comp
  have gb := va_idx_bare u.vm comp
  first | rw [hvm.bare_eq] at gb | rw [← hvm.bare_eq] at gb
  have hi := (ga.symm.trans gb).trans f2
  show (Cond.arrayOver (.array .int)).holds #[] U none U [] = true
  simp only [Cond.holds, Cond.value, beq_iff_eq]
  rw [Option.bind_eq_some_iff]
  refine ⟨comp, by rw [hvm.findClass]; exact f1, ?_⟩
  rw [Option.bind_eq_some_iff]
  refine ⟨c, hi, ?_⟩
  rw [Option.map_eq_some_iff]
  refine ⟨k', hk', ?_⟩
  have hkd : k'.kind = k.kind := by rw [he]
  rw [hkd, hvm.findClass]
  exact h2
section CU
variable {cc : ByteArray} {κ : KT} {pc : Nat} {ls st : LV} {h : HV}
def stw (st : LV) : Nat := (st.map fun v => v.category).sum
theorem stw_cv (G : GT) (st : LV) : ((st.map (cv G)).map fun v => v.category).sum = stw st := by
  unfold stw
  rw [List.map_map]
  congr 1
  exact List.map_congr_left fun v _ => cv_cat G v
theorem Ta_moved {G : GT} {u U : State} {H : Heap} (hvm : u.vm.Alike U.vm) (h : Ta G u H) : Ta G U H := ⟨h.1.moved hvm, h.2.1.moved hvm, h.2.2.1.moved hvm, aO_moved hvm h.2.2.2.1, h.2.2.2.2⟩
theorem Ta_kept {G : GT} {U : State} {H0 H : Heap} {locs : List Loc} (h : Ta G U H0) (hS : va_S (g_A G) H0 H locs) : Ta G U H := ⟨h.1, h.2.1.kept hS.2.1, h.2.2.1.kept hS.2.1, h.2.2.2.1, Nat.le_trans h.2.2.2.2 hS.1⟩
/-- a method's contract, by its abstract meaning X -/
abbrev PM : Type := List Value → HV → (Option Value → HV → Prop) → Prop
def mQ (G : GT) (h : HV) (rm : Room) (Qp : Option Value → HV → Prop) : Array Value → State → Outcome → State → Prop := fun _ st o t =>
  (∃ (r : Option Value) (h' : HV), o = .returned (r.map (cv G)) ∧ Qp r h' ∧ Wo G h' t.heap ∧ h'.length = h.length + rm.cells ∧ hsz h' = hsz h + rm.slots) ∧ va_F (g_A G) st t
abbrev mP (G : GT) (vs : List Value) (h : HV) : Array Value → State → Prop := va_Pc (vs.map (cv G)) (fun U => Wo G h U.heap ∧ Ta G U U.heap)
def Ctr (l : Launch) (y : MethodName) (bytes : ByteArray) (maxL : Nat) (ret : Option FieldType) (rm : Room) (X : PM) : Prop :=
  ∀ (G : GT) (vs : List Value) (h : HV) (Qp : Option Value → HV → Prop), X vs h Qp → Met l y (Cond.code y bytes maxL ret :: BIG) rm (mP G vs h) (mQ G h rm Qp) rm.cells rm.slots (g_A G)
theorem mP_blind (G : GT) (vs : List Value) (h : HV) : FrameBlind (mP G vs h) := fun a U g mk q => ⟨q.1, q.2.1, Ta_moved (u := U) (U := U.calling g mk a) (Vm.Alike.refl U.vm) q.2.2⟩
theorem big_code {y : MethodName} {bytes : ByteArray} {maxL : Nat} {ret : Option FieldType} (hc : Cond.code y bytes maxL ret ∈ BIG) : GoodIn BIG (Cond.code y bytes maxL ret :: BIG) := fun w hw => by
  rcases List.mem_cons.mp hw with rfl | h1
  · exact big_good _ hc
  · exact big_good _ h1
/-- behind a call -/
theorem r_back {y : MethodName} {rm : Room} {vs rest : LV} {mls : Array Slot} {H : Heap} {locs : List Loc} {cells slots : Nat} {K : Option Value → HV → Prop} {st0 : List Value} {av : List Value} (hL : Lh (k_G κ) (k_nL κ) mls ls) (hW : Wd κ H locs cells slots h) (hc : cells + rm.cells ≤ (k_R κ).cells) (hs : slots + rm.slots ≤ (k_R κ).slots)
    (hr : va_Run (k_p κ) (k_l κ) (k_e κ) (k_R κ) (k_s κ) (k_m κ) (k_a κ) (k_b κ) (k_me κ) (k_c κ) H locs cells slots rm.cells rm.slots (F0 (k_m κ) pc mls st0) (rest.map (cv (k_G κ))) (mQ (k_G κ) h rm K av.toArray) (g_A (k_G κ)))
    (kk : ∀ o h', K o h' → wA cc κ (pc + 3) ls (o.toList ++ rest) h') (O : KO cc κ) : kW κ H locs cells slots pc mls st0 := by
  intro T hT X
  obtain ⟨v, st₀, t, T', L, h0, X', hL2, e1, e2, ⟨⟨r, h', hv, hK, hWo, hn1, hn2⟩, hz, hk⟩, stp⟩ := hr T hT X
  cases hv
  rw [h0] at hz hk
  obtain ⟨w1, w2, w3, w4, w5, w6, w7⟩ := hW
  rw [← e1] at hWo
  have hsz : T'.heap.size = (k_s κ).heap.size + (cells + rm.cells) := by
    have a := hWo.1
    have b := w1.1
    have c := w1.2.1
    omega
  have hS : va_S (g_A (k_G κ)) (k_s κ).heap T'.heap (locs ++ L) := ⟨by rw [hsz]; exact Nat.le_add_right _ _, fun q a b => by rw [e1, hk q (by rw [w3]; omega) b]; exact w2.2.1 q a b, fun q hq => by
    rcases List.mem_append.mp hq with a | a
    · exact w2.2.2 q a
    · exact hL2 q a⟩
  obtain ⟨t2, a1, b1⟩ := kk r h' hK O mls T'.heap (locs ++ L) (cells + rm.cells) (slots + rm.slots) hL ⟨hWo, hS, hsz, by omega, by omega, hc, hs⟩ T' rfl X'
  refine ⟨t2, stp t2 ?_, b1⟩
  have e3 : (List.map (cv (k_G κ)) (r.toList ++ rest)) = (Option.map (cv (k_G κ)) r).toList ++ List.map (cv (k_G κ)) rest := by
    rw [List.map_append]
    cases r <;> rfl
  rw [← e3]
  exact a1
def CallV (own : String) (index : Nat) (y : MethodName) (bytes : ByteArray) (maxL : Nat) (ret : Option FieldType) (n : Nat) : Prop :=
  Cond.methodLink own index y ∈ BIG ∧ Cond.instanceMethod y ∈ BIG ∧ Cond.selects y.cls y y ∈ BIG ∧ Cond.initialized y.cls ∈ BIG ∧ Cond.code y bytes maxL ret ∈ BIG ∧ (y.cls = y.cls ∧ y.cls ≠ "java/lang/invoke/MethodHandle" ∧ y.cls ≠ "java/lang/invoke/VarHandle" ∧ (parseMethodDescriptor y.desc).map (fun d => d.parameters.length) = some n)
def CallS (own : String) (index : Nat) (y : MethodName) (bytes : ByteArray) (maxL : Nat) (ret : Option FieldType) (n : Nat) : Prop :=
  Cond.methodLink own index y ∈ BIG ∧ Cond.static y ∈ BIG ∧ Cond.initialized y.cls ∈ BIG ∧ Cond.code y bytes maxL ret ∈ BIG ∧ (y.cls ≠ "java/lang/invoke/MethodHandle" ∧ y.cls ≠ "java/lang/invoke/VarHandle" ∧ (parseMethodDescriptor y.desc).map (fun d => d.parameters.length) = some n)
def CallSN (own : String) (index : Nat) (y : MethodName) (host : String) (bytes : ByteArray) (maxL : Nat) (ret : Option FieldType) (n : Nat) : Prop :=
  Cond.methodLinkNest own index y host ∈ BIG ∧ Cond.static y ∈ BIG ∧ Cond.initialized y.cls ∈ BIG ∧ Cond.code y bytes maxL ret ∈ BIG ∧ (y.cls ≠ "java/lang/invoke/MethodHandle" ∧ y.cls ≠ "java/lang/invoke/VarHandle" ∧ (parseMethodDescriptor y.desc).map (fun d => d.parameters.length) = some n)
theorem Pc_of {vs : LV} {mls : Array Slot} {H : Heap} {locs : List Loc} {cells slots : Nat} (O : KO cc κ) (hW : Wd κ H locs cells slots h) {av : List Value} (ha : av = vs.map (cv (k_G κ))) : ∀ U : State, U.heap = H → (k_s κ).WarmedH U.vm → mP (k_G κ) vs h av.toArray U := fun U hU hWm => by
  refine ⟨by rw [ha], by rw [hU]; exact hW.1, ?_⟩
  rw [hU]
  exact Ta_moved hWm.alike (Ta_kept O.2.2.2.2.2.1 hW.2.1)
theorem r_callV {own : String} {index : Nat} {y : MethodName} {bytes : ByteArray} {maxL : Nat} {ret : Option FieldType} {n ci r : Nat} {t : LV} {rm : Room} {X : PM} {K : Option Value → HV → Prop} {T : u_T} {N : Nat}
    (hc : CallV own index y bytes maxL ret n) (hC : Ctr (k_l κ) y bytes maxL ret rm X) (hm : rm.cells = 0 ∧ rm.slots = 0) (ho : k_own κ = own) (hR : rm.frames + 1 ≤ (k_R κ).frames ∧ 8 + (maxL + 11) + rm.locals ≤ (k_R κ).locals) (hst : stw st ≤ 8)
    (hcl : classes[ci]? = some (y.cls, T, N)) (hci : ci < 20) (h1 : r ≠ 1) (hr : hk h r = some ci) (hn : t.length = n) (hX : X (.ref r :: t) h K) (hd : decode cc pc = .ok (.invokevirtual index, 3)) (kk : ∀ o h', K o h' → wA cc κ (pc + 3) ls (o.toList ++ st) h') : wA cc κ pc ls (t.reverse ++ .ref r :: st) h := by
  subst ho
  intro O mls H locs cells slots hL hW
  obtain ⟨c1, c2, c3, c4, c5, c6⟩ := hc
  obtain ⟨q, rfl⟩ := two_of hW hr hci h1
  obtain ⟨fs, e⟩ := hk_cell hr
  have hw := wsOf_get (k_G κ) e
  rw [cE_O _ hci] at hw
  have hrc := va_recv O.2.2.2.2.2.1.1 hW.1.2.2.2 hcl hw
  refine r_back (cc := cc) (y := y) (vs := .ref (q + 2) :: t) (rest := st) (av := .ref (g_base (k_G κ) + q) :: t.map (cv (k_G κ))) (K := K) (rm := rm) hL hW (by rw [hm.1]; exact hW.2.2.2.2.2.1) (by rw [hm.2]; exact hW.2.2.2.2.2.2) ?_ kk O
  refine va_runV (As := t.map (cv (k_G κ))) (C := y.cls) (n := n) ⟨O.1, O.2.1, O.2.2.1, O.2.2.2.1, O.2.2.2.2.1⟩ (hC (k_G κ) (.ref (q + 2) :: t) h K hX) (cwV n O.2.2.2.2.1 ?_ rfl rfl rfl c6 hR) ⟨mP_blind _ _ _, hrc, Pc_of (mls := mls) O hW (by simp [cv, g_mu2])⟩ rfl (by rw [List.length_map]; exact hn) (Lh_size hL) ?_ ?_ hd ⟨by rw [hm.1]; exact hW.2.2.2.2.2.1, by rw [hm.2]; exact hW.2.2.2.2.2.2⟩
  · intro w hw2
    unfold wsV at hw2
    rcases List.mem_append.mp hw2 with h9 | h9
    · simp only [List.mem_cons, List.not_mem_nil, or_false] at h9
      rcases h9 with rfl | rfl | rfl | rfl
      · exact big_good _ c1
      · exact big_good _ c2
      · exact big_good _ c3
      · exact big_good _ c4
    · exact big_code c5 w h9
  · show (t.reverse ++ .ref (q + 2) :: st).map (cv (k_G κ)) = _
    simp [cv, g_mu2]
  · show 2 * 0 + ((st.map (cv (k_G κ))).map fun v => v.category).sum ≤ 8
    rw [stw_cv]; omega
theorem r_callS {own : String} {index : Nat} {y : MethodName} {bytes : ByteArray} {maxL : Nat} {ret : Option FieldType} {n : Nat} {t : LV} {rm : Room} {X : PM} {K : Option Value → HV → Prop}
    (hc : CallS own index y bytes maxL ret n) (hC : Ctr (k_l κ) y bytes maxL ret rm X) (hm : rm.cells = 0 ∧ rm.slots = 0) (ho : k_own κ = own) (hR : rm.frames + 1 ≤ (k_R κ).frames ∧ 8 + (maxL + 11) + rm.locals ≤ (k_R κ).locals) (hst : stw st ≤ 8)
    (hn : t.length = n) (hX : X t h K) (hd : decode cc pc = .ok (.invokestatic index, 3)) (kk : ∀ o h', K o h' → wA cc κ (pc + 3) ls (o.toList ++ st) h') : wA cc κ pc ls (t.reverse ++ st) h := by
  subst ho
  intro O mls H locs cells slots hL hW
  obtain ⟨c1, c2, c4, c5, c6⟩ := hc
  refine r_back (cc := cc) (y := y) (vs := t) (rest := st) (av := t.map (cv (k_G κ))) (K := K) (rm := rm) hL hW (by rw [hm.1]; exact hW.2.2.2.2.2.1) (by rw [hm.2]; exact hW.2.2.2.2.2.2) ?_ kk O
  refine va_runS (As := t.map (cv (k_G κ))) (n := n) ⟨O.1, O.2.1, O.2.2.1, O.2.2.2.1, O.2.2.2.2.1⟩ (hC (k_G κ) t h K hX) (va_cwS n O.2.2.2.2.1 ?_ rfl rfl rfl c6 hR) ⟨mP_blind _ _ _, Pc_of (mls := mls) O hW rfl⟩ rfl (by rw [List.length_map]; exact hn) (Lh_size hL) ?_ ?_ hd ⟨by rw [hm.1]; exact hW.2.2.2.2.2.1, by rw [hm.2]; exact hW.2.2.2.2.2.2⟩
  · intro w hw2
    unfold va_wsS at hw2
    rcases List.mem_append.mp hw2 with h9 | h9
    · simp only [List.mem_cons, List.not_mem_nil, or_false] at h9
      rcases h9 with rfl | rfl | rfl
      · exact big_good _ c1
      · exact big_good _ c2
      · exact big_good _ c4
    · exact big_code c5 w h9
  · show (t.reverse ++ st).map (cv (k_G κ)) = _
    simp
  · show 2 * 0 + ((st.map (cv (k_G κ))).map fun v => v.category).sum ≤ 8
    rw [stw_cv]; omega
theorem r_callSN {own : String} {index : Nat} {y : MethodName} {host : String} {bytes : ByteArray} {maxL : Nat} {ret : Option FieldType} {n : Nat} {t : LV} {rm : Room} {X : PM} {K : Option Value → HV → Prop}
    (hc : CallSN own index y host bytes maxL ret n) (hC : Ctr (k_l κ) y bytes maxL ret rm X) (hm : rm.cells = 0 ∧ rm.slots = 0) (ho : k_own κ = own) (hR : rm.frames + 1 ≤ (k_R κ).frames ∧ 8 + (maxL + 11) + rm.locals ≤ (k_R κ).locals) (hst : stw st ≤ 8)
    (hn : t.length = n) (hX : X t h K) (hd : decode cc pc = .ok (.invokestatic index, 3)) (kk : ∀ o h', K o h' → wA cc κ (pc + 3) ls (o.toList ++ st) h') : wA cc κ pc ls (t.reverse ++ st) h := by
  subst ho
  intro O mls H locs cells slots hL hW
  obtain ⟨c1, c2, c4, c5, c6⟩ := hc
  refine r_back (cc := cc) (y := y) (vs := t) (rest := st) (av := t.map (cv (k_G κ))) (K := K) (rm := rm) hL hW (by rw [hm.1]; exact hW.2.2.2.2.2.1) (by rw [hm.2]; exact hW.2.2.2.2.2.2) ?_ kk O
  refine va_runSN (As := t.map (cv (k_G κ))) (n := n) (host := host) ⟨O.1, O.2.1, O.2.2.1, O.2.2.2.1, O.2.2.2.2.1⟩ (hC (k_G κ) t h K hX) ⟨va_cnB n O.2.2.2.2.1 (big_code c5) rfl rfl rfl (O.2.2.2.2.1 _ c1) (O.2.2.2.2.1 _ c4) c6 hR, O.2.2.2.2.1 _ c2, trivial⟩ ⟨mP_blind _ _ _, Pc_of (mls := mls) O hW rfl⟩ rfl (by rw [List.length_map]; exact hn) (Lh_size hL) ?_ ?_ hd ⟨by rw [hm.1]; exact hW.2.2.2.2.2.1, by rw [hm.2]; exact hW.2.2.2.2.2.2⟩
  · show (t.reverse ++ st).map (cv (k_G κ)) = _
    simp
  · show 2 * 0 + ((st.map (cv (k_G κ))).map fun v => v.category).sum ≤ 8
    rw [stw_cv]; omega
end CU
end
