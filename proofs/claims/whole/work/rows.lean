section
-- ===== PART A: goes FIRST, ahead of the names: the tables' words, and 'selects' of the private methods out of them =====
/-- a private method of a class that the tables say can be made, by its rows of tables_1 -/
def lw_okq (q : MethodName × Nat) : Prop := (q.1.cls ≠ "java/lang/invoke/MethodHandle" ∧ q.1.cls ≠ "java/lang/invoke/VarHandle") ∧ Cond.instantiable q.1.cls q.2 ∈ tables_1 ∧ Cond.privateMethod q.1 ∈ tables_1 ∧ Cond.instanceMethod q.1 ∈ tables_1
theorem lw_p0 : lw_okq (⟨"PackLanes", "restart", "(III)V"⟩, 14) := ⟨⟨by decide +kernel, by decide +kernel⟩, List.mem_of_getElem? (i := 16) (by decide +kernel), List.mem_of_getElem? (i := 293) (by decide +kernel), List.mem_of_getElem? (i := 294) (by decide +kernel)⟩
theorem lw_p1 : lw_okq (⟨"PackLanes$Links", "link", "(IIII)V"⟩, 5) := ⟨⟨by decide +kernel, by decide +kernel⟩, List.mem_of_getElem? (i := 146) (by decide +kernel), List.mem_of_getElem? (i := 320) (by decide +kernel), List.mem_of_getElem? (i := 321) (by decide +kernel)⟩
theorem lw_p2 : lw_okq (⟨"PackLanes$Links", "clashInMemory", "(IIII)Z"⟩, 5) := ⟨⟨by decide +kernel, by decide +kernel⟩, List.mem_of_getElem? (i := 146) (by decide +kernel), List.mem_of_getElem? (i := 328) (by decide +kernel), List.mem_of_getElem? (i := 329) (by decide +kernel)⟩
theorem lw_p3 : lw_okq (⟨"PackLanes$Links", "clashByStop", "(II)Z"⟩, 5) := ⟨⟨by decide +kernel, by decide +kernel⟩, List.mem_of_getElem? (i := 146) (by decide +kernel), List.mem_of_getElem? (i := 340) (by decide +kernel), List.mem_of_getElem? (i := 341) (by decide +kernel)⟩
theorem lw_p4 : lw_okq (⟨"PackLanes$Packer", "leastStore", "(II)I"⟩, 14) := ⟨⟨by decide +kernel, by decide +kernel⟩, List.mem_of_getElem? (i := 140) (by decide +kernel), List.mem_of_getElem? (i := 348) (by decide +kernel), List.mem_of_getElem? (i := 349) (by decide +kernel)⟩
theorem lw_p5 : lw_okq (⟨"PackLanes$Packer", "considerRoot", "(I)V"⟩, 14) := ⟨⟨by decide +kernel, by decide +kernel⟩, List.mem_of_getElem? (i := 140) (by decide +kernel), List.mem_of_getElem? (i := 372) (by decide +kernel), List.mem_of_getElem? (i := 373) (by decide +kernel)⟩
theorem lw_p6 : lw_okq (⟨"PackLanes$Tree", "addPack", "(I)V"⟩, 11) := ⟨⟨by decide +kernel, by decide +kernel⟩, List.mem_of_getElem? (i := 172) (by decide +kernel), List.mem_of_getElem? (i := 380) (by decide +kernel), List.mem_of_getElem? (i := 381) (by decide +kernel)⟩
theorem lw_p7 : lw_okq (⟨"PackLanes$Tree", "operands", "(II)I"⟩, 11) := ⟨⟨by decide +kernel, by decide +kernel⟩, List.mem_of_getElem? (i := 172) (by decide +kernel), List.mem_of_getElem? (i := 385) (by decide +kernel), List.mem_of_getElem? (i := 386) (by decide +kernel)⟩
theorem lw_p8 : lw_okq (⟨"PackLanes$Tree", "append", "(I)V"⟩, 11) := ⟨⟨by decide +kernel, by decide +kernel⟩, List.mem_of_getElem? (i := 172) (by decide +kernel), List.mem_of_getElem? (i := 392) (by decide +kernel), List.mem_of_getElem? (i := 393) (by decide +kernel)⟩
theorem lw_p9 : lw_okq (⟨"PackLanes$Tree", "handle", "(I)V"⟩, 11) := ⟨⟨by decide +kernel, by decide +kernel⟩, List.mem_of_getElem? (i := 172) (by decide +kernel), List.mem_of_getElem? (i := 396) (by decide +kernel), List.mem_of_getElem? (i := 397) (by decide +kernel)⟩
theorem lw_p10 : lw_okq (⟨"PackLanes$Tree", "turnedLanes", "(I)I"⟩, 11) := ⟨⟨by decide +kernel, by decide +kernel⟩, List.mem_of_getElem? (i := 172) (by decide +kernel), List.mem_of_getElem? (i := 401) (by decide +kernel), List.mem_of_getElem? (i := 402) (by decide +kernel)⟩
theorem lw_p11 : lw_okq (⟨"PackLanes$Tree", "hasPack", "(I)Z"⟩, 11) := ⟨⟨by decide +kernel, by decide +kernel⟩, List.mem_of_getElem? (i := 172) (by decide +kernel), List.mem_of_getElem? (i := 405) (by decide +kernel), List.mem_of_getElem? (i := 406) (by decide +kernel)⟩
theorem lw_p12 : lw_okq (⟨"PackLanes$Tree", "takeOneByOne", "(I)V"⟩, 11) := ⟨⟨by decide +kernel, by decide +kernel⟩, List.mem_of_getElem? (i := 172) (by decide +kernel), List.mem_of_getElem? (i := 409) (by decide +kernel), List.mem_of_getElem? (i := 410) (by decide +kernel)⟩
theorem lw_p13 : lw_okq (⟨"PackLanes$Tree", "isTakenOut", "(I)Z"⟩, 11) := ⟨⟨by decide +kernel, by decide +kernel⟩, List.mem_of_getElem? (i := 172) (by decide +kernel), List.mem_of_getElem? (i := 418) (by decide +kernel), List.mem_of_getElem? (i := 419) (by decide +kernel)⟩
theorem lw_p14 : lw_okq (⟨"PackLanes$Packer", "joinTree", "(Z)V"⟩, 14) := ⟨⟨by decide +kernel, by decide +kernel⟩, List.mem_of_getElem? (i := 140) (by decide +kernel), List.mem_of_getElem? (i := 422) (by decide +kernel), List.mem_of_getElem? (i := 423) (by decide +kernel)⟩
theorem lw_p15 : lw_okq (⟨"PackLanes$Packer", "putInOrder", "()Z"⟩, 14) := ⟨⟨by decide +kernel, by decide +kernel⟩, List.mem_of_getElem? (i := 140) (by decide +kernel), List.mem_of_getElem? (i := 428) (by decide +kernel), List.mem_of_getElem? (i := 429) (by decide +kernel)⟩
def lw_privs_1 : List (MethodName × Nat) := [(⟨"PackLanes", "restart", "(III)V"⟩, 14), (⟨"PackLanes$Links", "link", "(IIII)V"⟩, 5), (⟨"PackLanes$Links", "clashInMemory", "(IIII)Z"⟩, 5), (⟨"PackLanes$Links", "clashByStop", "(II)Z"⟩, 5), (⟨"PackLanes$Packer", "leastStore", "(II)I"⟩, 14), (⟨"PackLanes$Packer", "considerRoot", "(I)V"⟩, 14), (⟨"PackLanes$Tree", "addPack", "(I)V"⟩, 11), (⟨"PackLanes$Tree", "operands", "(II)I"⟩, 11), (⟨"PackLanes$Tree", "append", "(I)V"⟩, 11), (⟨"PackLanes$Tree", "handle", "(I)V"⟩, 11), (⟨"PackLanes$Tree", "turnedLanes", "(I)I"⟩, 11), (⟨"PackLanes$Tree", "hasPack", "(I)Z"⟩, 11), (⟨"PackLanes$Tree", "takeOneByOne", "(I)V"⟩, 11), (⟨"PackLanes$Tree", "isTakenOut", "(I)Z"⟩, 11), (⟨"PackLanes$Packer", "joinTree", "(Z)V"⟩, 14), (⟨"PackLanes$Packer", "putInOrder", "()Z"⟩, 14)]
theorem lw_r1 : ∀ q ∈ lw_privs_1, lw_okq q := List.forall_mem_cons.mpr ⟨lw_p0, List.forall_mem_cons.mpr ⟨lw_p1, List.forall_mem_cons.mpr ⟨lw_p2, List.forall_mem_cons.mpr ⟨lw_p3, List.forall_mem_cons.mpr ⟨lw_p4, List.forall_mem_cons.mpr ⟨lw_p5, List.forall_mem_cons.mpr ⟨lw_p6, List.forall_mem_cons.mpr ⟨lw_p7, List.forall_mem_cons.mpr ⟨lw_p8, List.forall_mem_cons.mpr ⟨lw_p9, List.forall_mem_cons.mpr ⟨lw_p10, List.forall_mem_cons.mpr ⟨lw_p11, List.forall_mem_cons.mpr ⟨lw_p12, List.forall_mem_cons.mpr ⟨lw_p13, List.forall_mem_cons.mpr ⟨lw_p14, List.forall_mem_cons.mpr ⟨lw_p15, fun _ h => absurd h List.not_mem_nil⟩⟩⟩⟩⟩⟩⟩⟩⟩⟩⟩⟩⟩⟩⟩⟩
theorem lw_p16 : lw_okq (⟨"PackLanes$Packer", "leastReady", "(I)I"⟩, 14) := ⟨⟨by decide +kernel, by decide +kernel⟩, List.mem_of_getElem? (i := 140) (by decide +kernel), List.mem_of_getElem? (i := 432) (by decide +kernel), List.mem_of_getElem? (i := 433) (by decide +kernel)⟩
theorem lw_p17 : lw_okq (⟨"PackLanes$Packer", "followedBy", "(I)I"⟩, 14) := ⟨⟨by decide +kernel, by decide +kernel⟩, List.mem_of_getElem? (i := 140) (by decide +kernel), List.mem_of_getElem? (i := 436) (by decide +kernel), List.mem_of_getElem? (i := 437) (by decide +kernel)⟩
theorem lw_p18 : lw_okq (⟨"PackLanes$Packer", "appendNode", "(II)V"⟩, 14) := ⟨⟨by decide +kernel, by decide +kernel⟩, List.mem_of_getElem? (i := 140) (by decide +kernel), List.mem_of_getElem? (i := 440) (by decide +kernel), List.mem_of_getElem? (i := 441) (by decide +kernel)⟩
theorem lw_p19 : lw_okq (⟨"PackLanes$Machine", "begin", "([I)V"⟩, 5) := ⟨⟨by decide +kernel, by decide +kernel⟩, List.mem_of_getElem? (i := 268) (by decide +kernel), List.mem_of_getElem? (i := 571) (by decide +kernel), List.mem_of_getElem? (i := 572) (by decide +kernel)⟩
theorem lw_p20 : lw_okq (⟨"PackLanes$Machine", "carryOut", "(I)V"⟩, 5) := ⟨⟨by decide +kernel, by decide +kernel⟩, List.mem_of_getElem? (i := 268) (by decide +kernel), List.mem_of_getElem? (i := 578) (by decide +kernel), List.mem_of_getElem? (i := 579) (by decide +kernel)⟩
theorem lw_p21 : lw_okq (⟨"PackLanes", "bestWidth", "()I"⟩, 14) := ⟨⟨by decide +kernel, by decide +kernel⟩, List.mem_of_getElem? (i := 16) (by decide +kernel), List.mem_of_getElem? (i := 587) (by decide +kernel), List.mem_of_getElem? (i := 588) (by decide +kernel)⟩
theorem lw_p22 : lw_okq (⟨"PackLanes", "isRight", "(I)Z"⟩, 14) := ⟨⟨by decide +kernel, by decide +kernel⟩, List.mem_of_getElem? (i := 16) (by decide +kernel), List.mem_of_getElem? (i := 649) (by decide +kernel), List.mem_of_getElem? (i := 650) (by decide +kernel)⟩
theorem lw_p23 : lw_okq (⟨"PackLanes", "sumGainsOfAllChoices", "(I)V"⟩, 14) := ⟨⟨by decide +kernel, by decide +kernel⟩, List.mem_of_getElem? (i := 16) (by decide +kernel), List.mem_of_getElem? (i := 682) (by decide +kernel), List.mem_of_getElem? (i := 683) (by decide +kernel)⟩
theorem lw_p24 : lw_okq (⟨"PackLanes", "storesOutside", "(I)I"⟩, 14) := ⟨⟨by decide +kernel, by decide +kernel⟩, List.mem_of_getElem? (i := 16) (by decide +kernel), List.mem_of_getElem? (i := 686) (by decide +kernel), List.mem_of_getElem? (i := 687) (by decide +kernel)⟩
theorem lw_p25 : lw_okq (⟨"PackLanes", "drawStartValues", "()V"⟩, 14) := ⟨⟨by decide +kernel, by decide +kernel⟩, List.mem_of_getElem? (i := 16) (by decide +kernel), List.mem_of_getElem? (i := 717) (by decide +kernel), List.mem_of_getElem? (i := 718) (by decide +kernel)⟩
theorem lw_p26 : lw_okq (⟨"PackLanesModel", "readText", "()I"⟩, 50) := ⟨⟨by decide +kernel, by decide +kernel⟩, List.mem_of_getElem? (i := 740) (by decide +kernel), List.mem_of_getElem? (i := 916) (by decide +kernel), List.mem_of_getElem? (i := 917) (by decide +kernel)⟩
theorem lw_p27 : lw_okq (⟨"PackLanesModel", "takeHead", "(I)Z"⟩, 50) := ⟨⟨by decide +kernel, by decide +kernel⟩, List.mem_of_getElem? (i := 740) (by decide +kernel), List.mem_of_getElem? (i := 920) (by decide +kernel), List.mem_of_getElem? (i := 921) (by decide +kernel)⟩
theorem lw_p28 : lw_okq (⟨"PackLanesModel", "takeSign", "(I)Z"⟩, 50) := ⟨⟨by decide +kernel, by decide +kernel⟩, List.mem_of_getElem? (i := 740) (by decide +kernel), List.mem_of_getElem? (i := 925) (by decide +kernel), List.mem_of_getElem? (i := 926) (by decide +kernel)⟩
theorem lw_p29 : lw_okq (⟨"PackLanesModel", "isAnyValueAsRead", "()Z"⟩, 50) := ⟨⟨by decide +kernel, by decide +kernel⟩, List.mem_of_getElem? (i := 740) (by decide +kernel), List.mem_of_getElem? (i := 932) (by decide +kernel), List.mem_of_getElem? (i := 933) (by decide +kernel)⟩
theorem lw_p30 : lw_okq (⟨"PackLanesModel", "takeOf", "(I)Z"⟩, 50) := ⟨⟨by decide +kernel, by decide +kernel⟩, List.mem_of_getElem? (i := 740) (by decide +kernel), List.mem_of_getElem? (i := 936) (by decide +kernel), List.mem_of_getElem? (i := 937) (by decide +kernel)⟩
theorem lw_p31 : lw_okq (⟨"PackLanesModel", "done", "(Z)Z"⟩, 50) := ⟨⟨by decide +kernel, by decide +kernel⟩, List.mem_of_getElem? (i := 740) (by decide +kernel), List.mem_of_getElem? (i := 942) (by decide +kernel), List.mem_of_getElem? (i := 943) (by decide +kernel)⟩
def lw_privs_2 : List (MethodName × Nat) := [(⟨"PackLanes$Packer", "leastReady", "(I)I"⟩, 14), (⟨"PackLanes$Packer", "followedBy", "(I)I"⟩, 14), (⟨"PackLanes$Packer", "appendNode", "(II)V"⟩, 14), (⟨"PackLanes$Machine", "begin", "([I)V"⟩, 5), (⟨"PackLanes$Machine", "carryOut", "(I)V"⟩, 5), (⟨"PackLanes", "bestWidth", "()I"⟩, 14), (⟨"PackLanes", "isRight", "(I)Z"⟩, 14), (⟨"PackLanes", "sumGainsOfAllChoices", "(I)V"⟩, 14), (⟨"PackLanes", "storesOutside", "(I)I"⟩, 14), (⟨"PackLanes", "drawStartValues", "()V"⟩, 14), (⟨"PackLanesModel", "readText", "()I"⟩, 50), (⟨"PackLanesModel", "takeHead", "(I)Z"⟩, 50), (⟨"PackLanesModel", "takeSign", "(I)Z"⟩, 50), (⟨"PackLanesModel", "isAnyValueAsRead", "()Z"⟩, 50), (⟨"PackLanesModel", "takeOf", "(I)Z"⟩, 50), (⟨"PackLanesModel", "done", "(Z)Z"⟩, 50)]
theorem lw_r2 : ∀ q ∈ lw_privs_2, lw_okq q := List.forall_mem_cons.mpr ⟨lw_p16, List.forall_mem_cons.mpr ⟨lw_p17, List.forall_mem_cons.mpr ⟨lw_p18, List.forall_mem_cons.mpr ⟨lw_p19, List.forall_mem_cons.mpr ⟨lw_p20, List.forall_mem_cons.mpr ⟨lw_p21, List.forall_mem_cons.mpr ⟨lw_p22, List.forall_mem_cons.mpr ⟨lw_p23, List.forall_mem_cons.mpr ⟨lw_p24, List.forall_mem_cons.mpr ⟨lw_p25, List.forall_mem_cons.mpr ⟨lw_p26, List.forall_mem_cons.mpr ⟨lw_p27, List.forall_mem_cons.mpr ⟨lw_p28, List.forall_mem_cons.mpr ⟨lw_p29, List.forall_mem_cons.mpr ⟨lw_p30, List.forall_mem_cons.mpr ⟨lw_p31, fun _ h => absurd h List.not_mem_nil⟩⟩⟩⟩⟩⟩⟩⟩⟩⟩⟩⟩⟩⟩⟩⟩
theorem lw_p32 : lw_okq (⟨"PackLanesModel", "isValueAsRead", "(I)Z"⟩, 50) := ⟨⟨by decide +kernel, by decide +kernel⟩, List.mem_of_getElem? (i := 740) (by decide +kernel), List.mem_of_getElem? (i := 949) (by decide +kernel), List.mem_of_getElem? (i := 950) (by decide +kernel)⟩
theorem lw_p33 : lw_okq (⟨"PackLanesModel", "costNow", "()I"⟩, 50) := ⟨⟨by decide +kernel, by decide +kernel⟩, List.mem_of_getElem? (i := 740) (by decide +kernel), List.mem_of_getElem? (i := 961) (by decide +kernel), List.mem_of_getElem? (i := 962) (by decide +kernel)⟩
theorem lw_p34 : lw_okq (⟨"PackLanesModel", "runFaults", "(Z)I"⟩, 50) := ⟨⟨by decide +kernel, by decide +kernel⟩, List.mem_of_getElem? (i := 740) (by decide +kernel), List.mem_of_getElem? (i := 965) (by decide +kernel), List.mem_of_getElem? (i := 966) (by decide +kernel)⟩
theorem lw_p35 : lw_okq (⟨"PackLanesModel", "packedRun", "([I)V"⟩, 50) := ⟨⟨by decide +kernel, by decide +kernel⟩, List.mem_of_getElem? (i := 740) (by decide +kernel), List.mem_of_getElem? (i := 969) (by decide +kernel), List.mem_of_getElem? (i := 970) (by decide +kernel)⟩
theorem lw_p36 : lw_okq (⟨"PackLanesModel", "pack", "([II)V"⟩, 50) := ⟨⟨by decide +kernel, by decide +kernel⟩, List.mem_of_getElem? (i := 740) (by decide +kernel), List.mem_of_getElem? (i := 973) (by decide +kernel), List.mem_of_getElem? (i := 974) (by decide +kernel)⟩
theorem lw_p37 : lw_okq (⟨"PackLanesModel", "nothingKept", "([II)V"⟩, 50) := ⟨⟨by decide +kernel, by decide +kernel⟩, List.mem_of_getElem? (i := 740) (by decide +kernel), List.mem_of_getElem? (i := 977) (by decide +kernel), List.mem_of_getElem? (i := 978) (by decide +kernel)⟩
theorem lw_p38 : lw_okq (⟨"PackLanesModel", "layFollows", "([I)V"⟩, 50) := ⟨⟨by decide +kernel, by decide +kernel⟩, List.mem_of_getElem? (i := 740) (by decide +kernel), List.mem_of_getElem? (i := 981) (by decide +kernel), List.mem_of_getElem? (i := 982) (by decide +kernel)⟩
theorem lw_p39 : lw_okq (⟨"PackLanesModel", "doesFollow", "([III)Z"⟩, 50) := ⟨⟨by decide +kernel, by decide +kernel⟩, List.mem_of_getElem? (i := 740) (by decide +kernel), List.mem_of_getElem? (i := 985) (by decide +kernel), List.mem_of_getElem? (i := 986) (by decide +kernel)⟩
theorem lw_p40 : lw_okq (⟨"PackLanesModel", "isMemory", "(I)Z"⟩, 50) := ⟨⟨by decide +kernel, by decide +kernel⟩, List.mem_of_getElem? (i := 740) (by decide +kernel), List.mem_of_getElem? (i := 992) (by decide +kernel), List.mem_of_getElem? (i := 993) (by decide +kernel)⟩
theorem lw_p41 : lw_okq (⟨"PackLanesModel", "meet", "([III)Z"⟩, 50) := ⟨⟨by decide +kernel, by decide +kernel⟩, List.mem_of_getElem? (i := 740) (by decide +kernel), List.mem_of_getElem? (i := 996) (by decide +kernel), List.mem_of_getElem? (i := 997) (by decide +kernel)⟩
theorem lw_p42 : lw_okq (⟨"PackLanesModel", "uses", "(II)Z"⟩, 50) := ⟨⟨by decide +kernel, by decide +kernel⟩, List.mem_of_getElem? (i := 740) (by decide +kernel), List.mem_of_getElem? (i := 1003) (by decide +kernel), List.mem_of_getElem? (i := 1004) (by decide +kernel)⟩
theorem lw_p43 : lw_okq (⟨"PackLanesModel", "isBinary", "(I)Z"⟩, 50) := ⟨⟨by decide +kernel, by decide +kernel⟩, List.mem_of_getElem? (i := 740) (by decide +kernel), List.mem_of_getElem? (i := 1007) (by decide +kernel), List.mem_of_getElem? (i := 1008) (by decide +kernel)⟩
theorem lw_p44 : lw_okq (⟨"PackLanesModel", "laySeed", "(II)Z"⟩, 50) := ⟨⟨by decide +kernel, by decide +kernel⟩, List.mem_of_getElem? (i := 740) (by decide +kernel), List.mem_of_getElem? (i := 1013) (by decide +kernel), List.mem_of_getElem? (i := 1014) (by decide +kernel)⟩
theorem lw_p45 : lw_okq (⟨"PackLanesModel", "isPack", "(I)Z"⟩, 50) := ⟨⟨by decide +kernel, by decide +kernel⟩, List.mem_of_getElem? (i := 740) (by decide +kernel), List.mem_of_getElem? (i := 1017) (by decide +kernel), List.mem_of_getElem? (i := 1018) (by decide +kernel)⟩
theorem lw_p46 : lw_okq (⟨"PackLanesModel", "grow", "()V"⟩, 50) := ⟨⟨by decide +kernel, by decide +kernel⟩, List.mem_of_getElem? (i := 740) (by decide +kernel), List.mem_of_getElem? (i := 1021) (by decide +kernel), List.mem_of_getElem? (i := 1022) (by decide +kernel)⟩
theorem lw_p47 : lw_okq (⟨"PackLanesModel", "addPack", "(I)V"⟩, 50) := ⟨⟨by decide +kernel, by decide +kernel⟩, List.mem_of_getElem? (i := 740) (by decide +kernel), List.mem_of_getElem? (i := 1025) (by decide +kernel), List.mem_of_getElem? (i := 1026) (by decide +kernel)⟩
def lw_privs_3 : List (MethodName × Nat) := [(⟨"PackLanesModel", "isValueAsRead", "(I)Z"⟩, 50), (⟨"PackLanesModel", "costNow", "()I"⟩, 50), (⟨"PackLanesModel", "runFaults", "(Z)I"⟩, 50), (⟨"PackLanesModel", "packedRun", "([I)V"⟩, 50), (⟨"PackLanesModel", "pack", "([II)V"⟩, 50), (⟨"PackLanesModel", "nothingKept", "([II)V"⟩, 50), (⟨"PackLanesModel", "layFollows", "([I)V"⟩, 50), (⟨"PackLanesModel", "doesFollow", "([III)Z"⟩, 50), (⟨"PackLanesModel", "isMemory", "(I)Z"⟩, 50), (⟨"PackLanesModel", "meet", "([III)Z"⟩, 50), (⟨"PackLanesModel", "uses", "(II)Z"⟩, 50), (⟨"PackLanesModel", "isBinary", "(I)Z"⟩, 50), (⟨"PackLanesModel", "laySeed", "(II)Z"⟩, 50), (⟨"PackLanesModel", "isPack", "(I)Z"⟩, 50), (⟨"PackLanesModel", "grow", "()V"⟩, 50), (⟨"PackLanesModel", "addPack", "(I)V"⟩, 50)]
theorem lw_r3 : ∀ q ∈ lw_privs_3, lw_okq q := List.forall_mem_cons.mpr ⟨lw_p32, List.forall_mem_cons.mpr ⟨lw_p33, List.forall_mem_cons.mpr ⟨lw_p34, List.forall_mem_cons.mpr ⟨lw_p35, List.forall_mem_cons.mpr ⟨lw_p36, List.forall_mem_cons.mpr ⟨lw_p37, List.forall_mem_cons.mpr ⟨lw_p38, List.forall_mem_cons.mpr ⟨lw_p39, List.forall_mem_cons.mpr ⟨lw_p40, List.forall_mem_cons.mpr ⟨lw_p41, List.forall_mem_cons.mpr ⟨lw_p42, List.forall_mem_cons.mpr ⟨lw_p43, List.forall_mem_cons.mpr ⟨lw_p44, List.forall_mem_cons.mpr ⟨lw_p45, List.forall_mem_cons.mpr ⟨lw_p46, List.forall_mem_cons.mpr ⟨lw_p47, fun _ h => absurd h List.not_mem_nil⟩⟩⟩⟩⟩⟩⟩⟩⟩⟩⟩⟩⟩⟩⟩⟩
theorem lw_p48 : lw_okq (⟨"PackLanesModel", "look", "(I)V"⟩, 50) := ⟨⟨by decide +kernel, by decide +kernel⟩, List.mem_of_getElem? (i := 740) (by decide +kernel), List.mem_of_getElem? (i := 1029) (by decide +kernel), List.mem_of_getElem? (i := 1030) (by decide +kernel)⟩
theorem lw_p49 : lw_okq (⟨"PackLanesModel", "isFree", "(I)Z"⟩, 50) := ⟨⟨by decide +kernel, by decide +kernel⟩, List.mem_of_getElem? (i := 740) (by decide +kernel), List.mem_of_getElem? (i := 1033) (by decide +kernel), List.mem_of_getElem? (i := 1034) (by decide +kernel)⟩
theorem lw_p50 : lw_okq (⟨"PackLanesModel", "waitBoth", "(I)V"⟩, 50) := ⟨⟨by decide +kernel, by decide +kernel⟩, List.mem_of_getElem? (i := 740) (by decide +kernel), List.mem_of_getElem? (i := 1037) (by decide +kernel), List.mem_of_getElem? (i := 1038) (by decide +kernel)⟩
theorem lw_p51 : lw_okq (⟨"PackLanesModel", "isTreePack", "(I)Z"⟩, 50) := ⟨⟨by decide +kernel, by decide +kernel⟩, List.mem_of_getElem? (i := 740) (by decide +kernel), List.mem_of_getElem? (i := 1041) (by decide +kernel), List.mem_of_getElem? (i := 1042) (by decide +kernel)⟩
theorem lw_p52 : lw_okq (⟨"PackLanesModel", "costOf", "(I)I"⟩, 50) := ⟨⟨by decide +kernel, by decide +kernel⟩, List.mem_of_getElem? (i := 740) (by decide +kernel), List.mem_of_getElem? (i := 1045) (by decide +kernel), List.mem_of_getElem? (i := 1046) (by decide +kernel)⟩
theorem lw_p53 : lw_okq (⟨"PackLanesModel", "gainOfTree", "()I"⟩, 50) := ⟨⟨by decide +kernel, by decide +kernel⟩, List.mem_of_getElem? (i := 740) (by decide +kernel), List.mem_of_getElem? (i := 1049) (by decide +kernel), List.mem_of_getElem? (i := 1050) (by decide +kernel)⟩
theorem lw_p54 : lw_okq (⟨"PackLanesModel", "isUsedOutside", "(I)Z"⟩, 50) := ⟨⟨by decide +kernel, by decide +kernel⟩, List.mem_of_getElem? (i := 740) (by decide +kernel), List.mem_of_getElem? (i := 1053) (by decide +kernel), List.mem_of_getElem? (i := 1054) (by decide +kernel)⟩
theorem lw_p55 : lw_okq (⟨"PackLanesModel", "setInOrder", "()Z"⟩, 50) := ⟨⟨by decide +kernel, by decide +kernel⟩, List.mem_of_getElem? (i := 740) (by decide +kernel), List.mem_of_getElem? (i := 1057) (by decide +kernel), List.mem_of_getElem? (i := 1058) (by decide +kernel)⟩
theorem lw_p56 : lw_okq (⟨"PackLanesModel", "nodeOf", "(I)I"⟩, 50) := ⟨⟨by decide +kernel, by decide +kernel⟩, List.mem_of_getElem? (i := 740) (by decide +kernel), List.mem_of_getElem? (i := 1061) (by decide +kernel), List.mem_of_getElem? (i := 1062) (by decide +kernel)⟩
theorem lw_p57 : lw_okq (⟨"PackLanesModel", "isReady", "(II)Z"⟩, 50) := ⟨⟨by decide +kernel, by decide +kernel⟩, List.mem_of_getElem? (i := 740) (by decide +kernel), List.mem_of_getElem? (i := 1065) (by decide +kernel), List.mem_of_getElem? (i := 1066) (by decide +kernel)⟩
theorem lw_p58 : lw_okq (⟨"PackLanesModel", "keepTree", "(I)V"⟩, 50) := ⟨⟨by decide +kernel, by decide +kernel⟩, List.mem_of_getElem? (i := 740) (by decide +kernel), List.mem_of_getElem? (i := 1069) (by decide +kernel), List.mem_of_getElem? (i := 1070) (by decide +kernel)⟩
theorem lw_p59 : lw_okq (⟨"PackLanesModel", "noTree", "()V"⟩, 50) := ⟨⟨by decide +kernel, by decide +kernel⟩, List.mem_of_getElem? (i := 740) (by decide +kernel), List.mem_of_getElem? (i := 1073) (by decide +kernel), List.mem_of_getElem? (i := 1074) (by decide +kernel)⟩
theorem lw_p60 : lw_okq (⟨"PackLanesModel", "beginRun", "([I)V"⟩, 50) := ⟨⟨by decide +kernel, by decide +kernel⟩, List.mem_of_getElem? (i := 740) (by decide +kernel), List.mem_of_getElem? (i := 1077) (by decide +kernel), List.mem_of_getElem? (i := 1078) (by decide +kernel)⟩
theorem lw_p61 : lw_okq (⟨"PackLanesModel", "doOne", "([II)V"⟩, 50) := ⟨⟨by decide +kernel, by decide +kernel⟩, List.mem_of_getElem? (i := 740) (by decide +kernel), List.mem_of_getElem? (i := 1081) (by decide +kernel), List.mem_of_getElem? (i := 1082) (by decide +kernel)⟩
theorem lw_p62 : lw_okq (⟨"PackLanesModel", "run", "([II)V"⟩, 50) := ⟨⟨by decide +kernel, by decide +kernel⟩, List.mem_of_getElem? (i := 740) (by decide +kernel), List.mem_of_getElem? (i := 1085) (by decide +kernel), List.mem_of_getElem? (i := 1086) (by decide +kernel)⟩
theorem lw_p63 : lw_okq (⟨"PackLanesModel", "bestWidth", "()I"⟩, 50) := ⟨⟨by decide +kernel, by decide +kernel⟩, List.mem_of_getElem? (i := 740) (by decide +kernel), List.mem_of_getElem? (i := 1089) (by decide +kernel), List.mem_of_getElem? (i := 1090) (by decide +kernel)⟩
def lw_privs_4 : List (MethodName × Nat) := [(⟨"PackLanesModel", "look", "(I)V"⟩, 50), (⟨"PackLanesModel", "isFree", "(I)Z"⟩, 50), (⟨"PackLanesModel", "waitBoth", "(I)V"⟩, 50), (⟨"PackLanesModel", "isTreePack", "(I)Z"⟩, 50), (⟨"PackLanesModel", "costOf", "(I)I"⟩, 50), (⟨"PackLanesModel", "gainOfTree", "()I"⟩, 50), (⟨"PackLanesModel", "isUsedOutside", "(I)Z"⟩, 50), (⟨"PackLanesModel", "setInOrder", "()Z"⟩, 50), (⟨"PackLanesModel", "nodeOf", "(I)I"⟩, 50), (⟨"PackLanesModel", "isReady", "(II)Z"⟩, 50), (⟨"PackLanesModel", "keepTree", "(I)V"⟩, 50), (⟨"PackLanesModel", "noTree", "()V"⟩, 50), (⟨"PackLanesModel", "beginRun", "([I)V"⟩, 50), (⟨"PackLanesModel", "doOne", "([II)V"⟩, 50), (⟨"PackLanesModel", "run", "([II)V"⟩, 50), (⟨"PackLanesModel", "bestWidth", "()I"⟩, 50)]
theorem lw_r4 : ∀ q ∈ lw_privs_4, lw_okq q := List.forall_mem_cons.mpr ⟨lw_p48, List.forall_mem_cons.mpr ⟨lw_p49, List.forall_mem_cons.mpr ⟨lw_p50, List.forall_mem_cons.mpr ⟨lw_p51, List.forall_mem_cons.mpr ⟨lw_p52, List.forall_mem_cons.mpr ⟨lw_p53, List.forall_mem_cons.mpr ⟨lw_p54, List.forall_mem_cons.mpr ⟨lw_p55, List.forall_mem_cons.mpr ⟨lw_p56, List.forall_mem_cons.mpr ⟨lw_p57, List.forall_mem_cons.mpr ⟨lw_p58, List.forall_mem_cons.mpr ⟨lw_p59, List.forall_mem_cons.mpr ⟨lw_p60, List.forall_mem_cons.mpr ⟨lw_p61, List.forall_mem_cons.mpr ⟨lw_p62, List.forall_mem_cons.mpr ⟨lw_p63, fun _ h => absurd h List.not_mem_nil⟩⟩⟩⟩⟩⟩⟩⟩⟩⟩⟩⟩⟩⟩⟩⟩
theorem lw_p64 : lw_okq (⟨"PackLanesModel", "packedCost", "([I)I"⟩, 50) := ⟨⟨by decide +kernel, by decide +kernel⟩, List.mem_of_getElem? (i := 740) (by decide +kernel), List.mem_of_getElem? (i := 1096) (by decide +kernel), List.mem_of_getElem? (i := 1097) (by decide +kernel)⟩
theorem lw_p65 : lw_okq (⟨"PackLanesModel", "found", "(I)I"⟩, 50) := ⟨⟨by decide +kernel, by decide +kernel⟩, List.mem_of_getElem? (i := 740) (by decide +kernel), List.mem_of_getElem? (i := 1100) (by decide +kernel), List.mem_of_getElem? (i := 1101) (by decide +kernel)⟩
theorem lw_p66 : lw_okq (⟨"PackLanesModel", "packed", "()I"⟩, 50) := ⟨⟨by decide +kernel, by decide +kernel⟩, List.mem_of_getElem? (i := 740) (by decide +kernel), List.mem_of_getElem? (i := 1104) (by decide +kernel), List.mem_of_getElem? (i := 1105) (by decide +kernel)⟩
theorem lw_p67 : lw_okq (⟨"PackLanesModel", "isThere", "(I)Z"⟩, 50) := ⟨⟨by decide +kernel, by decide +kernel⟩, List.mem_of_getElem? (i := 740) (by decide +kernel), List.mem_of_getElem? (i := 1112) (by decide +kernel), List.mem_of_getElem? (i := 1113) (by decide +kernel)⟩
theorem lw_p68 : lw_okq (⟨"PackLanesModel", "note", "()V"⟩, 50) := ⟨⟨by decide +kernel, by decide +kernel⟩, List.mem_of_getElem? (i := 740) (by decide +kernel), List.mem_of_getElem? (i := 1137) (by decide +kernel), List.mem_of_getElem? (i := 1138) (by decide +kernel)⟩
theorem lw_p69 : lw_okq (⟨"PackLanesModel", "judged", "(II)Z"⟩, 50) := ⟨⟨by decide +kernel, by decide +kernel⟩, List.mem_of_getElem? (i := 740) (by decide +kernel), List.mem_of_getElem? (i := 1165) (by decide +kernel), List.mem_of_getElem? (i := 1166) (by decide +kernel)⟩
theorem lw_p70 : lw_okq (⟨"PackLanesModel", "isDependent", "(II)Z"⟩, 50) := ⟨⟨by decide +kernel, by decide +kernel⟩, List.mem_of_getElem? (i := 740) (by decide +kernel), List.mem_of_getElem? (i := 1169) (by decide +kernel), List.mem_of_getElem? (i := 1170) (by decide +kernel)⟩
theorem lw_p71 : lw_okq (⟨"PackLanesModel", "isPackedAs", "(II)Z"⟩, 50) := ⟨⟨by decide +kernel, by decide +kernel⟩, List.mem_of_getElem? (i := 740) (by decide +kernel), List.mem_of_getElem? (i := 1173) (by decide +kernel), List.mem_of_getElem? (i := 1174) (by decide +kernel)⟩
theorem lw_p72 : lw_okq (⟨"PackLanesModel", "layStores", "()I"⟩, 50) := ⟨⟨by decide +kernel, by decide +kernel⟩, List.mem_of_getElem? (i := 740) (by decide +kernel), List.mem_of_getElem? (i := 1193) (by decide +kernel), List.mem_of_getElem? (i := 1194) (by decide +kernel)⟩
theorem lw_p73 : lw_okq (⟨"PackLanesModel", "gainsBy", "(II)I"⟩, 50) := ⟨⟨by decide +kernel, by decide +kernel⟩, List.mem_of_getElem? (i := 740) (by decide +kernel), List.mem_of_getElem? (i := 1197) (by decide +kernel), List.mem_of_getElem? (i := 1198) (by decide +kernel)⟩
def lw_privs_5 : List (MethodName × Nat) := [(⟨"PackLanesModel", "packedCost", "([I)I"⟩, 50), (⟨"PackLanesModel", "found", "(I)I"⟩, 50), (⟨"PackLanesModel", "packed", "()I"⟩, 50), (⟨"PackLanesModel", "isThere", "(I)Z"⟩, 50), (⟨"PackLanesModel", "note", "()V"⟩, 50), (⟨"PackLanesModel", "judged", "(II)Z"⟩, 50), (⟨"PackLanesModel", "isDependent", "(II)Z"⟩, 50), (⟨"PackLanesModel", "isPackedAs", "(II)Z"⟩, 50), (⟨"PackLanesModel", "layStores", "()I"⟩, 50), (⟨"PackLanesModel", "gainsBy", "(II)I"⟩, 50)]
theorem lw_r5 : ∀ q ∈ lw_privs_5, lw_okq q := List.forall_mem_cons.mpr ⟨lw_p64, List.forall_mem_cons.mpr ⟨lw_p65, List.forall_mem_cons.mpr ⟨lw_p66, List.forall_mem_cons.mpr ⟨lw_p67, List.forall_mem_cons.mpr ⟨lw_p68, List.forall_mem_cons.mpr ⟨lw_p69, List.forall_mem_cons.mpr ⟨lw_p70, List.forall_mem_cons.mpr ⟨lw_p71, List.forall_mem_cons.mpr ⟨lw_p72, List.forall_mem_cons.mpr ⟨lw_p73, fun _ h => absurd h List.not_mem_nil⟩⟩⟩⟩⟩⟩⟩⟩⟩⟩
def lw_privs : List (MethodName × Nat) := lw_privs_1 ++ (lw_privs_2 ++ (lw_privs_3 ++ (lw_privs_4 ++ (lw_privs_5))))
def lw_tbl : List Cond := k2_sels lw_privs ++ tables_1
theorem lw_privs_ok : ∀ q ∈ lw_privs, lw_okq q := by
  show ∀ q ∈ lw_privs_1 ++ (lw_privs_2 ++ (lw_privs_3 ++ (lw_privs_4 ++ (lw_privs_5)))), lw_okq q
  exact List.forall_mem_append.mpr ⟨lw_r1, List.forall_mem_append.mpr ⟨lw_r2, List.forall_mem_append.mpr ⟨lw_r3, List.forall_mem_append.mpr ⟨lw_r4, lw_r5⟩⟩⟩⟩
-- ===== end of PART A; then your names; then what follows =====
/-- the words that stay true at every later state -/
def BIG : List Cond := lw_tbl.filter goodWord
theorem big_sub : ∀ w ∈ BIG, w ∈ lw_tbl := fun w h => (List.mem_filter.mp h).1
theorem big_good : GoodIn BIG BIG := fun w h => ⟨h, good_of_word (List.mem_filter.mp h).2⟩
theorem big_t {w : Cond} (i : Nat) (h : tables_1[i]? = some w) (hg : goodWord w = true) : w ∈ BIG := List.mem_filter.mpr ⟨List.mem_append_right _ (List.mem_of_getElem? h), hg⟩
theorem big_p {w : Cond} (i : Nat) (h : (k2_sels lw_privs)[i]? = some w) (hg : goodWord w = true) : w ∈ BIG := List.mem_filter.mpr ⟨List.mem_append_left _ (List.mem_of_getElem? h), hg⟩
/-- the words on nest mates: they stay true, but not of themselves -/
def isNest : Cond → Bool
  | .methodLinkNest .. => true
  | .fieldLinkNest .. => true
  | _ => false
def BIGN : List Cond := tables_1.filter isNest
theorem big_n {w : Cond} (i : Nat) (h : tables_1[i]? = some w) (hg : isNest w = true) : w ∈ BIGN := List.mem_filter.mpr ⟨List.mem_of_getElem? h, hg⟩
theorem bign_tbl : ∀ w ∈ BIGN, w ∈ lw_tbl := fun w h => List.mem_append_right _ (List.mem_filter.mp h).1
theorem bign_nest : ∀ w ∈ BIGN, isNest w = true := fun w h => (List.mem_filter.mp h).2
theorem nw_warm {w : Cond} (hn : isNest w = true) {s U : State} (hW : s.WarmedH U.vm) (h : va_Nw w s) : va_Nw w U := by
  cases w <;> first | exact va_Nw.warmM hW h | exact va_Nw.warmF hW h | (simp [isNest] at hn)
theorem nw_of {w : Cond} (hn : isNest w = true) {A : Array Value} {U : State} (h : w.before A U = true) : va_Nw w U := by
  cases w <;> first | exact va_Nw.of rfl h | (simp [isNest] at hn)
end
section
/-! the classes of the claim, by kinds 0..10; their fields in the order of the slots -/
def KR0 : String := "PackLanes$Acts"
def KT0 : u_T := fun k => match k with
  | 0 => ("PackLanes$Acts", "places", "[I", true)
  | 1 => ("PackLanes$Acts", "olds", "[I", true)
  | _ => ("PackLanes$Acts", "count", "I", false)
def Kt0 : Nat → FieldType := fun k => match k with
  | 0 => .array .int
  | 1 => .array .int
  | _ => .int
theorem Kn0 : ∀ a, a < 3 → ∀ b, b < 3 → a ≠ b → (KT0 a).2.1 ≠ (KT0 b).2.1 := by decide +kernel
theorem Kp0 : ∀ k, k < 3 → parseFieldDescriptor (KT0 k).2.2.1 = some (Kt0 k) := by decide +kernel
theorem Ki0 : ∀ w ∈ u_ws KR0 KT0 3, w ∈ BIG := by decide +kernel
def KR1 : String := "PackLanes$Code"
def KT1 : u_T := fun k => match k with
  | 0 => ("PackLanes$Code", "kind", "[I", true)
  | 1 => ("PackLanes$Code", "row", "[I", true)
  | 2 => ("PackLanes$Code", "cell", "[I", true)
  | 3 => ("PackLanes$Code", "digit", "[I", true)
  | 4 => ("PackLanes$Code", "left", "[I", true)
  | 5 => ("PackLanes$Code", "right", "[I", true)
  | _ => ("PackLanes$Code", "count", "I", false)
def Kt1 : Nat → FieldType := fun k => match k with
  | 0 => .array .int
  | 1 => .array .int
  | 2 => .array .int
  | 3 => .array .int
  | 4 => .array .int
  | 5 => .array .int
  | _ => .int
theorem Kn1 : ∀ a, a < 7 → ∀ b, b < 7 → a ≠ b → (KT1 a).2.1 ≠ (KT1 b).2.1 := by decide +kernel
theorem Kp1 : ∀ k, k < 7 → parseFieldDescriptor (KT1 k).2.2.1 = some (Kt1 k) := by decide +kernel
theorem Ki1 : ∀ w ∈ u_ws KR1 KT1 7, w ∈ BIG := by decide +kernel
def KR2 : String := "PackLanes$Links"
def KT2 : u_T := fun k => match k with
  | 0 => ("PackLanes$Links", "code", "LPackLanes$Code;", true)
  | 1 => ("PackLanes$Links", "follows", "[I", true)
  | 2 => ("PackLanes$Links", "needs", "[I", true)
  | 3 => ("PackLanes$Links", "users", "[I", true)
  | _ => ("PackLanes$Links", "omitted", "I", false)
def Kt2 : Nat → FieldType := fun k => match k with
  | 0 => .object "PackLanes$Code"
  | 1 => .array .int
  | 2 => .array .int
  | 3 => .array .int
  | _ => .int
theorem Kn2 : ∀ a, a < 5 → ∀ b, b < 5 → a ≠ b → (KT2 a).2.1 ≠ (KT2 b).2.1 := by decide +kernel
theorem Kp2 : ∀ k, k < 5 → parseFieldDescriptor (KT2 k).2.2.1 = some (Kt2 k) := by decide +kernel
theorem Ki2 : ∀ w ∈ u_ws KR2 KT2 5, w ∈ BIG := by decide +kernel
def KR3 : String := "PackLanes$Machine"
def KT3 : u_T := fun k => match k with
  | 0 => ("PackLanes$Machine", "code", "LPackLanes$Code;", true)
  | 1 => ("PackLanes$Machine", "memory", "[I", true)
  | 2 => ("PackLanes$Machine", "value", "[I", true)
  | 3 => ("PackLanes$Machine", "stop", "I", false)
  | _ => ("PackLanes$Machine", "base", "I", false)
def Kt3 : Nat → FieldType := fun k => match k with
  | 0 => .object "PackLanes$Code"
  | 1 => .array .int
  | 2 => .array .int
  | 3 => .int
  | _ => .int
theorem Kn3 : ∀ a, a < 5 → ∀ b, b < 5 → a ≠ b → (KT3 a).2.1 ≠ (KT3 b).2.1 := by decide +kernel
theorem Kp3 : ∀ k, k < 5 → parseFieldDescriptor (KT3 k).2.2.1 = some (Kt3 k) := by decide +kernel
theorem Ki3 : ∀ w ∈ u_ws KR3 KT3 5, w ∈ BIG := by decide +kernel
def KR4 : String := "PackLanes$Packer"
def KT4 : u_T := fun k => match k with
  | 0 => ("PackLanes$Packer", "code", "LPackLanes$Code;", true)
  | 1 => ("PackLanes$Packer", "links", "LPackLanes$Links;", true)
  | 2 => ("PackLanes$Packer", "tree", "LPackLanes$Tree;", true)
  | 3 => ("PackLanes$Packer", "width", "I", false)
  | 4 => ("PackLanes$Packer", "partners", "[I", true)
  | 5 => ("PackLanes$Packer", "number", "[I", true)
  | 6 => ("PackLanes$Packer", "lane", "[I", true)
  | 7 => ("PackLanes$Packer", "node", "[I", true)
  | 8 => ("PackLanes$Packer", "order", "[I", true)
  | 9 => ("PackLanes$Packer", "ordered", "I", false)
  | 10 => ("PackLanes$Packer", "packs", "I", false)
  | 11 => ("PackLanes$Packer", "members", "I", false)
  | 12 => ("PackLanes$Packer", "trees", "I", false)
  | _ => ("PackLanes$Packer", "gains", "I", false)
def Kt4 : Nat → FieldType := fun k => match k with
  | 0 => .object "PackLanes$Code"
  | 1 => .object "PackLanes$Links"
  | 2 => .object "PackLanes$Tree"
  | 3 => .int
  | 4 => .array .int
  | 5 => .array .int
  | 6 => .array .int
  | 7 => .array .int
  | 8 => .array .int
  | 9 => .int
  | 10 => .int
  | 11 => .int
  | 12 => .int
  | _ => .int
theorem Kn4 : ∀ a, a < 14 → ∀ b, b < 14 → a ≠ b → (KT4 a).2.1 ≠ (KT4 b).2.1 := by decide +kernel
theorem Kp4 : ∀ k, k < 14 → parseFieldDescriptor (KT4 k).2.2.1 = some (Kt4 k) := by decide +kernel
theorem Ki4 : ∀ w ∈ u_ws KR4 KT4 14, w ∈ BIG := by decide +kernel
def KR5 : String := "PackLanes$Sights"
def KT5 : u_T := fun k => match k with
  | 0 => ("PackLanes$Sights", "addresses", "[I", true)
  | 1 => ("PackLanes$Sights", "values", "[I", true)
  | _ => ("PackLanes$Sights", "count", "I", false)
def Kt5 : Nat → FieldType := fun k => match k with
  | 0 => .array .int
  | 1 => .array .int
  | _ => .int
theorem Kn5 : ∀ a, a < 3 → ∀ b, b < 3 → a ≠ b → (KT5 a).2.1 ≠ (KT5 b).2.1 := by decide +kernel
theorem Kp5 : ∀ k, k < 3 → parseFieldDescriptor (KT5 k).2.2.1 = some (Kt5 k) := by decide +kernel
theorem Ki5 : ∀ w ∈ u_ws KR5 KT5 3, w ∈ BIG := by decide +kernel
def KR6 : String := "PackLanes$Slots"
def KT6 : u_T := fun k => match k with
  | 0 => ("PackLanes$Slots", "filled", "[Z", true)
  | _ => ("PackLanes$Slots", "states", "[[I", true)
def Kt6 : Nat → FieldType := fun k => match k with
  | 0 => .array .boolean
  | _ => .array (.array .int)
theorem Kn6 : ∀ a, a < 2 → ∀ b, b < 2 → a ≠ b → (KT6 a).2.1 ≠ (KT6 b).2.1 := by decide +kernel
theorem Kp6 : ∀ k, k < 2 → parseFieldDescriptor (KT6 k).2.2.1 = some (Kt6 k) := by decide +kernel
theorem Ki6 : ∀ w ∈ u_ws KR6 KT6 2, w ∈ BIG := by decide +kernel
def KR7 : String := "PackLanes$Source"
def KT7 : u_T := fun k => match k with
  | 0 => ("PackLanes$Source", "letters", "[I", true)
  | 1 => ("PackLanes$Source", "parts", "[I", true)
  | _ => ("PackLanes$Source", "length", "I", false)
def Kt7 : Nat → FieldType := fun k => match k with
  | 0 => .array .int
  | 1 => .array .int
  | _ => .int
theorem Kn7 : ∀ a, a < 3 → ∀ b, b < 3 → a ≠ b → (KT7 a).2.1 ≠ (KT7 b).2.1 := by decide +kernel
theorem Kp7 : ∀ k, k < 3 → parseFieldDescriptor (KT7 k).2.2.1 = some (Kt7 k) := by decide +kernel
theorem Ki7 : ∀ w ∈ u_ws KR7 KT7 3, w ∈ BIG := by decide +kernel
def KR8 : String := "PackLanes$Tree"
def KT8 : u_T := fun k => match k with
  | 0 => ("PackLanes$Tree", "code", "LPackLanes$Code;", true)
  | 1 => ("PackLanes$Tree", "links", "LPackLanes$Links;", true)
  | 2 => ("PackLanes$Tree", "packs", "[I", true)
  | 3 => ("PackLanes$Tree", "size", "I", false)
  | 4 => ("PackLanes$Tree", "members", "I", false)
  | 5 => ("PackLanes$Tree", "queue", "[I", true)
  | 6 => ("PackLanes$Tree", "queued", "I", false)
  | 7 => ("PackLanes$Tree", "width", "I", false)
  | 8 => ("PackLanes$Tree", "kept", "I", false)
  | 9 => ("PackLanes$Tree", "single", "I", false)
  | _ => ("PackLanes$Tree", "costs", "I", false)
def Kt8 : Nat → FieldType := fun k => match k with
  | 0 => .object "PackLanes$Code"
  | 1 => .object "PackLanes$Links"
  | 2 => .array .int
  | 3 => .int
  | 4 => .int
  | 5 => .array .int
  | 6 => .int
  | 7 => .int
  | 8 => .int
  | 9 => .int
  | _ => .int
theorem Kn8 : ∀ a, a < 11 → ∀ b, b < 11 → a ≠ b → (KT8 a).2.1 ≠ (KT8 b).2.1 := by decide +kernel
theorem Kp8 : ∀ k, k < 11 → parseFieldDescriptor (KT8 k).2.2.1 = some (Kt8 k) := by decide +kernel
theorem Ki8 : ∀ w ∈ u_ws KR8 KT8 11, w ∈ BIG := by decide +kernel
def KR9 : String := "PackLanes"
def KT9 : u_T := fun k => match k with
  | 0 => ("PackLanes", "source", "LPackLanes$Source;", true)
  | 1 => ("PackLanes", "code", "LPackLanes$Code;", true)
  | 2 => ("PackLanes", "draft", "LPackLanes$Code;", true)
  | 3 => ("PackLanes", "present", "[I", true)
  | 4 => ("PackLanes", "random", "[I", true)
  | 5 => ("PackLanes", "asked", "[I", true)
  | 6 => ("PackLanes", "acts", "LPackLanes$Acts;", true)
  | 7 => ("PackLanes", "slots", "LPackLanes$Slots;", true)
  | 8 => ("PackLanes", "sights", "LPackLanes$Sights;", true)
  | 9 => ("PackLanes", "now", "LPackLanes$Packer;", true)
  | 10 => ("PackLanes", "trial", "LPackLanes$Packer;", true)
  | 11 => ("PackLanes", "machine", "LPackLanes$Machine;", true)
  | 12 => ("PackLanes", "sums", "[I", true)
  | _ => ("PackLanes", "randomNumber", "J", false)
def Kt9 : Nat → FieldType := fun k => match k with
  | 0 => .object "PackLanes$Source"
  | 1 => .object "PackLanes$Code"
  | 2 => .object "PackLanes$Code"
  | 3 => .array .int
  | 4 => .array .int
  | 5 => .array .int
  | 6 => .object "PackLanes$Acts"
  | 7 => .object "PackLanes$Slots"
  | 8 => .object "PackLanes$Sights"
  | 9 => .object "PackLanes$Packer"
  | 10 => .object "PackLanes$Packer"
  | 11 => .object "PackLanes$Machine"
  | 12 => .array .int
  | _ => .long
theorem Kn9 : ∀ a, a < 14 → ∀ b, b < 14 → a ≠ b → (KT9 a).2.1 ≠ (KT9 b).2.1 := by decide +kernel
theorem Kp9 : ∀ k, k < 14 → parseFieldDescriptor (KT9 k).2.2.1 = some (Kt9 k) := by decide +kernel
theorem Ki9 : ∀ w ∈ u_ws KR9 KT9 14, w ∈ BIG := by decide +kernel
def KR10 : String := "PackLanesModel"
def KT10 : u_T := fun k => match k with
  | 0 => ("PackLanesModel", "text", "[I", true)
  | 1 => ("PackLanesModel", "length", "I", false)
  | 2 => ("PackLanesModel", "many", "I", false)
  | 3 => ("PackLanesModel", "kind", "[I", true)
  | 4 => ("PackLanesModel", "one", "[I", true)
  | 5 => ("PackLanesModel", "two", "[I", true)
  | 6 => ("PackLanesModel", "what", "[I", true)
  | 7 => ("PackLanesModel", "now", "[I", true)
  | 8 => ("PackLanesModel", "trial", "[I", true)
  | 9 => ("PackLanesModel", "diary", "[I", true)
  | 10 => ("PackLanesModel", "acts", "I", false)
  | 11 => ("PackLanesModel", "next", "I", false)
  | 12 => ("PackLanesModel", "kept", "[I", true)
  | 13 => ("PackLanesModel", "isKept", "[Z", true)
  | 14 => ("PackLanesModel", "seenAt", "[I", true)
  | 15 => ("PackLanesModel", "seenIs", "[I", true)
  | 16 => ("PackLanesModel", "seen", "I", false)
  | 17 => ("PackLanesModel", "seed", "J", false)
  | 18 => ("PackLanesModel", "out", "I", false)
  | 19 => ("PackLanesModel", "wide", "I", false)
  | 20 => ("PackLanesModel", "follows", "[I", true)
  | 21 => ("PackLanesModel", "depends", "[I", true)
  | 22 => ("PackLanesModel", "packOf", "[I", true)
  | 23 => ("PackLanesModel", "laneOf", "[I", true)
  | 24 => ("PackLanesModel", "packs", "I", false)
  | 25 => ("PackLanesModel", "trees", "I", false)
  | 26 => ("PackLanesModel", "gains", "I", false)
  | 27 => ("PackLanesModel", "treeOf", "[I", true)
  | 28 => ("PackLanesModel", "treeLane", "[I", true)
  | 29 => ("PackLanesModel", "treePacks", "I", false)
  | 30 => ("PackLanesModel", "bundles", "[I", true)
  | 31 => ("PackLanesModel", "waiting", "I", false)
  | 32 => ("PackLanesModel", "single", "I", false)
  | 33 => ("PackLanesModel", "cost", "I", false)
  | 34 => ("PackLanesModel", "place", "[I", true)
  | 35 => ("PackLanesModel", "cells", "[I", true)
  | 36 => ("PackLanesModel", "values", "[I", true)
  | 37 => ("PackLanesModel", "faults", "I", false)
  | 38 => ("PackLanesModel", "stores", "[I", true)
  | 39 => ("PackLanesModel", "worth", "[I", true)
  | 40 => ("PackLanesModel", "readBase", "I", false)
  | 41 => ("PackLanesModel", "readKnown", "I", false)
  | 42 => ("PackLanesModel", "readWidth", "I", false)
  | 43 => ("PackLanesModel", "readMany", "I", false)
  | 44 => ("PackLanesModel", "readKind", "[I", true)
  | 45 => ("PackLanesModel", "readOne", "[I", true)
  | 46 => ("PackLanesModel", "readTwo", "[I", true)
  | 47 => ("PackLanesModel", "readWhat", "[I", true)
  | 48 => ("PackLanesModel", "part", "I", false)
  | _ => ("PackLanesModel", "step", "I", false)
def Kt10 : Nat → FieldType := fun k => match k with
  | 0 => .array .int
  | 1 => .int
  | 2 => .int
  | 3 => .array .int
  | 4 => .array .int
  | 5 => .array .int
  | 6 => .array .int
  | 7 => .array .int
  | 8 => .array .int
  | 9 => .array .int
  | 10 => .int
  | 11 => .int
  | 12 => .array .int
  | 13 => .array .boolean
  | 14 => .array .int
  | 15 => .array .int
  | 16 => .int
  | 17 => .long
  | 18 => .int
  | 19 => .int
  | 20 => .array .int
  | 21 => .array .int
  | 22 => .array .int
  | 23 => .array .int
  | 24 => .int
  | 25 => .int
  | 26 => .int
  | 27 => .array .int
  | 28 => .array .int
  | 29 => .int
  | 30 => .array .int
  | 31 => .int
  | 32 => .int
  | 33 => .int
  | 34 => .array .int
  | 35 => .array .int
  | 36 => .array .int
  | 37 => .int
  | 38 => .array .int
  | 39 => .array .int
  | 40 => .int
  | 41 => .int
  | 42 => .int
  | 43 => .int
  | 44 => .array .int
  | 45 => .array .int
  | 46 => .array .int
  | 47 => .array .int
  | 48 => .int
  | _ => .int
theorem Kn10 : ∀ a, a < 50 → ∀ b, b < 50 → a ≠ b → (KT10 a).2.1 ≠ (KT10 b).2.1 := by decide +kernel
theorem Kp10 : ∀ k, k < 50 → parseFieldDescriptor (KT10 k).2.2.1 = some (Kt10 k) := by decide +kernel
theorem Ki10 : ∀ w ∈ u_ws KR10 KT10 50, w ∈ BIG := by decide +kernel
abbrev classes : List vw_C := [(KR0, KT0, 3), (KR1, KT1, 7), (KR2, KT2, 5), (KR3, KT3, 5), (KR4, KT4, 14), (KR5, KT5, 3), (KR6, KT6, 2), (KR7, KT7, 3), (KR8, KT8, 11), (KR9, KT9, 14), (KR10, KT10, 50)]
end
section
/-! THE ABSTRACT MACHINE OF THIS CLAIM: an abstract heap is a list of cells (kind, contents); kinds 0..10 are the claim's classes, 20 int[], 21 boolean[], 22 int[][]; the reference k is the place k of that list; place 0 is the static array FACTORIALS, place 1 the script. -/
abbrev HV : Type := List (Nat × List Value)
abbrev LV : Type := List Value
/-- the geometry: class numbers, slots, the array classes, the addresses of the two cells that were there, the first new address -/
abbrev GT : Type := (Nat → ClassId) × (Nat → Nat → Nat) × ClassId × ClassId × ClassId × Nat × Nat × Nat
abbrev g_D (G : GT) : va_G := (G.1, G.2.1)
abbrev g_I (G : GT) : ClassId := G.2.2.1
abbrev g_Z (G : GT) : ClassId := G.2.2.2.1
abbrev g_R (G : GT) : ClassId := G.2.2.2.2.1
abbrev g_t (G : GT) : Nat := G.2.2.2.2.2.1
abbrev g_b (G : GT) : Nat := G.2.2.2.2.2.2.1
abbrev g_base (G : GT) : Nat := G.2.2.2.2.2.2.2
def g_A (G : GT) : Nat → Prop := fun q => g_base G ≤ q
def g_mu (G : GT) (k : Nat) : Nat := if k = 0 then g_t G else if k = 1 then g_b G else g_base G + (k - 2)
theorem g_mu2 (G : GT) (k : Nat) : g_mu G (k + 2) = g_base G + k := by simp [g_mu]
def cv (G : GT) (v : Value) : Value := match v with
  | .ref k => .ref (g_mu G k)
  | w => w
theorem cv_int (G : GT) (x : Int32) : cv G (.int x) = .int x := rfl
theorem cv_long (G : GT) (x : Int64) : cv G (.long x) = .long x := rfl
theorem cv_ref (G : GT) (k : Nat) : cv G (.ref k) = .ref (g_mu G k) := rfl
theorem cv_cat (G : GT) (v : Value) : (cv G v).category = v.category := by cases v <;> rfl
def c_toI (v : Value) : Int32 := match v with
  | .int x => x
  | _ => 0
def c_toR (G : GT) (v : Value) : Option Nat := match v with
  | .ref k => some (g_mu G k)
  | _ => none
/-- an abstract cell as the kit has it -/
def cE (G : GT) (c : Nat × List Value) : va_E :=
  if c.1 = 20 then .inl (g_I G, c.2.length, .inl (fun j => c_toI (c.2.getD j .null)))
  else if c.1 = 21 then .inl (g_Z G, c.2.length, .inl (fun j => c_toI (c.2.getD j .null)))
  else if c.1 = 22 then .inl (g_R G, c.2.length, .inr (.inr (.inr (.inr (fun j => c_toR G (c.2.getD j .null))))))
  else .inr (c.1, c.2.map (cv G))
theorem cE_I (G : GT) (vs : List Value) : cE G (20, vs) = .inl (g_I G, vs.length, .inl (fun j => c_toI (vs.getD j .null))) := rfl
theorem cE_Z (G : GT) (vs : List Value) : cE G (21, vs) = .inl (g_Z G, vs.length, .inl (fun j => c_toI (vs.getD j .null))) := rfl
theorem cE_R (G : GT) (vs : List Value) : cE G (22, vs) = .inl (g_R G, vs.length, .inr (.inr (.inr (.inr (fun j => c_toR G (vs.getD j .null)))))) := rfl
theorem cE_O (G : GT) {ci : Nat} (hc : ci < 20) (vs : List Value) : cE G (ci, vs) = .inr (ci, vs.map (cv G)) := by
  unfold cE
  rw [if_neg (by show ¬ ci = 20; omega), if_neg (by show ¬ ci = 21; omega), if_neg (by show ¬ ci = 22; omega)]
/-- the cells with their addresses -/
def wsAt (G : GT) : Nat → HV → va_W
  | _, [] => []
  | k, c :: t => (g_base G + k, cE G c) :: wsAt G (k + 1) t
def wsOf (G : GT) (h : HV) : va_W := wsAt G 0 (h.drop 2)
theorem wsAt_get (G : GT) : ∀ (h : HV) (k q : Nat), (wsAt G k h)[q]? = (h[q]?).map (fun c => (g_base G + (k + q), cE G c))
  | [], k, q => by simp [wsAt]
  | c :: t, k, 0 => by simp [wsAt]
  | c :: t, k, q + 1 => by
    simp only [wsAt, List.getElem?_cons_succ]
    rw [wsAt_get G t (k + 1) q, show k + 1 + q = k + (q + 1) by omega]
theorem wsAt_set (G : GT) : ∀ (h : HV) (k q : Nat) (c : Nat × List Value), (wsAt G k h).set q (g_base G + (k + q), cE G c) = wsAt G k (h.set q c)
  | [], k, q, c => by simp [wsAt]
  | a :: t, k, 0, c => by simp [wsAt]
  | a :: t, k, q + 1, c => by
    simp only [wsAt, List.set_cons_succ]
    rw [← wsAt_set G t (k + 1) q c, show k + 1 + q = k + (q + 1) by omega]
theorem wsAt_app (G : GT) : ∀ (h : HV) (k : Nat) (c : Nat × List Value), wsAt G k (h ++ [c]) = wsAt G k h ++ [(g_base G + (k + h.length), cE G c)]
  | [], k, c => by simp [wsAt]
  | a :: t, k, c => by
    simp only [wsAt, List.cons_append, List.length_cons]
    rw [wsAt_app G t (k + 1) c, show k + 1 + t.length = k + (t.length + 1) by omega]
theorem wsOf_get (G : GT) {h : HV} {r : Nat} {c : Nat × List Value} (hr : h[r + 2]? = some c) : (wsOf G h)[r]? = some (g_base G + r, cE G c) := by
  unfold wsOf
  rw [wsAt_get, List.getElem?_drop, show 2 + r = r + 2 by omega, hr]
  simp
theorem wsOf_set (G : GT) (h : HV) (r : Nat) (c : Nat × List Value) : (wsOf G h).set r (g_base G + r, cE G c) = wsOf G (h.set (r + 2) c) := by
  unfold wsOf
  have e := wsAt_set G (h.drop 2) 0 r c
  rw [show 0 + r = r by omega] at e
  rw [e]
  congr 1
  rw [List.drop_set, if_neg (by omega), show r + 2 - 2 = r by omega]
theorem wsOf_app (G : GT) {h : HV} (h2 : 2 ≤ h.length) (c : Nat × List Value) : wsOf G (h ++ [c]) = wsOf G h ++ [(g_base G + (h.length - 2), cE G c)] := by
  unfold wsOf
  rw [List.drop_append_of_le_length h2, wsAt_app, List.length_drop]
  simp
theorem wsOf_len (G : GT) (h : HV) {k : Nat} {q : Nat × va_E} (hk : (wsOf G h)[k]? = some q) : q.1 = g_base G + k ∧ k + 2 < h.length := by
  unfold wsOf at hk
  rw [wsAt_get, Option.map_eq_some_iff] at hk
  obtain ⟨c, hc, rfl⟩ := hk
  refine ⟨by simp, ?_⟩
  have := (List.getElem?_eq_some_iff.mp hc).1
  rw [List.length_drop] at this
  omega
theorem wsOf_D (G : GT) (h : HV) : va_D (g_A G) (wsOf G h) := by
  refine ⟨fun i j p q hi hj he => ?_, fun k q hk => ?_⟩
  · have a := (wsOf_len G h hi).1
    have b := (wsOf_len G h hj).1
    omega
  · rw [(wsOf_len G h hk).1]
    exact Nat.le_add_right _ _
/-- reading and writing the abstract heap -/
def hg (h : HV) (r k : Nat) : Option Value := (h[r]?).bind fun c => c.2[k]?
def hk (h : HV) (r : Nat) : Option Nat := (h[r]?).map fun c => c.1
def hn (h : HV) (r : Nat) : Option Nat := (h[r]?).map fun c => c.2.length
def hs (h : HV) (r k : Nat) (v : Value) : HV := match h[r]? with
  | some c => h.set r (c.1, c.2.set k v)
  | none => h
def hsz : HV → Nat
  | [] => 0
  | c :: t => c.2.length + hsz t
theorem hs_len (h : HV) (r k : Nat) (v : Value) : (hs h r k v).length = h.length := by
  unfold hs; split <;> simp
theorem hsz_set : ∀ (h : HV) (r : Nat) (c c' : Nat × List Value), h[r]? = some c → c'.2.length = c.2.length → hsz (h.set r c') = hsz h
  | [], r, c, c', h1, _ => by simp at h1
  | a :: t, 0, c, c', h1, h2 => by
    simp at h1; subst h1
    simp [hsz, h2]
  | a :: t, r + 1, c, c', h1, h2 => by
    simp at h1
    simp [hsz, hsz_set t r c c' h1 h2]
theorem hsz_app : ∀ (h : HV) (c : Nat × List Value), hsz (h ++ [c]) = hsz h + c.2.length
  | [], c => by simp [hsz]
  | a :: t, c => by simp [hsz, hsz_app t c]; omega
theorem hs_sz (h : HV) (r k : Nat) (v : Value) : hsz (hs h r k v) = hsz h := by
  unfold hs; split
  · next c hc => exact hsz_set h r c _ hc (by simp)
  · rfl
theorem hg_some {h : HV} {r k : Nat} {v : Value} (e : hg h r k = some v) : ∃ c, h[r]? = some c ∧ c.2[k]? = some v := by
  unfold hg at e
  exact Option.bind_eq_some_iff.mp e
theorem hk_some {h : HV} {r k : Nat} (e : hk h r = some k) : ∃ c, h[r]? = some c ∧ c.1 = k := by
  unfold hk at e
  exact Option.map_eq_some_iff.mp e
theorem hk_cell {h : HV} {r ci : Nat} (e : hk h r = some ci) : ∃ vs, h[r]? = some (ci, vs) := by
  obtain ⟨⟨a, b⟩, h1, h2⟩ := hk_some e
  exact ⟨b, by rw [h1]; cases h2; rfl⟩
theorem hs_eq {h : HV} {r k ci : Nat} {vs : List Value} {v : Value} (e : h[r]? = some (ci, vs)) : hs h r k v = h.set r (ci, vs.set k v) := by
  unfold hs; rw [e]
theorem hg_eq {h : HV} {r k ci : Nat} {vs : List Value} (e : h[r]? = some (ci, vs)) : hg h r k = vs[k]? := by
  unfold hg; rw [e]; rfl
/-- locals: a list by slots, null where nothing is known -/
def lclr (v : Value) : Value := if v.category = 2 then .null else v
def lset : LV → Nat → Value → LV
  | [], _, _ => []
  | _ :: t, 0, v => v :: t
  | a :: t, n + 1, v => (if n = 0 then lclr a else a) :: lset t n v
def lcut : Nat → LV → LV
  | _, [] => []
  | 0, _ :: t => .null :: lcut 0 t
  | n + 1, a :: t => a :: lcut n t
theorem lset_len : ∀ (ls : LV) (i : Nat) (v : Value), (lset ls i v).length = ls.length
  | [], _, _ => rfl
  | _ :: _, 0, _ => rfl
  | a :: t, n + 1, v => by simp [lset, lset_len t n v]
theorem lcut_len : ∀ (n : Nat) (ls : LV), (lcut n ls).length = ls.length
  | _, [] => by simp [lcut]
  | 0, _ :: t => by simp [lcut, lcut_len 0 t]
  | n + 1, _ :: t => by simp [lcut, lcut_len n t]
theorem lcut_get : ∀ (n : Nat) (ls : LV) (i : Nat) (v : Value), (lcut n ls)[i]? = some v → v ≠ .null → ls[i]? = some v
  | _, [], i, v, h, _ => by simp [lcut] at h
  | 0, _ :: t, 0, v, h, hv => by simp [lcut] at h; exact absurd h.symm hv
  | 0, _ :: t, i + 1, v, h, hv => by
    simp only [lcut, List.getElem?_cons_succ] at h ⊢
    exact lcut_get 0 t i v h hv
  | n + 1, a :: t, 0, v, h, _ => by simpa [lcut] using h
  | n + 1, a :: t, i + 1, v, h, hv => by
    simp only [lcut, List.getElem?_cons_succ] at h ⊢
    exact lcut_get n t i v h hv
theorem lset_self : ∀ (ls : LV) (i : Nat) (v : Value), i < ls.length → (lset ls i v)[i]? = some v
  | [], _, _, h => by simp at h
  | _ :: _, 0, _, _ => rfl
  | a :: t, n + 1, v, h => by
    simp only [lset, List.getElem?_cons_succ]
    exact lset_self t n v (by simpa using h)
theorem lset_ne : ∀ (ls : LV) (i : Nat) (v : Value) (j : Nat) (w : Value), j ≠ i → (lset ls i v)[j]? = some w → w ≠ .null → ls[j]? = some w ∧ (j + 1 = i → w.category ≠ 2)
  | [], _, _, _, _, _, h, _ => by simp [lset] at h
  | a :: t, 0, v, 0, w, hne, _, _ => absurd rfl hne
  | a :: t, 0, v, j + 1, w, _, h, _ => by
    simp only [lset, List.getElem?_cons_succ] at h ⊢
    exact ⟨h, fun e => by omega⟩
  | a :: t, n + 1, v, 0, w, _, h, hw => by
    simp only [lset, List.getElem?_cons_zero] at h ⊢
    by_cases hn : n = 0
    · rw [if_pos hn] at h
      unfold lclr at h
      split at h
      · exact absurd (Option.some.inj h).symm hw
      · next hc => exact ⟨h, fun _ => by cases h; exact hc⟩
    · rw [if_neg hn] at h
      exact ⟨h, fun e => by omega⟩
  | a :: t, n + 1, v, j + 1, w, hne, h, hw => by
    simp only [lset, List.getElem?_cons_succ] at h ⊢
    obtain ⟨h1, h2⟩ := lset_ne t n v j w (by omega) h hw
    exact ⟨h1, fun e => h2 (by omega)⟩
/-- a machine's locals and the abstract ones -/
def asc (G : GT) (ls : LV) : List (Nat × Value) := (List.range ls.length).filterMap fun i => match ls[i]? with
  | some v => if v = .null then none else some (i, cv G v)
  | none => none
theorem asc_mem {G : GT} {ls : LV} {q : Nat × Value} : q ∈ asc G ls ↔ ∃ v, ls[q.1]? = some v ∧ v ≠ .null ∧ q.2 = cv G v := by
  unfold asc
  rw [List.mem_filterMap]
  constructor
  · rintro ⟨i, hi, h⟩
    rw [List.mem_range] at hi
    rw [List.getElem?_eq_getElem hi] at h
    simp only at h
    split at h
    · cases h
    · next hne => cases h; exact ⟨ls[i], by rw [List.getElem?_eq_getElem hi], hne, rfl⟩
  · rintro ⟨v, h1, h2, h3⟩
    refine ⟨q.1, List.mem_range.mpr (List.getElem?_eq_some_iff.mp h1).1, ?_⟩
    rw [h1]
    simp only
    rw [if_neg h2]
    rw [← h3]
def Lh (G : GT) (nL : Nat) (mls : Array Slot) (ls : LV) : Prop := ls.length = nL ∧ lv_has mls nL (asc G ls)
theorem Lh_at {G : GT} {nL : Nat} {mls : Array Slot} {ls : LV} (h : Lh G nL mls ls) {i : Nat} {v : Value} (hv : ls[i]? = some v) (hne : v ≠ .null) : mls[i]? = some (.val (cv G v)) :=
  h.2.2.2 (i, cv G v) (asc_mem.mpr ⟨v, hv, hne, rfl⟩)
theorem Lh_size {G : GT} {nL : Nat} {mls : Array Slot} {ls : LV} (h : Lh G nL mls ls) : mls.size = nL := h.2.1
theorem Lh_weak {G : GT} {nL : Nat} {mls : Array Slot} {ls ls' : LV} (h : Lh G nL mls ls) (hl : ls'.length = ls.length) (hs : ∀ (i : Nat) (v : Value), ls'[i]? = some v → v ≠ .null → ls[i]? = some v) : Lh G nL mls ls' :=
  ⟨hl.trans h.1, h.2.1, h.2.2.1, fun q hq => by
    obtain ⟨v, h1, h2, h3⟩ := asc_mem.mp hq
    exact h.2.2.2 q (asc_mem.mpr ⟨v, hs _ _ h1 h2, h2, h3⟩)⟩
theorem Lh_cut {G : GT} {nL : Nat} {mls : Array Slot} {ls : LV} (n : Nat) (h : Lh G nL mls ls) : Lh G nL mls (lcut n ls) := Lh_weak h (lcut_len n ls) (lcut_get n ls)
theorem Lh_set1 {G : GT} {nL : Nat} {mls : Array Slot} {ls : LV} {i : Nat} {v : Value} (hl : ls.length = nL) (hi : i < nL) (h : lv_has mls nL ((i, cv G v) :: (asc G ls).filter (fun q => !(q.1 == i) && !(q.1 + 1 == i && q.2.category == 2)))) : Lh G nL mls (lset ls i v) := by
  refine ⟨(lset_len ls i v).trans hl, h.1, h.2.1, fun q hq => ?_⟩
  obtain ⟨w, h1, h2, h3⟩ := asc_mem.mp hq
  by_cases e : q.1 = i
  · rw [e, lset_self ls i v (by omega)] at h1
    cases h1
    have := h.2.2 (i, cv G v) List.mem_cons_self
    rw [e, h3]; exact this
  · obtain ⟨a, b⟩ := lset_ne ls i v q.1 w e h1 h2
    refine h.2.2 q (List.mem_cons_of_mem _ (List.mem_filter.mpr ⟨asc_mem.mpr ⟨w, a, h2, h3⟩, ?_⟩))
    have hc : q.2.category = w.category := by rw [h3, cv_cat]
    simp only [Bool.and_eq_true, Bool.not_eq_true', beq_eq_false_iff_ne, ne_eq, Bool.and_eq_false_iff, hc]
    refine ⟨e, ?_⟩
    by_cases e2 : q.1 + 1 = i
    · exact Or.inr (b e2)
    · exact Or.inl e2
theorem Lh_set2 {G : GT} {nL : Nat} {mls : Array Slot} {ls : LV} {i : Nat} {v : Value} (hl : ls.length = nL) (hi : i + 1 < nL) (h : lv_has mls nL ((i, cv G v) :: (asc G ls).filter (fun q => !(q.1 == i) && (!(q.1 == i + 1) && !(q.1 + 1 == i && q.2.category == 2))))) : Lh G nL mls (lset (lset ls (i + 1) .null) i v) := by
  refine ⟨(lset_len _ i v).trans ((lset_len ls _ _).trans hl), h.1, h.2.1, fun q hq => ?_⟩
  obtain ⟨w, h1, h2, h3⟩ := asc_mem.mp hq
  by_cases e : q.1 = i
  · rw [e, lset_self _ i v (by rw [lset_len]; omega)] at h1
    cases h1
    have := h.2.2 (i, cv G v) List.mem_cons_self
    rw [e, h3]; exact this
  · obtain ⟨a, b⟩ := lset_ne _ i v q.1 w e h1 h2
    by_cases e1 : q.1 = i + 1
    · rw [e1, lset_self ls (i + 1) .null (by omega)] at a
      exact absurd (Option.some.inj a).symm h2
    · obtain ⟨a', b'⟩ := lset_ne ls (i + 1) .null q.1 w e1 a h2
      refine h.2.2 q (List.mem_cons_of_mem _ (List.mem_filter.mpr ⟨asc_mem.mpr ⟨w, a', h2, h3⟩, ?_⟩))
      have hc : q.2.category = w.category := by rw [h3, cv_cat]
      simp only [Bool.and_eq_true, Bool.not_eq_true', beq_eq_false_iff_ne, ne_eq, Bool.and_eq_false_iff, hc]
      refine ⟨e, e1, ?_⟩
      by_cases e2 : q.1 + 1 = i
      · exact Or.inr (b e2)
      · exact Or.inl e2
end
section
/-! THE JUDGEMENT wA: from this place of a method, with these locals, this stack and this abstract heap, the method comes to an end that its caller allows. -/
abbrev KT : Type := Program × Launch × Env × Room × State × MethodId × Array Value × List Frame × Method × Code × (State → Prop) × GT × Nat × Nat × Nat × String × Option FieldType × (Option Value → HV → Prop)
abbrev k_p (κ : KT) : Program := κ.1
abbrev k_l (κ : KT) : Launch := κ.2.1
abbrev k_e (κ : KT) : Env := κ.2.2.1
abbrev k_R (κ : KT) : Room := κ.2.2.2.1
abbrev k_s (κ : KT) : State := κ.2.2.2.2.1
abbrev k_m (κ : KT) : MethodId := κ.2.2.2.2.2.1
abbrev k_a (κ : KT) : Array Value := κ.2.2.2.2.2.2.1
abbrev k_b (κ : KT) : List Frame := κ.2.2.2.2.2.2.2.1
abbrev k_me (κ : KT) : Method := κ.2.2.2.2.2.2.2.2.1
abbrev k_c (κ : KT) : Code := κ.2.2.2.2.2.2.2.2.2.1
abbrev k_Q (κ : KT) : State → Prop := κ.2.2.2.2.2.2.2.2.2.2.1
abbrev k_G (κ : KT) : GT := κ.2.2.2.2.2.2.2.2.2.2.2.1
abbrev k_nL (κ : KT) : Nat := κ.2.2.2.2.2.2.2.2.2.2.2.2.1
abbrev k_n0 (κ : KT) : Nat := κ.2.2.2.2.2.2.2.2.2.2.2.2.2.1
abbrev k_t0 (κ : KT) : Nat := κ.2.2.2.2.2.2.2.2.2.2.2.2.2.2.1
abbrev k_own (κ : KT) : String := κ.2.2.2.2.2.2.2.2.2.2.2.2.2.2.2.1
abbrev k_rt (κ : KT) : Option FieldType := κ.2.2.2.2.2.2.2.2.2.2.2.2.2.2.2.2.1
abbrev k_ret (κ : KT) : Option Value → HV → Prop := κ.2.2.2.2.2.2.2.2.2.2.2.2.2.2.2.2.2
def facs : List Int32 := [1, 1, 2, 6, 24, 120, 720]
def facV : List Value := facs.map Value.int
def facF (j : Nat) : Value := .int (facs.getD j 0)
abbrev g_tys (G : GT) : List (ClassId × FieldType) := [(g_I G, .int), (g_Z G, .boolean), (g_R G, .array .int)]
/-- the world: what a real heap is when the abstract one is h -/
def Wo (G : GT) (h : HV) (H : Heap) : Prop := H.size + 2 = g_base G + h.length ∧ 2 ≤ h.length ∧ h[0]? = some (20, facV) ∧ va_P (g_D G) classes (wsOf G h) H
/-- what stays true of the tables and the statics -/
def Ta (G : GT) (s : State) (H : Heap) : Prop := va_K (g_D G) classes (g_tys G) s ∧ va_Z "PackLanes" "FACTORIALS" "[I" (.ref (g_t G)) (g_A G) s H ∧ va_T .int (g_t G) 7 facF (g_A G) s H ∧ (Cond.arrayOver (.array .int)).before #[] s = true ∧ g_base G ≤ H.size ∧ ∀ w ∈ BIGN, va_Nw w s
def Wd (κ : KT) (H : Heap) (locs : List Loc) (cells slots : Nat) (h : HV) : Prop :=
  Wo (k_G κ) h H ∧ va_S (g_A (k_G κ)) (k_s κ).heap H locs ∧ H.size = (k_s κ).heap.size + cells ∧ h.length = k_n0 κ + cells ∧ hsz h = k_t0 κ + slots ∧ cells ≤ (k_R κ).cells ∧ slots ≤ (k_R κ).slots
/-- does this instruction give this answer back, of a method with this return type -/
def retI (rt : Option FieldType) (i : Instr) (o : Option Value) : Prop := match rt with
  | none => i = .return_ ∧ o = none
  | some .long => i = .lreturn ∧ ∃ x, o = some (.long x)
  | some .int => i = .ireturn ∧ ∃ x, o = some (.int x)
  | some .boolean => i = .ireturn ∧ ∃ x : Int32, o = some (.int x) ∧ (x = 0 ∨ x = 1)
  | _ => False
abbrev kW (κ : KT) (H : Heap) (locs : List Loc) (cells slots : Nat) (pc : Nat) (mls : Array Slot) (st : List Value) : Prop :=
  W (k_p κ) (k_l κ) (k_e κ) (k_R κ) (k_s κ) (k_m κ) (k_a κ) (k_b κ) (k_me κ) (k_c κ) H locs cells slots (k_Q κ) (F0 (k_m κ) pc mls st)
def KO (cc : ByteArray) (κ : KT) : Prop :=
  (k_p κ).tables.exec = Jvm.exec ∧ (k_c κ).code = cc ∧ (k_c κ).maxLocals = k_nL κ ∧ (k_s κ).vm.findClass (k_own κ) = some (k_m κ).cls ∧ (∀ w ∈ BIG, w.before (k_a κ) (k_s κ) = true) ∧ Ta (k_G κ) (k_s κ) (k_s κ).heap ∧
  (∀ (pc : Nat) (i : Instr) (o : Option Value) (mls : Array Slot) (H : Heap) (locs : List Loc) (cells slots : Nat) (h : HV), retI (k_rt κ) i o → decode cc pc = .ok (i, 1) → Wd κ H locs cells slots h → k_ret κ o h → kW κ H locs cells slots pc mls (o.toList.map (cv (k_G κ))))
def wA (cc : ByteArray) (κ : KT) (pc : Nat) (ls st : LV) (h : HV) : Prop :=
  KO cc κ → ∀ (mls : Array Slot) (H : Heap) (locs : List Loc) (cells slots : Nat), Lh (k_G κ) (k_nL κ) mls ls → Wd κ H locs cells slots h → kW κ H locs cells slots pc mls (st.map (cv (k_G κ)))
section RU
variable {cc : ByteArray} {κ : KT} {pc : Nat} {ls st : LV} {h : HV}
theorem wA_cut (n : Nat) (k : wA cc κ pc (lcut n ls) st h) : wA cc κ pc ls st h := fun O mls H locs cells slots hL hW => k O mls H locs cells slots (Lh_cut n hL) hW
theorem r_iload_n {k : Fin 4} {i : Nat} {x : Int32} (hd : decode cc pc = .ok (.iload_n k, 1)) (hi : (k : Nat) = i) (hl : ls[i]? = some (.int x)) (kk : wA cc κ (pc + 1) ls (.int x :: st) h) : wA cc κ pc ls st h :=
  fun O mls H locs cells slots hL hW => lv_iload_n O.1 O.2.1 hd hi (Lh_at hL hl (by simp)) (kk O mls H locs cells slots hL hW)
theorem r_iload {i : Nat} {x : Int32} (hd : decode cc pc = .ok (.iload i, 2)) (hl : ls[i]? = some (.int x)) (kk : wA cc κ (pc + 2) ls (.int x :: st) h) : wA cc κ pc ls st h :=
  fun O mls H locs cells slots hL hW => lv_iload O.1 O.2.1 hd (Lh_at hL hl (by simp)) (kk O mls H locs cells slots hL hW)
theorem r_lload_n {k : Fin 4} {i : Nat} {x : Int64} (hd : decode cc pc = .ok (.lload_n k, 1)) (hi : (k : Nat) = i) (hl : ls[i]? = some (.long x)) (kk : wA cc κ (pc + 1) ls (.long x :: st) h) : wA cc κ pc ls st h :=
  fun O mls H locs cells slots hL hW => lv_lload_n O.1 O.2.1 hd hi (Lh_at hL hl (by simp)) (kk O mls H locs cells slots hL hW)
theorem r_lload {i : Nat} {x : Int64} (hd : decode cc pc = .ok (.lload i, 2)) (hl : ls[i]? = some (.long x)) (kk : wA cc κ (pc + 2) ls (.long x :: st) h) : wA cc κ pc ls st h :=
  fun O mls H locs cells slots hL hW => lv_lload O.1 O.2.1 hd (Lh_at hL hl (by simp)) (kk O mls H locs cells slots hL hW)
theorem r_aload_n {k : Fin 4} {i : Nat} {x : Nat} (hd : decode cc pc = .ok (.aload_n k, 1)) (hi : (k : Nat) = i) (hl : ls[i]? = some (.ref x)) (kk : wA cc κ (pc + 1) ls (.ref x :: st) h) : wA cc κ pc ls st h :=
  fun O mls H locs cells slots hL hW => lv_aload_n O.1 O.2.1 hd hi (Lh_at hL hl (by simp)) (kk O mls H locs cells slots hL hW)
theorem r_istore_n {k : Fin 4} {i : Nat} {x : Int32} (hd : decode cc pc = .ok (.istore_n k, 1)) (hi : (k : Nat) = i) (hn : i < ls.length) (kk : wA cc κ (pc + 1) (lset ls i (.int x)) st h) : wA cc κ pc ls (.int x :: st) h :=
  fun O mls H locs cells slots hL hW => lv_istore_n O.1 O.2.1 hd hi hL.2 (by rw [← hL.1]; exact hn) rfl fun ls' hl' => kk O ls' H locs cells slots (Lh_set1 (v := .int x) hL.1 (by rw [← hL.1]; exact hn) hl') hW
theorem r_istore {i : Nat} {x : Int32} (hd : decode cc pc = .ok (.istore i, 2)) (hn : i < ls.length) (kk : wA cc κ (pc + 2) (lset ls i (.int x)) st h) : wA cc κ pc ls (.int x :: st) h :=
  fun O mls H locs cells slots hL hW => lv_istore O.1 O.2.1 hd hL.2 (by rw [← hL.1]; exact hn) rfl fun ls' hl' => kk O ls' H locs cells slots (Lh_set1 (v := .int x) hL.1 (by rw [← hL.1]; exact hn) hl') hW
theorem r_lstore_n {k : Fin 4} {i : Nat} {x : Int64} (hd : decode cc pc = .ok (.lstore_n k, 1)) (hi : (k : Nat) = i) (hn : i + 1 < ls.length) (kk : wA cc κ (pc + 1) (lset (lset ls (i + 1) .null) i (.long x)) st h) : wA cc κ pc ls (.long x :: st) h :=
  fun O mls H locs cells slots hL hW => lv_lstore_n O.1 O.2.1 hd hi hL.2 (by rw [← hL.1]; exact hn) rfl fun ls' hl' => kk O ls' H locs cells slots (Lh_set2 (v := .long x) hL.1 (by rw [← hL.1]; exact hn) hl') hW
theorem r_lstore {i : Nat} {x : Int64} (hd : decode cc pc = .ok (.lstore i, 2)) (hn : i + 1 < ls.length) (kk : wA cc κ (pc + 2) (lset (lset ls (i + 1) .null) i (.long x)) st h) : wA cc κ pc ls (.long x :: st) h :=
  fun O mls H locs cells slots hL hW => lv_lstore O.1 O.2.1 hd hL.2 (by rw [← hL.1]; exact hn) rfl fun ls' hl' => kk O ls' H locs cells slots (Lh_set2 (v := .long x) hL.1 (by rw [← hL.1]; exact hn) hl') hW
theorem r_astore_n {k : Fin 4} {i : Nat} {x : Nat} (hd : decode cc pc = .ok (.astore_n k, 1)) (hi : (k : Nat) = i) (hn : i < ls.length) (kk : wA cc κ (pc + 1) (lset ls i (.ref x)) st h) : wA cc κ pc ls (.ref x :: st) h :=
  fun O mls H locs cells slots hL hW => lv_astore_n O.1 O.2.1 hd hi hL.2 (by rw [← hL.1]; exact hn) rfl fun ls' hl' => kk O ls' H locs cells slots (Lh_set1 (v := .ref x) hL.1 (by rw [← hL.1]; exact hn) hl') hW
theorem r_iinc {i : Nat} {n : Int} {x : Int32} (hd : decode cc pc = .ok (.iinc i n, 3)) (hl : ls[i]? = some (.int x)) (kk : wA cc κ (pc + 3) (lset ls i (.int (x + Int32.ofInt n))) st h) : wA cc κ pc ls st h :=
  fun O mls H locs cells slots hL hW => by
    have hi : i < ls.length := (List.getElem?_eq_some_iff.mp hl).1
    obtain ⟨k, hk⟩ := List.getElem?_of_mem (asc_mem.mpr ⟨_, hl, by simp, rfl⟩ : (i, cv (k_G κ) (.int x)) ∈ asc (k_G κ) ls)
    exact lv_iinc O.1 O.2.1 hd hL.2 hk rfl (by rw [← hL.1]; exact hi) rfl fun ls' hl' => kk O ls' H locs cells slots (Lh_set1 (v := .int (x + Int32.ofInt n)) hL.1 (by rw [← hL.1]; exact hi) hl') hW
theorem r_iconst {n : Int} {v : Int32} (hd : decode cc pc = .ok (.iconst n, 1)) (hv : Int32.ofInt n = v) (kk : wA cc κ (pc + 1) ls (.int v :: st) h) : wA cc κ pc ls st h :=
  fun O mls H locs cells slots hL hW => lv_iconst O.1 O.2.1 hd hv (kk O mls H locs cells slots hL hW)
theorem r_bipush {n : Int} {v : Int32} (hd : decode cc pc = .ok (.bipush n, 2)) (hv : (Int8.ofInt n).toInt32 = v) (kk : wA cc κ (pc + 2) ls (.int v :: st) h) : wA cc κ pc ls st h :=
  fun O mls H locs cells slots hL hW => lv_bipush O.1 O.2.1 hd hv (kk O mls H locs cells slots hL hW)
theorem r_sipush {n : Int} {v : Int32} (hd : decode cc pc = .ok (.sipush n, 3)) (hv : (Int16.ofInt n).toInt32 = v) (kk : wA cc κ (pc + 3) ls (.int v :: st) h) : wA cc κ pc ls st h :=
  fun O mls H locs cells slots hL hW => lv_sipush O.1 O.2.1 hd hv (kk O mls H locs cells slots hL hW)
theorem r_lconst {n : Fin 2} {v : Int64} (hd : decode cc pc = .ok (.lconst n, 1)) (hv : Int64.ofNat (n : Nat) = v) (kk : wA cc κ (pc + 1) ls (.long v :: st) h) : wA cc κ pc ls st h :=
  fun O mls H locs cells slots hL hW => lv_lconst O.1 O.2.1 hd hv (kk O mls H locs cells slots hL hW)
theorem r_ldcw {own : String} {index : Nat} {v : Int32} (ho : k_own κ = own) (hw : Cond.constant own index v ∈ BIG) (hd : decode cc pc = .ok (.ldc_w index, 3)) (kk : wA cc κ (pc + 3) ls (.int v :: st) h) : wA cc κ pc ls st h :=
  fun O mls H locs cells slots hL hW => lv_ldcw O.1 O.2.1 (by rw [← ho]; exact O.2.2.2.1) (O.2.2.2.2.1 _ hw) hd (kk O mls H locs cells slots hL hW)
theorem r_ldc2 {own : String} {index : Nat} {v : Int64} (ho : k_own κ = own) (hw : Cond.constantLong own index v ∈ BIG) (hd : decode cc pc = .ok (.ldc2_w index, 3)) (kk : wA cc κ (pc + 3) ls (.long v :: st) h) : wA cc κ pc ls st h :=
  fun O mls H locs cells slots hL hW => lv_ldc2 O.1 O.2.1 (by rw [← ho]; exact O.2.2.2.1) (O.2.2.2.2.1 _ hw) hd (kk O mls H locs cells slots hL hW)
theorem r_iadd {x y : Int32} (hd : decode cc pc = .ok (.iadd, 1)) (kk : wA cc κ (pc + 1) ls (.int (x + y) :: st) h) : wA cc κ pc ls (.int y :: .int x :: st) h := fun O mls H locs cells slots hL hW => lv_iadd O.1 O.2.1 hd (kk O mls H locs cells slots hL hW)
theorem r_isub {x y : Int32} (hd : decode cc pc = .ok (.isub, 1)) (kk : wA cc κ (pc + 1) ls (.int (x - y) :: st) h) : wA cc κ pc ls (.int y :: .int x :: st) h := fun O mls H locs cells slots hL hW => lv_isub O.1 O.2.1 hd (kk O mls H locs cells slots hL hW)
theorem r_imul {x y : Int32} (hd : decode cc pc = .ok (.imul, 1)) (kk : wA cc κ (pc + 1) ls (.int (x * y) :: st) h) : wA cc κ pc ls (.int y :: .int x :: st) h := fun O mls H locs cells slots hL hW => lv_imul O.1 O.2.1 hd (kk O mls H locs cells slots hL hW)
theorem r_iand {x y : Int32} (hd : decode cc pc = .ok (.iand, 1)) (kk : wA cc κ (pc + 1) ls (.int (x &&& y) :: st) h) : wA cc κ pc ls (.int y :: .int x :: st) h := fun O mls H locs cells slots hL hW => lv_iand O.1 O.2.1 hd (kk O mls H locs cells slots hL hW)
theorem r_ior {x y : Int32} (hd : decode cc pc = .ok (.ior, 1)) (kk : wA cc κ (pc + 1) ls (.int (x ||| y) :: st) h) : wA cc κ pc ls (.int y :: .int x :: st) h := fun O mls H locs cells slots hL hW => lv_ior O.1 O.2.1 hd (kk O mls H locs cells slots hL hW)
theorem r_ixor {x y : Int32} (hd : decode cc pc = .ok (.ixor, 1)) (kk : wA cc κ (pc + 1) ls (.int (x ^^^ y) :: st) h) : wA cc κ pc ls (.int y :: .int x :: st) h := fun O mls H locs cells slots hL hW => lv_ixor O.1 O.2.1 hd (kk O mls H locs cells slots hL hW)
theorem r_ishl {x y : Int32} (hd : decode cc pc = .ok (.ishl, 1)) (kk : wA cc κ (pc + 1) ls (.int (x <<< (y &&& 31)) :: st) h) : wA cc κ pc ls (.int y :: .int x :: st) h := fun O mls H locs cells slots hL hW => lv_ishl O.1 O.2.1 hd (kk O mls H locs cells slots hL hW)
theorem r_ishr {x y : Int32} (hd : decode cc pc = .ok (.ishr, 1)) (kk : wA cc κ (pc + 1) ls (.int (x >>> (y &&& 31)) :: st) h) : wA cc κ pc ls (.int y :: .int x :: st) h := fun O mls H locs cells slots hL hW => lv_ishr O.1 O.2.1 hd (kk O mls H locs cells slots hL hW)
theorem r_iushr {x y : Int32} (hd : decode cc pc = .ok (.iushr, 1)) (kk : wA cc κ (pc + 1) ls (.int (x.toUInt32 >>> (y.toUInt32 &&& Int32.toUInt32 31)).toInt32 :: st) h) : wA cc κ pc ls (.int y :: .int x :: st) h := fun O mls H locs cells slots hL hW => lv_iushr O.1 O.2.1 hd rfl (kk O mls H locs cells slots hL hW)
theorem r_ineg {x : Int32} (hd : decode cc pc = .ok (.ineg, 1)) (kk : wA cc κ (pc + 1) ls (.int (-x) :: st) h) : wA cc κ pc ls (.int x :: st) h := fun O mls H locs cells slots hL hW => lv_ineg O.1 O.2.1 hd (kk O mls H locs cells slots hL hW)
theorem r_idiv {x y : Int32} (hd : decode cc pc = .ok (.idiv, 1)) (hne : ¬ y = 0) (kk : wA cc κ (pc + 1) ls (.int (x / y) :: st) h) : wA cc κ pc ls (.int y :: .int x :: st) h := fun O mls H locs cells slots hL hW => lv_idiv O.1 O.2.1 hd hne (kk O mls H locs cells slots hL hW)
theorem r_irem {x y : Int32} (hd : decode cc pc = .ok (.irem, 1)) (hne : ¬ y = 0) (kk : wA cc κ (pc + 1) ls (.int (x - x / y * y) :: st) h) : wA cc κ pc ls (.int y :: .int x :: st) h := fun O mls H locs cells slots hL hW => lv_irem O.1 O.2.1 hd hne (kk O mls H locs cells slots hL hW)
theorem r_ladd {x y : Int64} (hd : decode cc pc = .ok (.ladd, 1)) (kk : wA cc κ (pc + 1) ls (.long (x + y) :: st) h) : wA cc κ pc ls (.long y :: .long x :: st) h := fun O mls H locs cells slots hL hW => lv_ladd O.1 O.2.1 hd (kk O mls H locs cells slots hL hW)
theorem r_lsub {x y : Int64} (hd : decode cc pc = .ok (.lsub, 1)) (kk : wA cc κ (pc + 1) ls (.long (x - y) :: st) h) : wA cc κ pc ls (.long y :: .long x :: st) h := fun O mls H locs cells slots hL hW => lv_lsub O.1 O.2.1 hd (kk O mls H locs cells slots hL hW)
theorem r_lmul {x y : Int64} (hd : decode cc pc = .ok (.lmul, 1)) (kk : wA cc κ (pc + 1) ls (.long (x * y) :: st) h) : wA cc κ pc ls (.long y :: .long x :: st) h := fun O mls H locs cells slots hL hW => lv_lmul O.1 O.2.1 hd (kk O mls H locs cells slots hL hW)
theorem r_land {x y : Int64} (hd : decode cc pc = .ok (.land, 1)) (kk : wA cc κ (pc + 1) ls (.long (x &&& y) :: st) h) : wA cc κ pc ls (.long y :: .long x :: st) h := fun O mls H locs cells slots hL hW => lv_land O.1 O.2.1 hd (kk O mls H locs cells slots hL hW)
theorem r_lor {x y : Int64} (hd : decode cc pc = .ok (.lor, 1)) (kk : wA cc κ (pc + 1) ls (.long (x ||| y) :: st) h) : wA cc κ pc ls (.long y :: .long x :: st) h := fun O mls H locs cells slots hL hW => lv_lor O.1 O.2.1 hd (kk O mls H locs cells slots hL hW)
theorem r_ldiv {x y : Int64} (hd : decode cc pc = .ok (.ldiv, 1)) (hne : ¬ y = 0) (kk : wA cc κ (pc + 1) ls (.long (x / y) :: st) h) : wA cc κ pc ls (.long y :: .long x :: st) h := fun O mls H locs cells slots hL hW => lv_ldiv O.1 O.2.1 hd hne (kk O mls H locs cells slots hL hW)
theorem r_lrem {x y : Int64} (hd : decode cc pc = .ok (.lrem, 1)) (hne : ¬ y = 0) (kk : wA cc κ (pc + 1) ls (.long (x - x / y * y) :: st) h) : wA cc κ pc ls (.long y :: .long x :: st) h := fun O mls H locs cells slots hL hW => lv_lrem O.1 O.2.1 hd hne (kk O mls H locs cells slots hL hW)
theorem r_lshl {x : Int64} {y : Int32} (hd : decode cc pc = .ok (.lshl, 1)) (kk : wA cc κ (pc + 1) ls (.long (x <<< (y.toInt64 &&& 63)) :: st) h) : wA cc κ pc ls (.int y :: .long x :: st) h := fun O mls H locs cells slots hL hW => lv_lshl O.1 O.2.1 hd rfl (kk O mls H locs cells slots hL hW)
theorem r_lushr {x : Int64} {y : Int32} (hd : decode cc pc = .ok (.lushr, 1)) (kk : wA cc κ (pc + 1) ls (.long (x.toUInt64 >>> (y.toInt64.toUInt64 &&& Int64.toUInt64 63)).toInt64 :: st) h) : wA cc κ pc ls (.int y :: .long x :: st) h := fun O mls H locs cells slots hL hW => lv_lushr O.1 O.2.1 hd rfl (kk O mls H locs cells slots hL hW)
theorem r_lcmp {x y : Int64} (hd : decode cc pc = .ok (.lcmp, 1)) (kk : wA cc κ (pc + 1) ls (.int (lg_cmp x y) :: st) h) : wA cc κ pc ls (.long y :: .long x :: st) h := fun O mls H locs cells slots hL hW => W.lcmp O.1 O.2.1 hd (kk O mls H locs cells slots hL hW)
theorem r_i2l {x : Int32} (hd : decode cc pc = .ok (.i2l, 1)) (kk : wA cc κ (pc + 1) ls (.long x.toInt64 :: st) h) : wA cc κ pc ls (.int x :: st) h := fun O mls H locs cells slots hL hW => lv_i2l O.1 O.2.1 hd rfl (kk O mls H locs cells slots hL hW)
theorem r_l2i {x : Int64} (hd : decode cc pc = .ok (.l2i, 1)) (kk : wA cc κ (pc + 1) ls (.int x.toInt32 :: st) h) : wA cc κ pc ls (.long x :: st) h := fun O mls H locs cells slots hL hW => lv_l2i O.1 O.2.1 hd rfl (kk O mls H locs cells slots hL hW)
theorem r_dup {v : Value} (hd : decode cc pc = .ok (.dup, 1)) (hv : v.category = 1) (kk : wA cc κ (pc + 1) ls (v :: v :: st) h) : wA cc κ pc ls (v :: st) h := fun O mls H locs cells slots hL hW => lv_dup O.1 O.2.1 hd (by rw [cv_cat]; exact hv) (kk O mls H locs cells slots hL hW)
theorem r_dup2 {v w : Value} (hd : decode cc pc = .ok (.dup2, 1)) (hv : v.category = 1) (hw : w.category = 1) (kk : wA cc κ (pc + 1) ls (v :: w :: v :: w :: st) h) : wA cc κ pc ls (v :: w :: st) h := fun O mls H locs cells slots hL hW => lv_dup2_11 O.1 O.2.1 hd (by rw [cv_cat]; exact hv) (by rw [cv_cat]; exact hw) (kk O mls H locs cells slots hL hW)
theorem r_pop {v : Value} (hd : decode cc pc = .ok (.pop, 1)) (hv : v.category = 1) (kk : wA cc κ (pc + 1) ls st h) : wA cc κ pc ls (v :: st) h := fun O mls H locs cells slots hL hW => lv_pop O.1 O.2.1 hd (by rw [cv_cat]; exact hv) (kk O mls H locs cells slots hL hW)
theorem r_goto {off : Int} {tgt : Nat} (hd : decode cc pc = .ok (.goto off, 3)) (ht : (pc : Int) + off = (tgt : Int)) (kk : wA cc κ tgt ls st h) : wA cc κ pc ls st h := fun O mls H locs cells slots hL hW => lv_goto O.1 O.2.1 hd ht (kk O mls H locs cells slots hL hW)
theorem r_if_eq {x : Int32} {off : Int} {tgt : Nat} (hd : decode cc pc = .ok (.ifCond .eq off, 3)) (ht : (pc : Int) + off = (tgt : Int)) (kt : x = 0 → wA cc κ tgt ls st h) (kf : ¬ x = 0 → wA cc κ (pc + 3) ls st h) : wA cc κ pc ls (.int x :: st) h := fun O mls H locs cells slots hL hW => lv_if_eq O.1 O.2.1 hd ht (fun q => kt q O mls H locs cells slots hL hW) (fun q => kf q O mls H locs cells slots hL hW)
theorem r_if_ne {x : Int32} {off : Int} {tgt : Nat} (hd : decode cc pc = .ok (.ifCond .ne off, 3)) (ht : (pc : Int) + off = (tgt : Int)) (kt : ¬ x = 0 → wA cc κ tgt ls st h) (kf : x = 0 → wA cc κ (pc + 3) ls st h) : wA cc κ pc ls (.int x :: st) h := fun O mls H locs cells slots hL hW => lv_if_ne O.1 O.2.1 hd ht (fun q => kt q O mls H locs cells slots hL hW) (fun q => kf q O mls H locs cells slots hL hW)
theorem r_if_lt {x : Int32} {off : Int} {tgt : Nat} (hd : decode cc pc = .ok (.ifCond .lt off, 3)) (ht : (pc : Int) + off = (tgt : Int)) (kt : x < 0 → wA cc κ tgt ls st h) (kf : ¬ x < 0 → wA cc κ (pc + 3) ls st h) : wA cc κ pc ls (.int x :: st) h := fun O mls H locs cells slots hL hW => lv_if_lt O.1 O.2.1 hd ht (fun q => kt q O mls H locs cells slots hL hW) (fun q => kf q O mls H locs cells slots hL hW)
theorem r_if_ge {x : Int32} {off : Int} {tgt : Nat} (hd : decode cc pc = .ok (.ifCond .ge off, 3)) (ht : (pc : Int) + off = (tgt : Int)) (kt : 0 ≤ x → wA cc κ tgt ls st h) (kf : ¬ 0 ≤ x → wA cc κ (pc + 3) ls st h) : wA cc κ pc ls (.int x :: st) h := fun O mls H locs cells slots hL hW => lv_if_ge O.1 O.2.1 hd ht (fun q => kt q O mls H locs cells slots hL hW) (fun q => kf q O mls H locs cells slots hL hW)
theorem r_if_gt {x : Int32} {off : Int} {tgt : Nat} (hd : decode cc pc = .ok (.ifCond .gt off, 3)) (ht : (pc : Int) + off = (tgt : Int)) (kt : 0 < x → wA cc κ tgt ls st h) (kf : ¬ 0 < x → wA cc κ (pc + 3) ls st h) : wA cc κ pc ls (.int x :: st) h := fun O mls H locs cells slots hL hW => lv_if_gt O.1 O.2.1 hd ht (fun q => kt q O mls H locs cells slots hL hW) (fun q => kf q O mls H locs cells slots hL hW)
theorem r_if_le {x : Int32} {off : Int} {tgt : Nat} (hd : decode cc pc = .ok (.ifCond .le off, 3)) (ht : (pc : Int) + off = (tgt : Int)) (kt : x ≤ 0 → wA cc κ tgt ls st h) (kf : ¬ x ≤ 0 → wA cc κ (pc + 3) ls st h) : wA cc κ pc ls (.int x :: st) h := fun O mls H locs cells slots hL hW => lv_if_le O.1 O.2.1 hd ht (fun q => kt q O mls H locs cells slots hL hW) (fun q => kf q O mls H locs cells slots hL hW)
theorem r_ic_eq {x y : Int32} {off : Int} {tgt : Nat} (hd : decode cc pc = .ok (.if_icmp .eq off, 3)) (ht : (pc : Int) + off = (tgt : Int)) (kt : x = y → wA cc κ tgt ls st h) (kf : ¬ x = y → wA cc κ (pc + 3) ls st h) : wA cc κ pc ls (.int y :: .int x :: st) h := fun O mls H locs cells slots hL hW => lv_icmp_eq O.1 O.2.1 hd ht (fun q => kt q O mls H locs cells slots hL hW) (fun q => kf q O mls H locs cells slots hL hW)
theorem r_ic_ne {x y : Int32} {off : Int} {tgt : Nat} (hd : decode cc pc = .ok (.if_icmp .ne off, 3)) (ht : (pc : Int) + off = (tgt : Int)) (kt : ¬ x = y → wA cc κ tgt ls st h) (kf : x = y → wA cc κ (pc + 3) ls st h) : wA cc κ pc ls (.int y :: .int x :: st) h := fun O mls H locs cells slots hL hW => lv_icmp_ne O.1 O.2.1 hd ht (fun q => kt q O mls H locs cells slots hL hW) (fun q => kf q O mls H locs cells slots hL hW)
theorem r_ic_lt {x y : Int32} {off : Int} {tgt : Nat} (hd : decode cc pc = .ok (.if_icmp .lt off, 3)) (ht : (pc : Int) + off = (tgt : Int)) (kt : x < y → wA cc κ tgt ls st h) (kf : ¬ x < y → wA cc κ (pc + 3) ls st h) : wA cc κ pc ls (.int y :: .int x :: st) h := fun O mls H locs cells slots hL hW => lv_icmp_lt O.1 O.2.1 hd ht (fun q => kt q O mls H locs cells slots hL hW) (fun q => kf q O mls H locs cells slots hL hW)
theorem r_ic_ge {x y : Int32} {off : Int} {tgt : Nat} (hd : decode cc pc = .ok (.if_icmp .ge off, 3)) (ht : (pc : Int) + off = (tgt : Int)) (kt : y ≤ x → wA cc κ tgt ls st h) (kf : ¬ y ≤ x → wA cc κ (pc + 3) ls st h) : wA cc κ pc ls (.int y :: .int x :: st) h := fun O mls H locs cells slots hL hW => lv_icmp_ge O.1 O.2.1 hd ht (fun q => kt q O mls H locs cells slots hL hW) (fun q => kf q O mls H locs cells slots hL hW)
theorem r_ic_gt {x y : Int32} {off : Int} {tgt : Nat} (hd : decode cc pc = .ok (.if_icmp .gt off, 3)) (ht : (pc : Int) + off = (tgt : Int)) (kt : y < x → wA cc κ tgt ls st h) (kf : ¬ y < x → wA cc κ (pc + 3) ls st h) : wA cc κ pc ls (.int y :: .int x :: st) h := fun O mls H locs cells slots hL hW => lv_icmp_gt O.1 O.2.1 hd ht (fun q => kt q O mls H locs cells slots hL hW) (fun q => kf q O mls H locs cells slots hL hW)
theorem r_ic_le {x y : Int32} {off : Int} {tgt : Nat} (hd : decode cc pc = .ok (.if_icmp .le off, 3)) (ht : (pc : Int) + off = (tgt : Int)) (kt : x ≤ y → wA cc κ tgt ls st h) (kf : ¬ x ≤ y → wA cc κ (pc + 3) ls st h) : wA cc κ pc ls (.int y :: .int x :: st) h := fun O mls H locs cells slots hL hW => lv_icmp_le O.1 O.2.1 hd ht (fun q => kt q O mls H locs cells slots hL hW) (fun q => kf q O mls H locs cells slots hL hW)
/-- a field by its link: of the class ci, its place k, its type, is it final -/
def FldOK (own : String) (index ci k : Nat) (ty : FieldType) (fin : Nat) : Prop :=
  ∃ (C : String) (T : u_T) (N : Nat) (ty0 : Nat → FieldType), ci < 20 ∧ classes[ci]? = some (C, T, N) ∧ k < N ∧ (∀ w ∈ u_ws C T N, w ∈ BIG) ∧ (∀ k, k < N → parseFieldDescriptor (T k).2.2.1 = some (ty0 k)) ∧ (∀ a, a < N → ∀ b, b < N → a ≠ b → (T a).2.1 ≠ (T b).2.1) ∧
    Cond.fieldLink own index (T k).1 (T k).2.1 (T k).2.2.1 ∈ BIG ∧ parseFieldDescriptor (T k).2.2.1 = some ty ∧ (fin = 0 → (T k).2.2.2 = false) ∧ (fin = 1 → (T k).2.2.2 = true ∧ (T k).1 = own)
theorem kW_size {H : Heap} {locs : List Loc} {cells slots pc : Nat} {mls : Array Slot} {st : List Value} (k : H.size ≤ (k_s κ).heap.size + cells → kW κ H locs cells slots pc mls st) : kW κ H locs cells slots pc mls st :=
  fun T hT X => k (by rw [← hT]; exact X.heapSize) T hT X
theorem va_S.start {A : Nat → Prop} {H0 H : Heap} {locs : List Loc} (h : va_S A H0 H locs) : va_S A H H locs := ⟨Nat.le_refl _, fun _ _ _ => rfl, h.2.2⟩
theorem va_S.go {A : Nat → Prop} {H0 H H1 : Heap} {locs locs1 : List Loc} (h : va_S A H0 H locs) (h1 : va_S A H H1 locs1) : va_S A H0 H1 locs1 :=
  ⟨Nat.le_trans h.1 h1.1, fun q a b => by rw [h1.2.1 q (Nat.lt_of_lt_of_le a h.1) b]; exact h.2.1 q a b, h1.2.2⟩
theorem hs_get0 {h : HV} {r k : Nat} {v : Value} (hr : r ≠ 0) : (hs h r k v)[0]? = h[0]? := by
  unfold hs; split
  · rw [List.getElem?_set_ne hr]
  · rfl
/-- behind a write to one cell -/
theorem Wd_hs {H H1 : Heap} {locs locs1 : List Loc} {cells slots r k ci : Nat} {vs : List Value} {v : Value} (hW : Wd κ H locs cells slots h) (hr : h[r + 2]? = some (ci, vs)) (hP : va_P (g_D (k_G κ)) classes ((wsOf (k_G κ) h).set r (g_base (k_G κ) + r, cE (k_G κ) (ci, vs.set k v))) H1)
    (hS : va_S (g_A (k_G κ)) H H1 locs1) (hz : H1.size ≤ (k_s κ).heap.size + cells) : Wd κ H1 locs1 cells slots (hs h (r + 2) k v) := by
  obtain ⟨⟨w1, w2, w3, w4⟩, w5, w6, w7, w8, w9, w10⟩ := hW
  have e : H1.size = H.size := Nat.le_antisymm (by rw [w6]; exact hz) hS.1
  refine ⟨⟨by rw [hs_len, e]; exact w1, by rw [hs_len]; exact w2, by rw [hs_get0 (by omega)]; exact w3, ?_⟩, w5.go hS, by rw [e]; exact w6, by rw [hs_len]; exact w7, by rw [hs_sz]; exact w8, w9, w10⟩
  rw [hs_eq hr, ← wsOf_set]
  exact hP
theorem two_of {H : Heap} {locs : List Loc} {cells slots r ci : Nat} (hW : Wd κ H locs cells slots h) (hr : hk h r = some ci) (hc : ci < 20) (h1 : r ≠ 1) : ∃ q, r = q + 2 := by
  rcases r with _ | _ | q
  · obtain ⟨vs, e⟩ := hk_cell hr
    have e2 := hW.1.2.2.1
    rw [e] at e2
    cases e2
    omega
  · exact absurd rfl h1
  · exact ⟨q, rfl⟩
theorem r_get {own : String} {index ci k : Nat} {ty : FieldType} {fin : Nat} {r : Nat} {v : Value} (hF : FldOK own index ci k ty fin) (ho : k_own κ = own) (h1 : r ≠ 1) (hr : hk h r = some ci) (hv : hg h r k = some v) (hd : decode cc pc = .ok (.getfield index, 3)) (kk : wA cc κ (pc + 3) ls (v :: st) h) : wA cc κ pc ls (.ref r :: st) h := by
  intro O mls H locs cells slots hL hW
  obtain ⟨C, T, N, ty0, f1, f2, f3, f4, f5, f6, f7, f8, f9, f10⟩ := hF
  obtain ⟨q, rfl⟩ := two_of hW hr f1 h1
  obtain ⟨vs, e⟩ := hk_cell hr
  rw [hg_eq e] at hv
  have hw := wsOf_get (k_G κ) e
  rw [cE_O _ f1] at hw
  show kW κ H locs cells slots pc mls (.ref (g_mu (k_G κ) (q + 2)) :: st.map (cv (k_G κ)))
  rw [g_mu2]
  exact va_get O.1 O.2.1 O.2.2.2.2.1 f4 (by rw [← ho]; exact O.2.2.2.1) O.2.2.2.2.2.1.1 hW.1.2.2.2 q hw f2 k f3 (O.2.2.2.2.1 _ f7) (fun _ h9 => h9) (v := cv (k_G κ) v) (by rw [List.getElem?_map, hv]; rfl) hd (kk O mls H locs cells slots hL hW)
theorem r_put {own : String} {index ci k : Nat} {ty : FieldType} {r : Nat} {v w : Value} (hF : FldOK own index ci k ty 0) (ho : k_own κ = own) (h1 : r ≠ 1) (hr : hk h r = some ci) (hv : hg h r k = some w) (hn : narrow ty (cv (k_G κ) v) = cv (k_G κ) v) (hf : fits ty (cv (k_G κ) v) = true) (hd : decode cc pc = .ok (.putfield index, 3)) (kk : wA cc κ (pc + 3) ls st (hs h r k v)) : wA cc κ pc ls (v :: .ref r :: st) h := by
  intro O mls H locs cells slots hL hW
  obtain ⟨C, T, N, ty0, f1, f2, f3, f4, f5, f6, f7, f8, f9, f10⟩ := hF
  obtain ⟨q, rfl⟩ := two_of hW hr f1 h1
  obtain ⟨vs, e⟩ := hk_cell hr
  rw [hg_eq e] at hv
  have hw := wsOf_get (k_G κ) e
  rw [cE_O _ f1] at hw
  show kW κ H locs cells slots pc mls (cv (k_G κ) v :: .ref (g_mu (k_G κ) (q + 2)) :: st.map (cv (k_G κ)))
  rw [g_mu2]
  refine va_put (v := cv (k_G κ) v) O.1 O.2.1 O.2.2.2.2.1 f4 ty0 f5 f6 (by rw [← ho]; exact O.2.2.2.1) O.2.2.2.2.2.1.1 hW.1.2.2.2 (wsOf_D _ h) hW.2.1.start q hw f2 k f3 (O.2.2.2.2.1 _ f7) (fun _ h9 => h9) (f9 rfl) f8 hn hf (by rw [List.length_map]; exact (List.getElem?_eq_some_iff.mp hv).1) hd (fun H1 locs1 hP hD hS => ?_)
  refine kW_size fun hz => kk O mls H1 locs1 cells slots hL (Wd_hs hW e ?_ hS hz)
  rw [cE_O _ f1, List.map_set]
  exact hP
theorem r_putF {own : String} {index ci k : Nat} {ty : FieldType} {r : Nat} {v w : Value} (hF : FldOK own index ci k ty 1) (ho : k_own κ = own) (h1 : r ≠ 1) (hi : KO cc κ → (k_me κ).name = "<init>") (hr : hk h r = some ci) (hv : hg h r k = some w) (hn : narrow ty (cv (k_G κ) v) = cv (k_G κ) v) (hf : fits ty (cv (k_G κ) v) = true) (hd : decode cc pc = .ok (.putfield index, 3)) (kk : wA cc κ (pc + 3) ls st (hs h r k v)) : wA cc κ pc ls (v :: .ref r :: st) h := by
  intro O mls H locs cells slots hL hW
  obtain ⟨C, T, N, ty0, f1, f2, f3, f4, f5, f6, f7, f8, f9, f10⟩ := hF
  obtain ⟨q, rfl⟩ := two_of hW hr f1 h1
  obtain ⟨vs, e⟩ := hk_cell hr
  rw [hg_eq e] at hv
  have hw := wsOf_get (k_G κ) e
  rw [cE_O _ f1] at hw
  have hi2 := hi O
  show kW κ H locs cells slots pc mls (cv (k_G κ) v :: .ref (g_mu (k_G κ) (q + 2)) :: st.map (cv (k_G κ)))
  rw [g_mu2]
  refine va_putF (v := cv (k_G κ) v) O.1 O.2.1 O.2.2.2.2.1 f4 ty0 f5 f6 (by rw [← ho]; exact O.2.2.2.1) O.2.2.2.2.2.1.1 hW.1.2.2.2 (wsOf_D _ h) hW.2.1.start q hw f2 k f3 (O.2.2.2.2.1 _ f7) (fun _ h9 => h9) (f10 rfl).1 hi2 (f10 rfl).2 f8 hn hf (by rw [List.length_map]; exact (List.getElem?_eq_some_iff.mp hv).1) hd (fun H1 locs1 hP hD hS => ?_)
  refine kW_size fun hz => kk O mls H1 locs1 cells slots hL (Wd_hs hW e ?_ hS hz)
  rw [cE_O _ f1, List.map_set]
  exact hP
/-- the one field that is read by a nest mate -/
theorem r_getN {own C : String} {T : u_T} {N index ci k : Nat} {host : String} {r : Nat} {v : Value} (f1 : ci < 20) (f2 : classes[ci]? = some (C, T, N)) (f3 : k < N) (f4 : ∀ w ∈ u_ws C T N, w ∈ BIG) (f7 : Cond.fieldLinkNest own index (T k).1 (T k).2.1 (T k).2.2.1 host ∈ BIGN) (ho : k_own κ = own) (h1 : r ≠ 1) (hr : hk h r = some ci) (hv : hg h r k = some v) (hd : decode cc pc = .ok (.getfield index, 3)) (kk : wA cc κ (pc + 3) ls (v :: st) h) : wA cc κ pc ls (.ref r :: st) h := by
  intro O mls H locs cells slots hL hW
  obtain ⟨q, rfl⟩ := two_of hW hr f1 h1
  obtain ⟨vs, e⟩ := hk_cell hr
  rw [hg_eq e] at hv
  have hw := wsOf_get (k_G κ) e
  rw [cE_O _ f1] at hw
  show kW κ H locs cells slots pc mls (.ref (g_mu (k_G κ) (q + 2)) :: st.map (cv (k_G κ)))
  rw [g_mu2]
  exact va_getN O.1 O.2.1 O.2.2.2.2.1 f4 (by rw [← ho]; exact O.2.2.2.1) O.2.2.2.2.2.1.1 hW.1.2.2.2 q hw f2 k f3 (va_Nw.use rfl (O.2.2.2.2.2.1.2.2.2.2.2 _ f7)) (fun _ h9 => h9) (v := cv (k_G κ) v) (by rw [List.getElem?_map, hv]; rfl) hd (kk O mls H locs cells slots hL hW)
theorem in_of {vs : List Value} {j : Int32} {x : Value} (h0 : 0 ≤ j) (hv : vs[j.toNatClampNeg]? = some x) : vp_in j vs.length := by
  rintro (q | q)
  · exact absurd q (Int32.not_lt.mpr h0)
  · have := (List.getElem?_eq_some_iff.mp hv).1
    omega
theorem r_iald {r : Nat} {j x : Int32} (h1 : r ≠ 1) (hr : hk h r = some 20) (h0 : 0 ≤ j) (hv : hg h r j.toNatClampNeg = some (.int x)) (hd : decode cc pc = .ok (.iaload, 1)) (kk : wA cc κ (pc + 1) ls (.int x :: st) h) : wA cc κ pc ls (.int j :: .ref r :: st) h := by
  intro O mls H locs cells slots hL hW
  obtain ⟨vs, e⟩ := hk_cell hr
  rw [hg_eq e] at hv
  rcases r with _ | _ | q
  · have e2 := hW.1.2.2.1
    rw [e] at e2
    cases e2
    refine va_ti O.1 O.2.1 O.2.2.2.2.2.1.2.2.1 hW.2.1 (i := j) (in_of h0 hv) (v := .int x) ?_ hd (kk O mls H locs cells slots hL hW)
    unfold facV at hv
    rw [List.getElem?_map] at hv
    obtain ⟨y, a, b⟩ := Option.map_eq_some_iff.mp hv
    unfold facF
    rw [List.getD_eq_getElem?_getD, a]
    exact b
  · exact absurd rfl h1
  · have hw := wsOf_get (k_G κ) e
    rw [cE_I] at hw
    show kW κ H locs cells slots pc mls (.int j :: .ref (g_mu (k_G κ) (q + 2)) :: st.map (cv (k_G κ)))
    rw [g_mu2]
    refine va_iald O.1 O.2.1 O.2.2.2.2.2.1.1 hW.1.2.2.2 q 0 hw rfl (in_of h0 hv) hd ?_
    rw [List.getD_eq_getElem?_getD, hv]
    exact kk O mls H locs cells slots hL hW
theorem upd_toI {vs : List Value} {k : Nat} {x : Int32} (hk : k < vs.length) : (fun j => c_toI ((vs.set k (.int x)).getD j .null)) = upd (fun j => c_toI (vs.getD j .null)) k x := by
  funext j
  show c_toI ((vs.set k (.int x)).getD j .null) = if j = k then x else c_toI (vs.getD j .null)
  rw [List.getD_eq_getElem?_getD, List.getD_eq_getElem?_getD, List.getElem?_set]
  by_cases e : j = k
  · subst e
    simp [hk, c_toI]
  · simp [e, Ne.symm e]
theorem r_iast {r : Nat} {j x : Int32} {w : Value} (h1 : 2 ≤ r) (hr : hk h r = some 20) (h0 : 0 ≤ j) (hv : hg h r j.toNatClampNeg = some w) (hd : decode cc pc = .ok (.iastore, 1)) (kk : wA cc κ (pc + 1) ls st (hs h r j.toNatClampNeg (.int x))) : wA cc κ pc ls (.int x :: .int j :: .ref r :: st) h := by
  intro O mls H locs cells slots hL hW
  obtain ⟨vs, e⟩ := hk_cell hr
  rw [hg_eq e] at hv
  obtain ⟨q, rfl⟩ : ∃ q, r = q + 2 := ⟨r - 2, by omega⟩
  have hw := wsOf_get (k_G κ) e
  rw [cE_I] at hw
  show kW κ H locs cells slots pc mls (.int x :: .int j :: .ref (g_mu (k_G κ) (q + 2)) :: st.map (cv (k_G κ)))
  rw [g_mu2]
  refine va_iast O.1 O.2.1 O.2.2.2.2.2.1.1 hW.1.2.2.2 (wsOf_D _ h) hW.2.1.start q 0 hw rfl (in_of h0 hv) hd (fun H1 locs1 hP hD hS => ?_)
  refine kW_size fun hz => kk O mls H1 locs1 cells slots hL (Wd_hs hW e ?_ hS hz)
  rw [cE_I, List.length_set, upd_toI (List.getElem?_eq_some_iff.mp hv).1]
  exact hP
theorem r_zald {r : Nat} {j x : Int32} (h1 : 2 ≤ r) (hr : hk h r = some 21) (h0 : 0 ≤ j) (hv : hg h r j.toNatClampNeg = some (.int x)) (hd : decode cc pc = .ok (.baload, 1)) (kk : wA cc κ (pc + 1) ls (.int x :: st) h) : wA cc κ pc ls (.int j :: .ref r :: st) h := by
  intro O mls H locs cells slots hL hW
  obtain ⟨vs, e⟩ := hk_cell hr
  rw [hg_eq e] at hv
  obtain ⟨q, rfl⟩ : ∃ q, r = q + 2 := ⟨r - 2, by omega⟩
  have hw := wsOf_get (k_G κ) e
  rw [cE_Z] at hw
  show kW κ H locs cells slots pc mls (.int j :: .ref (g_mu (k_G κ) (q + 2)) :: st.map (cv (k_G κ)))
  rw [g_mu2]
  refine va_zald O.1 O.2.1 O.2.2.2.2.2.1.1 hW.1.2.2.2 q 1 hw rfl (in_of h0 hv) hd ?_
  rw [List.getD_eq_getElem?_getD, hv]
  exact kk O mls H locs cells slots hL hW
theorem r_zast {r : Nat} {j x : Int32} {w : Value} (h1 : 2 ≤ r) (hr : hk h r = some 21) (h0 : 0 ≤ j) (hx : x = 0 ∨ x = 1) (hv : hg h r j.toNatClampNeg = some w) (hd : decode cc pc = .ok (.bastore, 1)) (kk : wA cc κ (pc + 1) ls st (hs h r j.toNatClampNeg (.int x))) : wA cc κ pc ls (.int x :: .int j :: .ref r :: st) h := by
  intro O mls H locs cells slots hL hW
  obtain ⟨vs, e⟩ := hk_cell hr
  rw [hg_eq e] at hv
  obtain ⟨q, rfl⟩ : ∃ q, r = q + 2 := ⟨r - 2, by omega⟩
  have hw := wsOf_get (k_G κ) e
  rw [cE_Z] at hw
  show kW κ H locs cells slots pc mls (.int x :: .int j :: .ref (g_mu (k_G κ) (q + 2)) :: st.map (cv (k_G κ)))
  rw [g_mu2]
  refine va_zast O.1 O.2.1 O.2.2.2.2.2.1.1 hW.1.2.2.2 (wsOf_D _ h) hW.2.1.start q 1 hw rfl (in_of h0 hv) hd (fun H1 locs1 hP hD hS => ?_)
  refine kW_size fun hz => kk O mls H1 locs1 cells slots hL (Wd_hs hW e ?_ hS hz)
  rw [cE_Z, List.length_set, upd_toI (List.getElem?_eq_some_iff.mp hv).1]
  have en : vp_nar .boolean x = x := by rcases hx with rfl | rfl <;> rfl
  rw [en] at hP
  exact hP
theorem r_aald {r y : Nat} {j : Int32} (h1 : 2 ≤ r) (hr : hk h r = some 22) (h0 : 0 ≤ j) (hv : hg h r j.toNatClampNeg = some (.ref y)) (hd : decode cc pc = .ok (.aaload, 1)) (kk : wA cc κ (pc + 1) ls (.ref y :: st) h) : wA cc κ pc ls (.int j :: .ref r :: st) h := by
  intro O mls H locs cells slots hL hW
  obtain ⟨vs, e⟩ := hk_cell hr
  rw [hg_eq e] at hv
  obtain ⟨q, rfl⟩ : ∃ q, r = q + 2 := ⟨r - 2, by omega⟩
  have hw := wsOf_get (k_G κ) e
  rw [cE_R] at hw
  show kW κ H locs cells slots pc mls (.int j :: .ref (g_mu (k_G κ) (q + 2)) :: st.map (cv (k_G κ)))
  rw [g_mu2]
  have hin := in_of h0 hv
  have hlt := (List.getElem?_eq_some_iff.mp hv).1
  refine W.aald (v := .ref (g_mu (k_G κ) y)) (ty := .array .int) O.1 O.2.1 (hW.1.2.2.2 q _ hw) ((O.2.2.2.2.2.1.1.2 2 _ rfl).1 vs.length (fun j => va_rf (c_toR (k_G κ) (vs.getD j .null)))) rfl (fun z => by cases z) (by show ¬ (j < 0 ∨ (arrV _ _ _).slots.size ≤ _); rw [arrV_size]; exact hin) (by show (arrV _ _ _).slots[_]? = _; rw [arrV_read _ _ hlt]; show some (va_rf (c_toR (k_G κ) (vs.getD j.toNatClampNeg .null))) = _; rw [List.getD_eq_getElem?_getD, hv]; rfl) rfl rfl hd (kk O mls H locs cells slots hL hW)
theorem r_alen {r n : Nat} (h1 : r ≠ 1) (hr : hk h r = some 20) (hv : hn h r = some n) (hd : decode cc pc = .ok (.arraylength, 1)) (kk : wA cc κ (pc + 1) ls (.int (Int32.ofNat n) :: st) h) : wA cc κ pc ls (.ref r :: st) h := by
  intro O mls H locs cells slots hL hW
  obtain ⟨vs, e⟩ := hk_cell hr
  have hv2 : vs.length = n := by
    unfold hn at hv
    rw [e] at hv
    exact Option.some.inj hv
  clear hv
  rcases r with _ | _ | q
  · have e2 := hW.1.2.2.1
    rw [e] at e2
    cases e2
    exact va_tlen O.1 O.2.1 O.2.2.2.2.2.1.2.2.1 hW.2.1 (by rw [← hv2]; rfl) hd (kk O mls H locs cells slots hL hW)
  · exact absurd rfl h1
  · have hw := wsOf_get (k_G κ) e
    rw [cE_I] at hw
    show kW κ H locs cells slots pc mls (.ref (g_mu (k_G κ) (q + 2)) :: st.map (cv (k_G κ)))
    rw [g_mu2]
    exact va_alen O.1 O.2.1 O.2.2.2.2.2.1.1 hW.1.2.2.2 q 0 hw rfl (by rw [← hv2]) hd (kk O mls H locs cells slots hL hW)
theorem r_gets {own : String} {index : Nat} (hw : Cond.fieldLink own index "PackLanes" "FACTORIALS" "[I" ∈ BIG) (ho : k_own κ = own) (hd : decode cc pc = .ok (.getstatic index, 3)) (kk : wA cc κ (pc + 3) ls (.ref 0 :: st) h) : wA cc κ pc ls st h := by
  intro O mls H locs cells slots hL hW
  exact va_gets O.1 O.2.1 O.2.2.2.2.2.1.2.1 hW.2.1 (by rw [← ho]; exact O.2.2.2.1) (O.2.2.2.2.1 _ hw) (fun _ h9 => h9) hd (kk O mls H locs cells slots hL hW)
end RU
end
section
theorem aO_moved {u U : State} (hvm : u.vm.Alike U.vm) (h : (Cond.arrayOver (.array .int)).before #[] u = true) : (Cond.arrayOver (.array .int)).before #[] U = true := by
  have h2 : (Cond.arrayOver (.array .int)).holds #[] u none u [] = true := h
  simp only [Cond.holds, Cond.value, beq_iff_eq] at h2
  rw [Option.bind_eq_some_iff] at h2
  obtain ⟨comp, f1, h2⟩ := h2
  rw [Option.bind_eq_some_iff] at h2
  obtain ⟨c, f2, h2⟩ := h2
  rw [Option.map_eq_some_iff] at h2
  obtain ⟨k, f3, h2⟩ := h2
  obtain ⟨k', hk', he⟩ := hvm.2.2 _ _ f3
  have ga := va_idx_bare U.vm comp
  have gb := va_idx_bare u.vm comp
  first | rw [hvm.bare_eq] at gb | rw [← hvm.bare_eq] at gb
  have hi := (ga.symm.trans gb).trans f2
  show (Cond.arrayOver (.array .int)).holds #[] U none U [] = true
  simp only [Cond.holds, Cond.value, beq_iff_eq]
  rw [Option.bind_eq_some_iff]
  refine ⟨comp, by rw [hvm.findClass]; exact f1, ?_⟩
  rw [Option.bind_eq_some_iff]
  refine ⟨c, hi, ?_⟩
  rw [Option.map_eq_some_iff]
  refine ⟨k', hk', ?_⟩
  have hkd : k'.kind = k.kind := by rw [he]
  rw [hkd, hvm.findClass]
  exact h2
section CU
variable {cc : ByteArray} {κ : KT} {pc : Nat} {ls st : LV} {h : HV}
def stw (st : LV) : Nat := (st.map fun v => v.category).sum
theorem stw_cv (G : GT) (st : LV) : ((st.map (cv G)).map fun v => v.category).sum = stw st := by
  unfold stw
  rw [List.map_map]
  congr 1
  exact List.map_congr_left fun v _ => cv_cat G v
theorem Ta_moved {G : GT} {u U : State} {H : Heap} (hW : u.WarmedH U.vm) (h : Ta G u H) : Ta G U H := ⟨h.1.moved hW.alike, h.2.1.moved hW.alike, h.2.2.1.moved hW.alike, aO_moved hW.alike h.2.2.2.1, h.2.2.2.2.1, fun w hw => nw_warm (bign_nest w hw) hW (h.2.2.2.2.2 w hw)⟩
theorem Ta_kept {G : GT} {U : State} {H0 H : Heap} {locs : List Loc} (h : Ta G U H0) (hS : va_S (g_A G) H0 H locs) : Ta G U H := ⟨h.1, h.2.1.kept hS.2.1, h.2.2.1.kept hS.2.1, h.2.2.2.1, Nat.le_trans h.2.2.2.2.1 hS.1, h.2.2.2.2.2⟩
/-- a method's contract, by its abstract meaning X -/
abbrev PM : Type := List Value → HV → (Option Value → HV → Prop) → Prop
def mQ (G : GT) (h : HV) (rm : Room) (Qp : Option Value → HV → Prop) : Array Value → State → Outcome → State → Prop := fun _ st o t =>
  (∃ (r : Option Value) (h' : HV), o = .returned (r.map (cv G)) ∧ Qp r h' ∧ Wo G h' t.heap ∧ h'.length = h.length + rm.cells ∧ hsz h' = hsz h + rm.slots) ∧ va_F (g_A G) st t
abbrev mP (G : GT) (vs : List Value) (h : HV) : Array Value → State → Prop := va_Pc (vs.map (cv G)) (fun U => Wo G h U.heap ∧ Ta G U U.heap)
def Ctr (l : Launch) (y : MethodName) (bytes : ByteArray) (maxL : Nat) (ret : Option FieldType) (rm : Room) (X : PM) : Prop :=
  ∀ (G : GT) (vs : List Value) (h : HV) (Qp : Option Value → HV → Prop), X vs h Qp → Met l y (Cond.code y bytes maxL ret :: BIG) rm (mP G vs h) (mQ G h rm Qp) rm.cells rm.slots (g_A G)
theorem mP_blind (G : GT) (vs : List Value) (h : HV) : FrameBlind (mP G vs h) := fun a U g mk q => ⟨q.1, q.2.1, Ta_moved (u := U) (U := U.calling g mk a) (State.WarmedH.refl U) q.2.2⟩
theorem big_code {y : MethodName} {bytes : ByteArray} {maxL : Nat} {ret : Option FieldType} (hc : Cond.code y bytes maxL ret ∈ BIG) : GoodIn BIG (Cond.code y bytes maxL ret :: BIG) := fun w hw => by
  rcases List.mem_cons.mp hw with rfl | h1
  · exact big_good _ hc
  · exact big_good _ h1
/-- behind a call -/
theorem r_back {y : MethodName} {rm : Room} {vs rest : LV} {mls : Array Slot} {H : Heap} {locs : List Loc} {cells slots : Nat} {K : Option Value → HV → Prop} {st0 : List Value} {av : List Value} (hL : Lh (k_G κ) (k_nL κ) mls ls) (hW : Wd κ H locs cells slots h) (hc : cells + rm.cells ≤ (k_R κ).cells) (hs : slots + rm.slots ≤ (k_R κ).slots)
    (hr : va_Run (k_p κ) (k_l κ) (k_e κ) (k_R κ) (k_s κ) (k_m κ) (k_a κ) (k_b κ) (k_me κ) (k_c κ) H locs cells slots rm.cells rm.slots (F0 (k_m κ) pc mls st0) (rest.map (cv (k_G κ))) (mQ (k_G κ) h rm K av.toArray) (g_A (k_G κ)))
    (kk : ∀ o h', K o h' → wA cc κ (pc + 3) ls (o.toList ++ rest) h') (O : KO cc κ) : kW κ H locs cells slots pc mls st0 := by
  intro T hT X
  obtain ⟨v, st₀, t, T', L, h0, X', hL2, e1, e2, ⟨⟨r, h', hv, hK, hWo, hn1, hn2⟩, hz, hk⟩, stp⟩ := hr T hT X
  cases hv
  rw [h0] at hz hk
  obtain ⟨w1, w2, w3, w4, w5, w6, w7⟩ := hW
  rw [← e1] at hWo
  have hsz : T'.heap.size = (k_s κ).heap.size + (cells + rm.cells) := by
    have a := hWo.1
    have b := w1.1
    have c := w1.2.1
    omega
  have hS : va_S (g_A (k_G κ)) (k_s κ).heap T'.heap (locs ++ L) := ⟨by rw [hsz]; exact Nat.le_add_right _ _, fun q a b => by rw [e1, hk q (by rw [w3]; omega) b]; exact w2.2.1 q a b, fun q hq => by
    rcases List.mem_append.mp hq with a | a
    · exact w2.2.2 q a
    · exact hL2 q a⟩
  obtain ⟨t2, a1, b1⟩ := kk r h' hK O mls T'.heap (locs ++ L) (cells + rm.cells) (slots + rm.slots) hL ⟨hWo, hS, hsz, by omega, by omega, hc, hs⟩ T' rfl X'
  refine ⟨t2, stp t2 ?_, b1⟩
  have e3 : (List.map (cv (k_G κ)) (r.toList ++ rest)) = (Option.map (cv (k_G κ)) r).toList ++ List.map (cv (k_G κ)) rest := by
    rw [List.map_append]
    cases r <;> rfl
  rw [← e3]
  exact a1
def CallV (own : String) (index : Nat) (y : MethodName) (bytes : ByteArray) (maxL : Nat) (ret : Option FieldType) (n : Nat) : Prop :=
  Cond.methodLink own index y ∈ BIG ∧ Cond.instanceMethod y ∈ BIG ∧ Cond.selects y.cls y y ∈ BIG ∧ Cond.initialized y.cls ∈ BIG ∧ Cond.code y bytes maxL ret ∈ BIG ∧ (y.cls = y.cls ∧ y.cls ≠ "java/lang/invoke/MethodHandle" ∧ y.cls ≠ "java/lang/invoke/VarHandle" ∧ (parseMethodDescriptor y.desc).map (fun d => d.parameters.length) = some n)
def CallS (own : String) (index : Nat) (y : MethodName) (bytes : ByteArray) (maxL : Nat) (ret : Option FieldType) (n : Nat) : Prop :=
  Cond.methodLink own index y ∈ BIG ∧ Cond.static y ∈ BIG ∧ Cond.initialized y.cls ∈ BIG ∧ Cond.code y bytes maxL ret ∈ BIG ∧ (y.cls ≠ "java/lang/invoke/MethodHandle" ∧ y.cls ≠ "java/lang/invoke/VarHandle" ∧ (parseMethodDescriptor y.desc).map (fun d => d.parameters.length) = some n)
def CallSN (own : String) (index : Nat) (y : MethodName) (host : String) (bytes : ByteArray) (maxL : Nat) (ret : Option FieldType) (n : Nat) : Prop :=
  Cond.methodLinkNest own index y host ∈ BIGN ∧ Cond.static y ∈ BIG ∧ Cond.initialized y.cls ∈ BIG ∧ Cond.code y bytes maxL ret ∈ BIG ∧ (y.cls ≠ "java/lang/invoke/MethodHandle" ∧ y.cls ≠ "java/lang/invoke/VarHandle" ∧ (parseMethodDescriptor y.desc).map (fun d => d.parameters.length) = some n)
theorem Pc_of {vs : LV} {mls : Array Slot} {H : Heap} {locs : List Loc} {cells slots : Nat} (O : KO cc κ) (hW : Wd κ H locs cells slots h) {av : List Value} (ha : av = vs.map (cv (k_G κ))) : ∀ U : State, U.heap = H → (k_s κ).WarmedH U.vm → mP (k_G κ) vs h av.toArray U := fun U hU hWm => by
  refine ⟨by rw [ha], by rw [hU]; exact hW.1, ?_⟩
  rw [hU]
  exact Ta_moved hWm (Ta_kept O.2.2.2.2.2.1 hW.2.1)
theorem r_callV {own : String} {index : Nat} {y : MethodName} {bytes : ByteArray} {maxL : Nat} {ret : Option FieldType} {n ci r : Nat} {t : LV} {rm : Room} {X : PM} {K : Option Value → HV → Prop} {T : u_T} {N : Nat}
    (hc : CallV own index y bytes maxL ret n) (hC : Ctr (k_l κ) y bytes maxL ret rm X) (hm : rm.cells = 0 ∧ rm.slots = 0) (ho : k_own κ = own) (hR : rm.frames + 1 ≤ (k_R κ).frames ∧ 8 + (maxL + 11) + rm.locals ≤ (k_R κ).locals) (hst : stw st ≤ 8)
    (hcl : classes[ci]? = some (y.cls, T, N)) (hci : ci < 20) (h1 : r ≠ 1) (hr : hk h r = some ci) (hn : t.length = n) (hX : X (.ref r :: t) h K) (hd : decode cc pc = .ok (.invokevirtual index, 3)) (kk : ∀ o h', K o h' → wA cc κ (pc + 3) ls (o.toList ++ st) h') : wA cc κ pc ls (t.reverse ++ .ref r :: st) h := by
  subst ho
  intro O mls H locs cells slots hL hW
  obtain ⟨c1, c2, c3, c4, c5, c6⟩ := hc
  obtain ⟨q, rfl⟩ := two_of hW hr hci h1
  obtain ⟨fs, e⟩ := hk_cell hr
  have hw := wsOf_get (k_G κ) e
  rw [cE_O _ hci] at hw
  have hrc := va_recv O.2.2.2.2.2.1.1 hW.1.2.2.2 hcl hw
  refine r_back (cc := cc) (y := y) (vs := .ref (q + 2) :: t) (rest := st) (av := .ref (g_base (k_G κ) + q) :: t.map (cv (k_G κ))) (K := K) (rm := rm) hL hW (by rw [hm.1]; exact hW.2.2.2.2.2.1) (by rw [hm.2]; exact hW.2.2.2.2.2.2) ?_ kk O
  refine va_runV (As := t.map (cv (k_G κ))) (C := y.cls) (n := n) ⟨O.1, O.2.1, O.2.2.1, O.2.2.2.1, O.2.2.2.2.1⟩ (hC (k_G κ) (.ref (q + 2) :: t) h K hX) (cwV n O.2.2.2.2.1 ?_ rfl rfl rfl c6 hR) ⟨mP_blind _ _ _, hrc, Pc_of (mls := mls) O hW (by simp [cv, g_mu2])⟩ rfl (by rw [List.length_map]; exact hn) (Lh_size hL) ?_ ?_ hd ⟨by rw [hm.1]; exact hW.2.2.2.2.2.1, by rw [hm.2]; exact hW.2.2.2.2.2.2⟩
  · intro w hw2
    unfold wsV at hw2
    rcases List.mem_append.mp hw2 with h9 | h9
    · simp only [List.mem_cons, List.not_mem_nil, or_false] at h9
      rcases h9 with rfl | rfl | rfl | rfl
      · exact big_good _ c1
      · exact big_good _ c2
      · exact big_good _ c3
      · exact big_good _ c4
    · exact big_code c5 w h9
  · show (t.reverse ++ .ref (q + 2) :: st).map (cv (k_G κ)) = _
    simp [cv, g_mu2]
  · show 2 * 0 + ((st.map (cv (k_G κ))).map fun v => v.category).sum ≤ 8
    rw [stw_cv]; omega
theorem r_callS {own : String} {index : Nat} {y : MethodName} {bytes : ByteArray} {maxL : Nat} {ret : Option FieldType} {n : Nat} {t : LV} {rm : Room} {X : PM} {K : Option Value → HV → Prop}
    (hc : CallS own index y bytes maxL ret n) (hC : Ctr (k_l κ) y bytes maxL ret rm X) (hm : rm.cells = 0 ∧ rm.slots = 0) (ho : k_own κ = own) (hR : rm.frames + 1 ≤ (k_R κ).frames ∧ 8 + (maxL + 11) + rm.locals ≤ (k_R κ).locals) (hst : stw st ≤ 8)
    (hn : t.length = n) (hX : X t h K) (hd : decode cc pc = .ok (.invokestatic index, 3)) (kk : ∀ o h', K o h' → wA cc κ (pc + 3) ls (o.toList ++ st) h') : wA cc κ pc ls (t.reverse ++ st) h := by
  subst ho
  intro O mls H locs cells slots hL hW
  obtain ⟨c1, c2, c4, c5, c6⟩ := hc
  refine r_back (cc := cc) (y := y) (vs := t) (rest := st) (av := t.map (cv (k_G κ))) (K := K) (rm := rm) hL hW (by rw [hm.1]; exact hW.2.2.2.2.2.1) (by rw [hm.2]; exact hW.2.2.2.2.2.2) ?_ kk O
  refine va_runS (As := t.map (cv (k_G κ))) (n := n) ⟨O.1, O.2.1, O.2.2.1, O.2.2.2.1, O.2.2.2.2.1⟩ (hC (k_G κ) t h K hX) (va_cwS n O.2.2.2.2.1 ?_ rfl rfl rfl c6 hR) ⟨mP_blind _ _ _, Pc_of (mls := mls) O hW rfl⟩ rfl (by rw [List.length_map]; exact hn) (Lh_size hL) ?_ ?_ hd ⟨by rw [hm.1]; exact hW.2.2.2.2.2.1, by rw [hm.2]; exact hW.2.2.2.2.2.2⟩
  · intro w hw2
    unfold va_wsS at hw2
    rcases List.mem_append.mp hw2 with h9 | h9
    · simp only [List.mem_cons, List.not_mem_nil, or_false] at h9
      rcases h9 with rfl | rfl | rfl
      · exact big_good _ c1
      · exact big_good _ c2
      · exact big_good _ c4
    · exact big_code c5 w h9
  · show (t.reverse ++ st).map (cv (k_G κ)) = _
    simp
  · show 2 * 0 + ((st.map (cv (k_G κ))).map fun v => v.category).sum ≤ 8
    rw [stw_cv]; omega
theorem r_callSN {own : String} {index : Nat} {y : MethodName} {host : String} {bytes : ByteArray} {maxL : Nat} {ret : Option FieldType} {n : Nat} {t : LV} {rm : Room} {X : PM} {K : Option Value → HV → Prop}
    (hc : CallSN own index y host bytes maxL ret n) (hC : Ctr (k_l κ) y bytes maxL ret rm X) (hm : rm.cells = 0 ∧ rm.slots = 0) (ho : k_own κ = own) (hR : rm.frames + 1 ≤ (k_R κ).frames ∧ 8 + (maxL + 11) + rm.locals ≤ (k_R κ).locals) (hst : stw st ≤ 8)
    (hn : t.length = n) (hX : X t h K) (hd : decode cc pc = .ok (.invokestatic index, 3)) (kk : ∀ o h', K o h' → wA cc κ (pc + 3) ls (o.toList ++ st) h') : wA cc κ pc ls (t.reverse ++ st) h := by
  subst ho
  intro O mls H locs cells slots hL hW
  obtain ⟨c1, c2, c4, c5, c6⟩ := hc
  refine r_back (cc := cc) (y := y) (vs := t) (rest := st) (av := t.map (cv (k_G κ))) (K := K) (rm := rm) hL hW (by rw [hm.1]; exact hW.2.2.2.2.2.1) (by rw [hm.2]; exact hW.2.2.2.2.2.2) ?_ kk O
  refine va_runSN (As := t.map (cv (k_G κ))) (n := n) (host := host) ⟨O.1, O.2.1, O.2.2.1, O.2.2.2.1, O.2.2.2.2.1⟩ (hC (k_G κ) t h K hX) ⟨va_cnB n O.2.2.2.2.1 (big_code c5) rfl rfl rfl (O.2.2.2.2.2.1.2.2.2.2.2 _ c1) (O.2.2.2.2.1 _ c4) c6 hR, O.2.2.2.2.1 _ c2, trivial⟩ ⟨mP_blind _ _ _, Pc_of (mls := mls) O hW rfl⟩ rfl (by rw [List.length_map]; exact hn) (Lh_size hL) ?_ ?_ hd ⟨by rw [hm.1]; exact hW.2.2.2.2.2.1, by rw [hm.2]; exact hW.2.2.2.2.2.2⟩
  · show (t.reverse ++ st).map (cv (k_G κ)) = _
    simp
  · show 2 * 0 + ((st.map (cv (k_G κ))).map fun v => v.category).sum ≤ 8
    rw [stw_cv]; omega
end CU
end
section
section NU
variable {cc : ByteArray} {κ : KT} {pc : Nat} {ls st : LV} {h : HV}
theorem r_oinit {own : String} {index r : Nat} (hw : Cond.methodLink own index Lib.objectInit ∈ BIG) (hi : Cond.instanceMethod Lib.objectInit ∈ BIG) (hc : Cond.code Lib.objectInit ⟨#[0xb1]⟩ 1 none ∈ BIG) (ho : k_own κ = own) (hR : 1 ≤ (k_R κ).frames ∧ 20 ≤ (k_R κ).locals) (hst : stw st ≤ 8) (hd : decode cc pc = .ok (.invokespecial index, 3)) (kk : wA cc κ (pc + 3) ls st h) : wA cc κ pc ls (.ref r :: st) h := by
  subst ho
  intro O mls H locs cells slots hL hW
  exact W.objInit O.1 O.2.1 O.2.2.2.1 (O.2.2.2.2.1 _ hw) (O.2.2.2.2.1 _ hi) (O.2.2.2.2.1 _ hc) rfl (by rw [O.2.2.1]; exact Lh_size hL) rfl hd hR.1 (by show 2 * 0 + ((st.map (cv (k_G κ))).map fun v => v.category).sum + 12 ≤ _; rw [stw_cv]; omega) (kk O mls H locs cells slots hL hW)
/-- behind a new cell -/
theorem Wd_push {H H1 : Heap} {locs : List Loc} {cells slots q : Nat} {c : Nat × List Value} (hW : Wd κ H locs cells slots h) (hb : g_base (k_G κ) ≤ (k_s κ).heap.size) (hP : va_P (g_D (k_G κ)) classes (wsOf (k_G κ) h ++ [(q, cE (k_G κ) c)]) H1) (hD : va_D (g_A (k_G κ)) (wsOf (k_G κ) h ++ [(q, cE (k_G κ) c)]))
    (hS : va_S (g_A (k_G κ)) H H1 locs) (hz : H1.size ≤ (k_s κ).heap.size + (cells + 1)) (hc : cells + 1 ≤ (k_R κ).cells) (hs : slots + c.2.length ≤ (k_R κ).slots) : q = g_mu (k_G κ) h.length ∧ Wd κ H1 locs (cells + 1) (slots + c.2.length) (h ++ [c]) := by
  obtain ⟨⟨w1, w2, w3, w4⟩, w5, w6, w7, w8, w9, w10⟩ := hW
  have hlast : (wsOf (k_G κ) h ++ [(q, cE (k_G κ) c)])[(wsOf (k_G κ) h).length]? = some (q, cE (k_G κ) c) := by simp
  have hlen : (wsOf (k_G κ) h).length = h.length - 2 := by
    have : ∀ (g : HV) (k : Nat), (wsAt (k_G κ) k g).length = g.length := fun g => by
      induction g with
      | nil => intro k; rfl
      | cons a t ih => intro k; simp [wsAt, ih]
    unfold wsOf
    rw [this, List.length_drop]
  have hq1 : q < H1.size := (hP _ _ hlast).lt
  have hq2 : g_base (k_G κ) ≤ q := hD.2 _ _ hlast
  have hq : q = H.size := by
    rcases Nat.lt_or_ge q H.size with a | a
    · have hi : q - g_base (k_G κ) < (wsOf (k_G κ) h).length := by omega
      obtain ⟨p, hp⟩ : ∃ p, (wsOf (k_G κ) h)[q - g_base (k_G κ)]? = some p := ⟨_, List.getElem?_eq_getElem hi⟩
      have e1 := (wsOf_len (k_G κ) h hp).1
      have e2 := hD.1 (q - g_base (k_G κ)) (wsOf (k_G κ) h).length p _ (by rw [List.getElem?_append_left hi]; exact hp) hlast (by rw [e1]; show _ = q; omega)
      omega
    · omega
  have hqm : q = g_mu (k_G κ) h.length := by
    obtain ⟨z, hz2⟩ : ∃ z, h.length = z + 2 := ⟨h.length - 2, by omega⟩
    rw [hz2, g_mu2]
    omega
  have hqb : q = g_base (k_G κ) + (h.length - 2) := by omega
  refine ⟨hqm, ⟨by rw [List.length_append]; show H1.size + 2 = _ + (h.length + 1); omega, by rw [List.length_append]; omega, by rw [List.getElem?_append_left (by omega)]; exact w3, ?_⟩, w5.go hS, by omega, by rw [List.length_append]; show h.length + 1 = _; omega, by rw [hsz_app]; omega, hc, hs⟩
  rw [wsOf_app _ w2, ← hqb]
  exact hP
theorem base_le {H : Heap} {locs : List Loc} {cells slots : Nat} (hW : Wd κ H locs cells slots h) : ∀ q, H.size ≤ q → g_A (k_G κ) q := fun q hq => by
  have a := hW.1.1
  have b := hW.1.2.1
  show g_base _ ≤ q
  omega
def NewOK (own : String) (index ci : Nat) (fs : List Value) : Prop :=
  ∃ (C : String) (T : u_T) (N : Nat) (ty0 : Nat → FieldType), ci < 20 ∧ classes[ci]? = some (C, T, N) ∧ (∀ w ∈ u_ws C T N, w ∈ BIG) ∧ (∀ k, k < N → parseFieldDescriptor (T k).2.2.1 = some (ty0 k)) ∧ Cond.classLink own index C ∈ BIG ∧ Cond.instantiable C N ∈ BIG ∧ Cond.initialized C ∈ BIG ∧ (∀ G : GT, fs.map (cv G) = fs) ∧ fs.length = N ∧ ∀ j, j < N → defaultValue (ty0 j) = vp_V fs j
theorem r_new {own : String} {index ci : Nat} {fs : List Value} (hF : NewOK own index ci fs) (ho : k_own κ = own) (h1 : h.length + 1 ≤ k_n0 κ + (k_R κ).cells) (h2 : hsz h + fs.length ≤ k_t0 κ + (k_R κ).slots) (hd : decode cc pc = .ok (.new index, 3)) (kk : wA cc κ (pc + 3) ls (.ref h.length :: st) (h ++ [(ci, fs)])) : wA cc κ pc ls st h := by
  subst ho
  intro O mls H locs cells slots hL hW
  obtain ⟨C, T, N, ty0, f1, f2, f3, f4, f5, f6, f7, f8, f9, f10⟩ := hF
  have c1 : cells + 1 ≤ (k_R κ).cells := by have := hW.2.2.2.1; omega
  have c2 : slots + fs.length ≤ (k_R κ).slots := by have := hW.2.2.2.2.1; omega
  refine va_new (fs := fs) O.1 O.2.1 O.2.2.2.2.1 f3 ty0 f4 O.2.2.2.1 (O.2.2.2.2.1 _ f5) (O.2.2.2.2.1 _ f6) (O.2.2.2.2.1 _ f7) O.2.2.2.2.2.1.1 hW.1.2.2.2 (wsOf_D _ h) hW.2.1.start (base_le hW) f2 f10 c1 (by rw [← f9]; exact c2) hd (fun q H1 hP hD hS => ?_)
  refine kW_size fun hz => ?_
  have e : cE (k_G κ) (ci, fs) = .inr (ci, fs) := by rw [cE_O _ f1, f8]
  rw [← e] at hP hD
  obtain ⟨g1, g2⟩ := Wd_push hW O.2.2.2.2.2.1.2.2.2.2.1 hP hD hS hz c1 c2
  have := kk O mls H1 locs (cells + 1) (slots + fs.length) hL g2
  rw [f9] at this
  rw [g1]
  exact this
theorem toI_rep (n : Nat) : (fun j => c_toI ((List.replicate n (Value.int 0)).getD j .null)) = fun _ => 0 := by
  funext j
  rw [List.getD_eq_getElem?_getD, List.getElem?_replicate]
  split <;> rfl
theorem r_newI {n : Nat} {x : Int32} (hw : Cond.arrayClass .int ∈ BIG) (h0 : ¬ x < 0) (hx : x.toNatClampNeg = n) (hn : n ≤ 100000000) (h1 : h.length + 1 ≤ k_n0 κ + (k_R κ).cells) (h2 : hsz h + n ≤ k_t0 κ + (k_R κ).slots) (hd : decode cc pc = .ok (.newarray .int, 2)) (kk : wA cc κ (pc + 2) ls (.ref h.length :: st) (h ++ [(20, List.replicate n (.int 0))])) : wA cc κ pc ls (.int x :: st) h := by
  intro O mls H locs cells slots hL hW
  have c1 : cells + 1 ≤ (k_R κ).cells := by have := hW.2.2.2.1; omega
  have c2 : slots + n ≤ (k_R κ).slots := by have := hW.2.2.2.2.1; omega
  refine va_newa (atype := .int) (ty := .int) (N' := n) (a0 := (n, .inl fun _ => 0)) O.1 O.2.1 (O.2.2.2.2.1 _ hw) rfl O.2.2.2.2.2.1.1 hW.1.2.2.2 (wsOf_D _ h) hW.2.1.start (base_le hW) (fun cA => rfl) h0 hx (by show n * 4 ≤ _; omega) c1 c2 hd (fun q cA H1 hK hP hD hS => ?_)
  refine kW_size fun hz => ?_
  have e2 : cA = g_I (k_G κ) := by
    have a := (hK.2 3 (cA, .int) (by rfl)).2
    have b := (hK.2 0 (g_I (k_G κ), .int) (by rfl)).2
    exact Option.some.inj (a.symm.trans b)
  have e : cE (k_G κ) (20, List.replicate n (.int 0)) = .inl (cA, n, .inl fun _ => 0) := by rw [cE_I, toI_rep, List.length_replicate, e2]
  rw [← e] at hP hD
  obtain ⟨g1, g2⟩ := Wd_push (c := (20, List.replicate n (.int 0))) hW O.2.2.2.2.2.1.2.2.2.2.1 hP hD hS hz c1 (by rw [List.length_replicate]; exact c2)
  have := kk O mls H1 locs (cells + 1) _ hL g2
  rw [List.length_replicate] at this
  rw [g1]
  exact this
theorem r_newZ {n : Nat} {x : Int32} (hw : Cond.arrayClass .boolean ∈ BIG) (h0 : ¬ x < 0) (hx : x.toNatClampNeg = n) (hn : n ≤ 100000000) (h1 : h.length + 1 ≤ k_n0 κ + (k_R κ).cells) (h2 : hsz h + n ≤ k_t0 κ + (k_R κ).slots) (hd : decode cc pc = .ok (.newarray .boolean, 2)) (kk : wA cc κ (pc + 2) ls (.ref h.length :: st) (h ++ [(21, List.replicate n (.int 0))])) : wA cc κ pc ls (.int x :: st) h := by
  intro O mls H locs cells slots hL hW
  have c1 : cells + 1 ≤ (k_R κ).cells := by have := hW.2.2.2.1; omega
  have c2 : slots + n ≤ (k_R κ).slots := by have := hW.2.2.2.2.1; omega
  refine va_newa (atype := .boolean) (ty := .boolean) (N' := n) (a0 := (n, .inl fun _ => 0)) O.1 O.2.1 (O.2.2.2.2.1 _ hw) rfl O.2.2.2.2.2.1.1 hW.1.2.2.2 (wsOf_D _ h) hW.2.1.start (base_le hW) (fun cA => rfl) h0 hx (by show n * 1 ≤ _; omega) c1 c2 hd (fun q cA H1 hK hP hD hS => ?_)
  refine kW_size fun hz => ?_
  have e2 : cA = g_Z (k_G κ) := by
    have a := (hK.2 3 (cA, .boolean) (by rfl)).2
    have b := (hK.2 1 (g_Z (k_G κ), .boolean) (by rfl)).2
    exact Option.some.inj (a.symm.trans b)
  have e : cE (k_G κ) (21, List.replicate n (.int 0)) = .inl (cA, n, .inl fun _ => 0) := by rw [cE_Z, toI_rep, List.length_replicate, e2]
  rw [← e] at hP hD
  obtain ⟨g1, g2⟩ := Wd_push (c := (21, List.replicate n (.int 0))) hW O.2.2.2.2.2.1.2.2.2.2.1 hP hD hS hz c1 (by rw [List.length_replicate]; exact c2)
  have := kk O mls H1 locs (cells + 1) _ hL g2
  rw [List.length_replicate] at this
  rw [g1]
  exact this
/-- System.arraycopy of ints -/
def cpyL (src dst : List Value) (sp dp n : Nat) : List Value := (List.range dst.length).map fun k => if dp ≤ k ∧ k < dp + n then src.getD (sp + (k - dp)) .null else dst.getD k .null
theorem cpyL_toI {src dst : List Value} {sp dp n : Nat} (hd : dp + n ≤ dst.length) : (fun j => c_toI ((cpyL src dst sp dp n).getD j .null)) = va_cpy (fun j => c_toI (src.getD j .null)) (fun j => c_toI (dst.getD j .null)) sp dp n := by
  funext k
  unfold va_cpy cpyL
  rw [List.getD_eq_getElem?_getD, List.getElem?_map]
  by_cases hk : k < dst.length
  · rw [List.getElem?_range hk]
    simp only [Option.map_some, Option.getD_some]
    split <;> rfl
  · rw [List.getElem?_eq_none (by rw [List.length_range]; omega), if_neg (by omega)]
    show _ = c_toI (dst.getD k .null)
    rw [List.getD_eq_getElem?_getD, List.getElem?_eq_none (by omega)]
    rfl
theorem r_copy {own : String} {index a b : Nat} {x y z : Int32} {src dst : List Value} (hw : Cond.methodLink own index arraycopyName ∈ BIG) (hwn : Cond.native arraycopyName ∈ BIG) (hws : Cond.static arraycopyName ∈ BIG) (hwi : Cond.initialized "java/lang/System" ∈ BIG) (ho : k_own κ = own) (hR : 1 ≤ (k_R κ).frames ∧ 26 ≤ (k_R κ).locals) (hst : stw st ≤ 8)
    (ha : h[a]? = some (20, src)) (hb : h[b]? = some (20, dst)) (a2 : 2 ≤ a) (b2 : 2 ≤ b) (h1 : ¬ x < 0) (h2 : ¬ y < 0) (h3 : ¬ z < 0) (h4 : x.toNatClampNeg + z.toNatClampNeg ≤ src.length) (h5 : y.toNatClampNeg + z.toNatClampNeg ≤ dst.length) (hd : decode cc pc = .ok (.invokestatic index, 3))
    (kk : wA cc κ (pc + 3) ls st (h.set b (20, cpyL src dst x.toNatClampNeg y.toNatClampNeg z.toNatClampNeg))) : wA cc κ pc ls (.int z :: .int y :: .ref b :: .int x :: .ref a :: st) h := by
  subst ho
  intro O mls H locs cells slots hL hW
  obtain ⟨qa, rfl⟩ : ∃ q, a = q + 2 := ⟨a - 2, by omega⟩
  obtain ⟨qb, rfl⟩ : ∃ q, b = q + 2 := ⟨b - 2, by omega⟩
  have wa := wsOf_get (k_G κ) ha
  have wb := wsOf_get (k_G κ) hb
  rw [cE_I] at wa wb
  show kW κ H locs cells slots pc mls (.int z :: .int y :: .ref (g_mu (k_G κ) (qb + 2)) :: .int x :: .ref (g_mu (k_G κ) (qa + 2)) :: st.map (cv (k_G κ)))
  rw [g_mu2, g_mu2]
  refine va_copyi O.1 O.2.1 (by rw [O.2.2.1]; exact (Lh_size hL).symm) O.2.2.2.1 (O.2.2.2.2.1 _ hw) (O.2.2.2.2.1 _ hwn) (O.2.2.2.2.1 _ hws) (O.2.2.2.2.1 _ hwi) O.2.2.2.2.2.1.1 hW.1.2.2.2 (wsOf_D _ h) hW.2.1.start qa qb 0 0 wa wb rfl rfl rfl h1 h2 h3 h4 h5 (fun i _ => rfl) hR.1 ?_ hd (fun H1 locs1 hP hD hS => ?_)
  · rw [stw_cv]
    show stw st + (7 + 11) ≤ _
    omega
  refine kW_size fun hz => ?_
  have hlen : (cpyL src dst x.toNatClampNeg y.toNatClampNeg z.toNatClampNeg).length = dst.length := by unfold cpyL; simp
  have e : cE (k_G κ) (20, cpyL src dst x.toNatClampNeg y.toNatClampNeg z.toNatClampNeg) = .inl (g_I (k_G κ), dst.length, .inl (va_cpy (fun j => c_toI (src.getD j .null)) (fun j => c_toI (dst.getD j .null)) x.toNatClampNeg y.toNatClampNeg z.toNatClampNeg)) := by rw [cE_I, cpyL_toI h5, hlen]
  rw [← e] at hP
  rw [wsOf_set] at hP
  obtain ⟨⟨w1, w2, w3, w4⟩, w5, w6, w7, w8, w9, w10⟩ := hW
  have es : H1.size = H.size := Nat.le_antisymm (by rw [w6]; exact hz) hS.1
  refine kk O mls H1 locs1 cells slots hL ⟨⟨by rw [List.length_set, es]; exact w1, by rw [List.length_set]; exact w2, by rw [List.getElem?_set_ne (by omega)]; exact w3, hP⟩, w5.go hS, by rw [es]; exact w6, by rw [List.length_set]; exact w7, ?_, w9, w10⟩
  rw [hsz_set h (qb + 2) _ _ hb hlen]
  exact w8
theorem r_mna {own : String} {index n : Nat} {x : Int32} (hw : Cond.classLink own index "[[I" ∈ BIG) (hwa : Cond.arrayClass .int ∈ BIG) (ho : k_own κ = own) (h0 : ¬ x < 0) (hx : x.toNatClampNeg = n) (hn : n ≤ 100000000) (h1 : h.length + 3 ≤ k_n0 κ + (k_R κ).cells) (h2 : hsz h + (2 + 2 * n) ≤ k_t0 κ + (k_R κ).slots) (hd : decode cc pc = .ok (.multianewarray index 2, 4))
    (kk : wA cc κ (pc + 4) ls (.ref h.length :: st) (h ++ [(22, [.ref (h.length + 1), .ref (h.length + 2)])] ++ [(20, List.replicate n (.int 0))] ++ [(20, List.replicate n (.int 0))])) : wA cc κ pc ls (.int x :: .int 2 :: st) h := by
  subst ho
  subst hx
  intro O mls H locs cells slots hL hW
  have c1 : cells + 3 ≤ (k_R κ).cells := by have := hW.2.2.2.1; omega
  have c2 : slots + (2 + 2 * x.toNatClampNeg) ≤ (k_R κ).slots := by have := hW.2.2.2.2.1; omega
  intro T hT X
  have two : (2 : Int32).toNatClampNeg = 2 := by decide
  obtain ⟨vm₁, cA, comp, -, fA, fC, -, -, X', step⟩ := X.multianewarray2F (ty := .int) O.1 O.2.2.2.1 (O.2.2.2.2.1 _ hw) O.2.2.2.2.2.1.2.2.2.1 (O.2.2.2.2.1 _ hwa) (g := F0 (k_m κ) pc mls (.int x :: .int 2 :: st.map (cv (k_G κ)))) rfl (by rw [O.2.1]; exact hd) rfl (by decide) h0 (by decide) (by show _ * 4 ≤ _; omega) (by omega) rfl rfl (by rw [two]; omega) (by rw [two]; omega)
  rw [two] at X' step
  have ecomp : comp = g_I (k_G κ) := Option.some.inj (fC.symm.trans (O.2.2.2.2.2.1.1.2 0 (g_I (k_G κ), .int) rfl).2)
  have ecA : cA = g_R (k_G κ) := Option.some.inj (fA.symm.trans (O.2.2.2.2.2.1.1.2 2 (g_R (k_G κ), .array .int) rfl).2)
  subst ecomp
  subst ecA
  generalize hF : Jvm.Free.Multi.fill (T.setVm vm₁) (g_R (k_G κ)) (g_I (k_G κ)) 2 x.toNatClampNeg (defaultValue .int) 2 = F at X' step
  have hTh : (T.setVm vm₁).heap = H := hT
  obtain ⟨f1, f2, -, -⟩ := Jvm.Free.Multi.fill_facts (T.setVm vm₁) (g_R (k_G κ)) (g_I (k_G κ)) 2 x.toNatClampNeg (defaultValue .int) 2
  rw [hF, hTh] at f1 f2
  have hold : ∀ a : Nat, a < H.size → F.heap[a]? = H[a]? := fun a ha => by
    have := Jvm.Free.Multi.fill_old (T.setVm vm₁) (g_R (k_G κ)) (g_I (k_G κ)) 2 x.toNatClampNeg (defaultValue .int) (a := a) (by rw [hTh]; exact ha) 2
    rw [hF, hTh] at this
    exact this
  have hrow : ∀ j : Nat, j < 2 → F.heap[H.size + 1 + j]? = some (vp_cell (g_I (k_G κ)) (x.toNatClampNeg, .inl fun _ => 0)) := fun j hj => by
    have := Jvm.Free.Multi.fill_inner (T.setVm vm₁) (g_R (k_G κ)) (g_I (k_G κ)) 2 x.toNatClampNeg (defaultValue .int) 2 j hj
    rw [hF, hTh] at this
    rw [this, vp_cell_i, ← arrV_new]
    rfl
  obtain ⟨⟨w1, w2, w3, w4⟩, w5, w6, w7, w8, w9, w10⟩ := hW
  obtain ⟨z, hz⟩ : ∃ z, h.length = z + 2 := ⟨h.length - 2, by omega⟩
  have hsz1 : H.size = g_base (k_G κ) + z := by omega
  have e3 : ((h ++ [(22, [Value.ref (h.length + 1), .ref (h.length + 2)])] ++ [(20, List.replicate x.toNatClampNeg (.int 0))] ++ [(20, List.replicate x.toNatClampNeg (.int 0))] : HV)).length = h.length + 3 := by simp
  have hout : Jvm.Free.Multi.outerC (g_R (k_G κ)) 2 H.size 2 = vp_cell (g_R (k_G κ)) (2, .inr (.inr (.inr (.inr (fun j => c_toR (k_G κ) (([.ref (h.length + 1), .ref (h.length + 2)] : List Value).getD j .null)))))) := by
    rw [vp_cell_q]
    show (({ cls := g_R (k_G κ), slots := Array.replicate 2 .null, vm := .none } : Cell).setSlot 0 (.ref (H.size + 1 + 0))).setSlot 1 (.ref (H.size + 1 + 1)) = _
    rw [arrV_new, arrV_store, arrV_store]
    unfold arrV
    congr 1
    congr 1
    funext j
    have e1 : g_mu (k_G κ) (h.length + 1) = H.size + 1 := by rw [hz, show z + 2 + 1 = (z + 1) + 2 by omega, g_mu2]; omega
    have e2 : g_mu (k_G κ) (h.length + 2) = H.size + 2 := by rw [hz, show z + 2 + 2 = (z + 2) + 2 by omega, g_mu2]; omega
    match j with
    | ⟨0, _⟩ => simp [updV, c_toR, va_rf, e1]
    | ⟨1, _⟩ => simp [updV, c_toR, va_rf, e2]
  have hP0 : va_P (g_D (k_G κ)) classes (wsOf (k_G κ) h) F.heap := w4.kept (fun k9 q hx => hold q.1 ((w4 k9 q hx).lt))
  have one : ∀ (q : Nat) (e : va_E), va_at (g_D (k_G κ)) classes (q, e) F.heap → va_P (g_D (k_G κ)) classes [(q, e)] F.heap := fun q e hq k9 y hy => by
    have h0 : k9 < 1 := (List.getElem?_eq_some_iff.mp hy).1
    rw [show k9 = 0 by omega] at hy
    cases hy
    exact hq
  have hWo : Wo (k_G κ) (h ++ [(22, [.ref (h.length + 1), .ref (h.length + 2)])] ++ [(20, List.replicate x.toNatClampNeg (.int 0))] ++ [(20, List.replicate x.toNatClampNeg (.int 0))]) F.heap := by
    refine ⟨by rw [e3, f1]; omega, by rw [e3]; omega, ?_, ?_⟩
    · rw [List.append_assoc, List.append_assoc, List.getElem?_append_left (by omega)]
      exact w3
    · rw [wsOf_app _ (by simp), wsOf_app _ (by simp; try omega), wsOf_app _ w2]
      refine ((hP0.app (one _ _ ?_)).app (one _ _ ?_)).app (one _ _ ?_)
      · rw [cE_R, show g_base (k_G κ) + (h.length - 2) = H.size by omega]
        show F.heap[H.size]? = some (vp_cell _ _)
        rw [f2, hout]
        rfl
      · rw [cE_I, toI_rep, List.length_replicate, show g_base (k_G κ) + ((h ++ [(22, [Value.ref (h.length + 1), .ref (h.length + 2)])] : HV).length - 2) = H.size + 1 + 0 by simp; omega]
        exact hrow 0 (by omega)
      · rw [cE_I, toI_rep, List.length_replicate, show g_base (k_G κ) + ((h ++ [(22, [Value.ref (h.length + 1), .ref (h.length + 2)])] ++ [(20, List.replicate x.toNatClampNeg (.int 0))] : HV).length - 2) = H.size + 1 + 1 by simp; omega]
        exact hrow 1 (by omega)
  obtain ⟨t, a, b⟩ := kk O mls F.heap locs (cells + 1 + 2) (slots + 2 + 2 * x.toNatClampNeg) hL ⟨hWo, ⟨by rw [f1, w6]; omega, fun q a b => by rw [hold q (by rw [w6]; omega)]; exact w5.2.1 q a b, w5.2.2⟩, by rw [f1, w6]; omega, by rw [e3]; omega, by simp only [hsz_app, List.length_replicate]; show hsz h + 2 + _ + _ = _; omega, by omega, by omega⟩ F rfl X'
  refine ⟨t, step t ?_, b⟩
  have e5 : (T.heap.size : Nat) = g_mu (k_G κ) h.length := by rw [hT, hz, g_mu2]; omega
  rw [e5]
  exact a
def CallI (own : String) (index : Nat) (y : MethodName) (bytes : ByteArray) (maxL : Nat) (n : Nat) : Prop :=
  (Cond.methodLink own index y ∈ BIG ∨ ∃ host, Cond.methodLinkNest own index y host ∈ BIGN) ∧ Cond.instanceMethod y ∈ BIG ∧ Cond.initialized y.cls ∈ BIG ∧ Cond.code y bytes maxL none ∈ BIG ∧ y.name = "<init>" ∧ (y.cls ≠ "java/lang/invoke/MethodHandle" ∧ y.cls ≠ "java/lang/invoke/VarHandle" ∧ (parseMethodDescriptor y.desc).map (fun d => d.parameters.length) = some n)
theorem r_callI {own : String} {index : Nat} {y : MethodName} {bytes : ByteArray} {maxL : Nat} {n r : Nat} {t : LV} {rm : Room} {X : PM} {K : Option Value → HV → Prop}
    (hc : CallI own index y bytes maxL n) (hC : Ctr (k_l κ) y bytes maxL none rm X) (ho : k_own κ = own) (hR : rm.frames + 1 ≤ (k_R κ).frames ∧ 8 + (maxL + 11) + rm.locals ≤ (k_R κ).locals) (hst : stw st ≤ 8)
    (hm1 : h.length + rm.cells ≤ k_n0 κ + (k_R κ).cells) (hm2 : hsz h + rm.slots ≤ k_t0 κ + (k_R κ).slots) (hn : t.length = n) (hX : X (.ref r :: t) h K) (hd : decode cc pc = .ok (.invokespecial index, 3)) (kk : ∀ o h', K o h' → wA cc κ (pc + 3) ls (o.toList ++ st) h') : wA cc κ pc ls (t.reverse ++ .ref r :: st) h := by
  subst ho
  intro O mls H locs cells slots hL hW
  obtain ⟨c1, c2, c4, c5, c6, c7⟩ := hc
  have g1 : cells + rm.cells ≤ (k_R κ).cells := by have := hW.2.2.2.1; omega
  have g2 : slots + rm.slots ≤ (k_R κ).slots := by have := hW.2.2.2.2.1; omega
  refine r_back (cc := cc) (y := y) (vs := .ref r :: t) (rest := st) (av := (.ref (g_mu (k_G κ) r)) :: t.map (cv (k_G κ))) (K := K) (rm := rm) hL hW g1 g2 ?_ kk O
  have hpre : PreS (k_s κ) H (mP (k_G κ) (.ref r :: t) h) (.ref (g_mu (k_G κ) r) :: t.map (cv (k_G κ))) := ⟨mP_blind _ _ _, Pc_of (mls := mls) O hW rfl⟩
  have hstk : (t.reverse ++ .ref r :: st).map (cv (k_G κ)) = (t.map (cv (k_G κ))).reverse ++ .ref (g_mu (k_G κ) r) :: st.map (cv (k_G κ)) := by simp [cv]
  have hw8 : 2 * (F0 (k_m κ) pc mls ((t.reverse ++ .ref r :: st).map (cv (k_G κ)))).monitorRoom + ((st.map (cv (k_G κ))).map fun v => v.category).sum ≤ 8 := by
    show 2 * 0 + ((st.map (cv (k_G κ))).map fun v => v.category).sum ≤ 8
    rw [stw_cv]; omega
  rcases c1 with c1 | ⟨host, c1⟩
  · exact va_runI (As := t.map (cv (k_G κ))) (n := n) ⟨O.1, O.2.1, O.2.2.1, O.2.2.2.1, O.2.2.2.2.1⟩ (hC (k_G κ) (.ref r :: t) h K hX) (cwI n O.2.2.2.2.1 (big_code c5) rfl rfl rfl (O.2.2.2.2.1 _ c4) (O.2.2.2.2.1 _ c1) (O.2.2.2.2.1 _ c2) c6 c7 hR) hpre rfl (by rw [List.length_map]; exact hn) (Lh_size hL) hstk hw8 hd ⟨g1, g2⟩
  · exact va_runIN (As := t.map (cv (k_G κ))) (n := n) (host := host) ⟨O.1, O.2.1, O.2.2.1, O.2.2.2.1, O.2.2.2.2.1⟩ (hC (k_G κ) (.ref r :: t) h K hX) ⟨va_cnB n O.2.2.2.2.1 (big_code c5) rfl rfl rfl (O.2.2.2.2.2.1.2.2.2.2.2 _ c1) (O.2.2.2.2.1 _ c4) c7 hR, c6, O.2.2.2.2.1 _ c2⟩ hpre rfl (by rw [List.length_map]; exact hn) (Lh_size hL) hstk hw8 hd ⟨g1, g2⟩
theorem r_ret {i : Instr} {o : Option Value} (hrt : retI (k_rt κ) i o) (hd : decode cc pc = .ok (i, 1)) (hr : k_ret κ o h) : wA cc κ pc ls o.toList h := fun O mls H locs cells slots hL hW => by
  have e : (o.toList).map (cv (k_G κ)) = o.toList.map (cv (k_G κ)) := rfl
  exact O.2.2.2.2.2.2 pc i o mls H locs cells slots h hrt hd hW hr
/-- switches: the body at which the case of a value begins -/
def ixI : List (Int32 × Nat) → Nat → Int → Nat
  | [], d, _ => d
  | (k, i) :: t, d, v => if v = k.toInt then i else ixI t d v
def ixOf : List (Int32 × Nat) → Nat → Int32 → Nat
  | [], d, _ => d
  | (k, i) :: t, d, v => if v = k then i else ixOf t d v
theorem ix_eq (d : Nat) (v : Int32) : ∀ tbl : List (Int32 × Nat), ixI tbl d v.toInt = ixOf tbl d v
  | [] => rfl
  | (k, i) :: t => by
    simp only [ixI, ixOf, ix_eq d v t, Int32.toInt_inj]
def tsOK (pc : Nat) (dflt lo hi : Int) (offs : List Int) (tbl : List (Int32 × Nat)) (d : Nat) (pcs : List Nat) : Bool :=
  (List.range offs.length).all (fun j => decide ((pc : Int) + offs.getD j 0 = ((pcs.getD (ixI tbl d (lo + j)) 0 : Nat) : Int))) && tbl.all (fun q => decide (lo ≤ q.1.toInt) && decide (q.1.toInt ≤ hi)) && decide ((offs.length : Int) = hi - lo + 1) && decide ((pc : Int) + dflt = ((pcs.getD d 0 : Nat) : Int))
theorem ixI_out (d : Nat) (v lo hi : Int) (hv : v < lo ∨ hi < v) : ∀ tbl : List (Int32 × Nat), (∀ q ∈ tbl, lo ≤ q.1.toInt ∧ q.1.toInt ≤ hi) → ixI tbl d v = d
  | [], _ => rfl
  | (k, i) :: t, h => by
    have h1 := h (k, i) List.mem_cons_self
    simp only at h1
    simp only [ixI]
    rw [if_neg (by omega), ixI_out d v lo hi hv t fun q hq => h q (List.mem_cons_of_mem _ hq)]
theorem r_tsw {dflt lo hi : Int} {offs : Array Int} {len : Nat} {x : Int32} {tbl : List (Int32 × Nat)} {d : Nat} {pcs : List Nat} (hd : decode cc pc = .ok (.tableswitch dflt lo hi offs, len)) (hok : tsOK pc dflt lo hi offs.toList tbl d pcs = true) (kk : wA cc κ (pcs.getD (ixOf tbl d x) 0) ls st h) : wA cc κ pc ls (.int x :: st) h := by
  intro O mls H locs cells slots hL hW
  unfold tsOK at hok
  simp only [Bool.and_eq_true, decide_eq_true_eq, List.all_eq_true, List.mem_range] at hok
  obtain ⟨⟨⟨h1, h2⟩, h3⟩, h4⟩ := hok
  have k2 := kk O mls H locs cells slots hL hW
  rw [← ix_eq] at k2
  by_cases hv : x.toInt < lo ∨ hi < x.toInt
  · rw [ixI_out d x.toInt lo hi hv tbl h2] at k2
    exact lv_tableOut O.1 O.2.1 hd hv h4 k2
  · have hj : (x.toInt - lo).toNat < offs.toList.length := by omega
    have h5 := h1 _ hj
    rw [show lo + ((x.toInt - lo).toNat : Int) = x.toInt by omega] at h5
    refine lv_tableIn O.1 O.2.1 hd (fun q => hv (Or.inl q)) (fun q => hv (Or.inr q)) (off := offs.toList.getD (x.toInt - lo).toNat 0) ?_ h5 k2
    rw [← Array.getElem?_toList, List.getD_eq_getElem?_getD, List.getElem?_eq_getElem hj]
    rfl
def lsOK (pc : Nat) (dflt : Int) (ps : List (Int × Int)) (tbl : List (Int32 × Nat)) (d : Nat) (pcs : List Nat) : Bool :=
  (ps.zip (ps.drop 1)).all (fun (a, next) => a.1 < next.1) && decide (ps.map (fun q => ((q.1, (pc : Int) + q.2) : Int × Int)) = tbl.map (fun q => ((q.1.toInt, ((pcs.getD q.2 0 : Nat) : Int)) : Int × Int))) && decide ((pc : Int) + dflt = ((pcs.getD d 0 : Nat) : Int))
theorem ls_off (pc : Nat) (dflt v : Int) (d : Nat) (pcs : List Nat) (hd : (pc : Int) + dflt = ((pcs.getD d 0 : Nat) : Int)) : ∀ (ps : List (Int × Int)) (tbl : List (Int32 × Nat)), ps.map (fun q => ((q.1, (pc : Int) + q.2) : Int × Int)) = tbl.map (fun q => ((q.1.toInt, ((pcs.getD q.2 0 : Nat) : Int)) : Int × Int)) → (pc : Int) + Op.lookupswitch.offset ps dflt v = ((pcs.getD (ixI tbl d v) 0 : Nat) : Int)
  | [], [], _ => by simpa [Op.lookupswitch.offset, ixI] using hd
  | [], _ :: _, h => by simp at h
  | _ :: _, [], h => by simp at h
  | (a, b) :: ps, (k, i) :: tbl, h => by
    simp only [List.map_cons, List.cons.injEq, Prod.mk.injEq] at h
    obtain ⟨⟨h1, h2⟩, h3⟩ := h
    have ih := ls_off pc dflt v d pcs hd ps tbl h3
    subst h1
    by_cases e : v = k.toInt
    · subst e
      simpa [Op.lookupswitch.offset, ixI] using h2
    · have e2 : ¬ k.toInt = v := fun q => e q.symm
      simpa [Op.lookupswitch.offset, ixI, e, e2] using ih
theorem r_lsw {dflt : Int} {ps : Array (Int × Int)} {len : Nat} {x : Int32} {tbl : List (Int32 × Nat)} {d : Nat} {pcs : List Nat} (hd : decode cc pc = .ok (.lookupswitch dflt ps, len)) (hok : lsOK pc dflt ps.toList tbl d pcs = true) (kk : wA cc κ (pcs.getD (ixOf tbl d x) 0) ls st h) : wA cc κ pc ls (.int x :: st) h := by
  intro O mls H locs cells slots hL hW
  unfold lsOK at hok
  simp only [Bool.and_eq_true, decide_eq_true_eq] at hok
  obtain ⟨⟨h1, h2⟩, h4⟩ := hok
  have k2 := kk O mls H locs cells slots hL hW
  rw [← ix_eq] at k2
  exact lv_lookup O.1 O.2.1 hd h1 rfl (ls_off pc dflt x.toInt d pcs h4 _ _ h2) k2
end NU
end
section
/-! THE MEANING OF JAVA, as transformers of what shall hold behind; expressions PX, statements PS; and how bytecode carries them (Ev: pushes a value, Eo: pushes what a call gives back, Ea: pushes arguments, Cd: branches, Ex: carries out) -/
abbrev PX (α : Type) : Type := LV → HV → (α → HV → Prop) → Prop
abbrev PS : Type := (LV → HV → Prop) → (LV → HV → Prop) → (LV → HV → Prop) → (Option Value → HV → Prop) → LV → HV → Prop
section PD
variable {α β γ : Type}
def eV (v : α) : PX α := fun _ h K => K v h
def eI (i : Nat) : PX Int32 := fun ls h K => ∃ x, ls[i]? = some (.int x) ∧ K x h
def eL (i : Nat) : PX Int64 := fun ls h K => ∃ x, ls[i]? = some (.long x) ∧ K x h
def eR (i : Nat) : PX Nat := fun ls h K => ∃ x, ls[i]? = some (.ref x) ∧ K x h
def e1 (f : α → β) (a : PX α) : PX β := fun ls h K => a ls h fun x h1 => K (f x) h1
def e2 (f : α → β → γ) (a : PX α) (b : PX β) : PX γ := fun ls h K => a ls h fun x h1 => b ls h1 fun y h2 => K (f x y) h2
def eDI (f : Int32 → Int32 → Int32) (a b : PX Int32) : PX Int32 := fun ls h K => a ls h fun x h1 => b ls h1 fun y h2 => ¬ y = 0 ∧ K (f x y) h2
def eDL (f : Int64 → Int64 → Int64) (a b : PX Int64) : PX Int64 := fun ls h K => a ls h fun x h1 => b ls h1 fun y h2 => ¬ y = 0 ∧ K (f x y) h2
/-- a field of an int, a long, a reference -/
def eFI (ci k : Nat) (a : PX Nat) : PX Int32 := fun ls h K => a ls h fun r h1 => r ≠ 1 ∧ hk h1 r = some ci ∧ ∃ x, hg h1 r k = some (.int x) ∧ K x h1
def eFL (ci k : Nat) (a : PX Nat) : PX Int64 := fun ls h K => a ls h fun r h1 => r ≠ 1 ∧ hk h1 r = some ci ∧ ∃ x, hg h1 r k = some (.long x) ∧ K x h1
def eFR (ci k : Nat) (a : PX Nat) : PX Nat := fun ls h K => a ls h fun r h1 => r ≠ 1 ∧ hk h1 r = some ci ∧ ∃ x, hg h1 r k = some (.ref x) ∧ K x h1
def eAI (a : PX Nat) (i : PX Int32) : PX Int32 := fun ls h K => a ls h fun r h1 => i ls h1 fun j h2 => r ≠ 1 ∧ hk h2 r = some 20 ∧ 0 ≤ j ∧ ∃ x, hg h2 r j.toNatClampNeg = some (.int x) ∧ K x h2
def eAZ (a : PX Nat) (i : PX Int32) : PX Int32 := fun ls h K => a ls h fun r h1 => i ls h1 fun j h2 => 2 ≤ r ∧ hk h2 r = some 21 ∧ 0 ≤ j ∧ ∃ x, hg h2 r j.toNatClampNeg = some (.int x) ∧ K x h2
def eAR (a : PX Nat) (i : PX Int32) : PX Nat := fun ls h K => a ls h fun r h1 => i ls h1 fun j h2 => 2 ≤ r ∧ hk h2 r = some 22 ∧ 0 ≤ j ∧ ∃ x, hg h2 r j.toNatClampNeg = some (.ref x) ∧ K x h2
def eLen (a : PX Nat) : PX Int32 := fun ls h K => a ls h fun r h1 => r ≠ 1 ∧ hk h1 r = some 20 ∧ ∃ n, hn h1 r = some n ∧ K (Int32.ofNat n) h1
def aN : PX LV := fun _ h K => K [] h
def aC (ia : α → Value) (e : PX α) (es : PX LV) : PX LV := fun ls h K => e ls h fun x h1 => es ls h1 fun vs h2 => K (ia x :: vs) h2
/-- calls: of an object of the class ci with n more arguments; of a static method -/
def xV (ci n : Nat) (F : PM) (r : PX Nat) (as : PX LV) : PX (Option Value) := fun ls h K => r ls h fun q h1 => as ls h1 fun t h2 => q ≠ 1 ∧ hk h2 q = some ci ∧ t.length = n ∧ F (.ref q :: t) h2 K
def xS (n : Nat) (F : PM) (as : PX LV) : PX (Option Value) := fun ls h K => as ls h fun t h2 => t.length = n ∧ F t h2 K
def eX (ia : α → Value) (c : PX (Option Value)) : PX α := fun ls h K => c ls h fun o h1 => ∃ x, o = some (ia x) ∧ K x h1
def eIf (c : PX Bool) (a b : PX α) : PX α := fun ls h K => c ls h fun t h1 => if t then a ls h1 K else b ls h1 K
def eC (c : PX Bool) : PX Int32 := fun ls h K => c ls h fun t h1 => K (if t then 1 else 0) h1
def cA (a b : PX Bool) : PX Bool := fun ls h K => a ls h fun t h1 => if t then b ls h1 K else K false h1
def cO (a b : PX Bool) : PX Bool := fun ls h K => a ls h fun t h1 => if t then K true h1 else b ls h1 K
def cN (a : PX Bool) : PX Bool := fun ls h K => a ls h fun t h1 => K (!t) h1
-- statements
def sSk : PS := fun kn _ _ _ ls h => kn ls h
def sSq (a b : PS) : PS := fun kn kb kc kr ls h => a (fun ls1 h1 => b kn kb kc kr ls1 h1) kb kc kr ls h
def sI (i : Nat) (e : PX Int32) : PS := fun kn _ _ _ ls h => e ls h fun x h1 => i < ls.length ∧ kn (lset ls i (.int x)) h1
def sL (i : Nat) (e : PX Int64) : PS := fun kn _ _ _ ls h => e ls h fun x h1 => i + 1 < ls.length ∧ kn (lset (lset ls (i + 1) .null) i (.long x)) h1
def sR (i : Nat) (e : PX Nat) : PS := fun kn _ _ _ ls h => e ls h fun x h1 => i < ls.length ∧ kn (lset ls i (.ref x)) h1
def sInc (i : Nat) (n : Int32) : PS := fun kn _ _ _ ls h => ∃ x, ls[i]? = some (.int x) ∧ kn (lset ls i (.int (x + n))) h
def sF (ia : α → Value) (ci k : Nat) (a : PX Nat) (e : PX α) : PS := fun kn _ _ _ ls h => a ls h fun r h1 => e ls h1 fun x h2 => r ≠ 1 ∧ hk h2 r = some ci ∧ (∃ w, hg h2 r k = some w) ∧ kn ls (hs h2 r k (ia x))
/-- o.f op= e (of an int) -/
def sFO (ci k : Nat) (f : Int32 → Int32 → Int32) (a : PX Nat) (e : PX Int32) : PS := fun kn _ _ _ ls h => a ls h fun r h1 => r ≠ 1 ∧ hk h1 r = some ci ∧ ∃ x, hg h1 r k = some (.int x) ∧ e ls h1 fun y h2 => hk h2 r = some ci ∧ (∃ w, hg h2 r k = some w) ∧ kn ls (hs h2 r k (.int (f x y)))
def sAI (a : PX Nat) (i e : PX Int32) : PS := fun kn _ _ _ ls h => a ls h fun r h1 => i ls h1 fun j h2 => e ls h2 fun x h3 => 2 ≤ r ∧ hk h3 r = some 20 ∧ 0 ≤ j ∧ (∃ w, hg h3 r j.toNatClampNeg = some w) ∧ kn ls (hs h3 r j.toNatClampNeg (.int x))
def sAZ (a : PX Nat) (i e : PX Int32) : PS := fun kn _ _ _ ls h => a ls h fun r h1 => i ls h1 fun j h2 => e ls h2 fun x h3 => 2 ≤ r ∧ hk h3 r = some 21 ∧ 0 ≤ j ∧ (x = 0 ∨ x = 1) ∧ (∃ w, hg h3 r j.toNatClampNeg = some w) ∧ kn ls (hs h3 r j.toNatClampNeg (.int x))
/-- a[i] op= e -/
def sAO (f : Int32 → Int32 → Int32) (a : PX Nat) (i e : PX Int32) : PS := fun kn _ _ _ ls h => a ls h fun r h1 => i ls h1 fun j h2 => 2 ≤ r ∧ hk h2 r = some 20 ∧ 0 ≤ j ∧ ∃ x, hg h2 r j.toNatClampNeg = some (.int x) ∧ e ls h2 fun y h3 => hk h3 r = some 20 ∧ (∃ w, hg h3 r j.toNatClampNeg = some w) ∧ kn ls (hs h3 r j.toNatClampNeg (.int (f x y)))
def sX (c : PX (Option Value)) : PS := fun kn _ _ _ ls h => c ls h fun o h1 => o = none ∧ kn ls h1
def sXp (c : PX (Option Value)) : PS := fun kn _ _ _ ls h => c ls h fun o h1 => (∃ x, o = some (.int x)) ∧ kn ls h1
def sIf (c : PX Bool) (a b : PS) : PS := fun kn kb kc kr ls h => c ls h fun t h1 => if t then a kn kb kc kr ls h1 else b kn kb kc kr ls h1
/-- while (c) { b } with the step st; n locals live at its head -/
def sLp (n : Nat) (c : PX Bool) (b st : PS) : PS := fun kn _ _ kr ls h => ∀ X : LV → HV → Prop,
  (∀ ls h, c ls h (fun t h1 => if t then b (fun ls2 h2 => st (fun ls3 h3 => X (lcut n ls3) h3) (fun _ _ => False) (fun _ _ => False) kr ls2 h2) (fun ls2 h2 => kn (lcut n ls2) h2) (fun ls2 h2 => st (fun ls3 h3 => X (lcut n ls3) h3) (fun _ _ => False) (fun _ _ => False) kr ls2 h2) kr ls h1 else kn ls h1) → X ls h) → X ls h
def sCut (n : Nat) (a : PS) : PS := fun kn kb kc kr ls h => a (fun ls1 h1 => kn (lcut n ls1) h1) kb kc kr ls h
def sSqs : List PS → PS
  | [] => sSk
  | a :: t => sSq a (sSqs t)
/-- switch: the bodies, each running on into the next -/
def sSw (n : Nat) (e : PX Int32) (tbl : List (Int32 × Nat)) (d : Nat) (bs : List PS) : PS := fun kn _ kc kr ls h => e ls h fun x h1 => sSqs (bs.drop (ixOf tbl d x)) (fun ls2 h2 => kn (lcut n ls2) h2) (fun ls2 h2 => kn (lcut n ls2) h2) kc kr ls h1
def sRt (ia : α → Value) (e : PX α) : PS := fun _ _ _ kr ls h => e ls h fun x h1 => kr (some (ia x)) h1
def sRz (e : PX Int32) : PS := fun _ _ _ kr ls h => e ls h fun x h1 => (x = 0 ∨ x = 1) ∧ kr (some (.int x)) h1
def sRv : PS := fun _ _ _ kr _ h => kr none h
def sBk : PS := fun _ kb _ _ ls h => kb ls h
def sCt : PS := fun _ _ kc _ ls h => kc ls h
def sCp (a : PX Nat) (i : PX Int32) (b : PX Nat) (j m : PX Int32) : PS := fun kn _ _ _ ls h => a ls h fun r h1 => i ls h1 fun x h2 => b ls h2 fun q h3 => j ls h3 fun y h4 => m ls h4 fun z h5 =>
  ∃ src dst, h5[r]? = some (20, src) ∧ h5[q]? = some (20, dst) ∧ 2 ≤ r ∧ 2 ≤ q ∧ ¬ x < 0 ∧ ¬ y < 0 ∧ ¬ z < 0 ∧ x.toNatClampNeg + z.toNatClampNeg ≤ src.length ∧ y.toNatClampNeg + z.toNatClampNeg ≤ dst.length ∧ kn ls (h5.set q (20, cpyL src dst x.toNatClampNeg y.toNatClampNeg z.toNatClampNeg))
-- what a constructor makes; g: how many cells and slots there may be
def eNew (g : Nat × Nat) (ci : Nat) (fs : List Value) (rm : Room) (n : Nat) (F : PM) (as : PX LV) : PX Nat := fun ls h K => h.length + 1 ≤ g.1 ∧ hsz h + fs.length ≤ g.2 ∧ as ls (h ++ [(ci, fs)]) fun t h1 => t.length = n ∧ h1.length + rm.cells ≤ g.1 ∧ hsz h1 + rm.slots ≤ g.2 ∧ F (.ref h.length :: t) h1 fun o h2 => o = none ∧ K h.length h2
def eNA (g : Nat × Nat) (kd : Nat) (n : PX Int32) : PX Nat := fun ls h K => n ls h fun x h1 => ¬ x < 0 ∧ x.toNatClampNeg ≤ 100000000 ∧ h1.length + 1 ≤ g.1 ∧ hsz h1 + x.toNatClampNeg ≤ g.2 ∧ K h1.length (h1 ++ [(kd, List.replicate x.toNatClampNeg (.int 0))])
def eNM (g : Nat × Nat) (n : PX Int32) : PX Nat := fun ls h K => n ls h fun x h1 => ¬ x < 0 ∧ x.toNatClampNeg ≤ 100000000 ∧ h1.length + 3 ≤ g.1 ∧ hsz h1 + (2 + 2 * x.toNatClampNeg) ≤ g.2 ∧ K h1.length (h1 ++ [(22, [.ref (h1.length + 1), .ref (h1.length + 2)])] ++ [(20, List.replicate x.toNatClampNeg (.int 0))] ++ [(20, List.replicate x.toNatClampNeg (.int 0))])
end PD
/-! how bytecode carries them -/
section PR
variable {α β γ : Type} {cc : ByteArray} {κ : KT} {d w pc pc1 pc2 pc3 pc4 pc5 pT pF pN pB pC : Nat}
def Ev (cc : ByteArray) (κ : KT) (d pc pc' : Nat) (ia : α → Value) (E : PX α) : Prop := ∀ ls st h K, stw st ≤ d → (∀ x h', K x h' → wA cc κ pc' ls (ia x :: st) h') → E ls h K → wA cc κ pc ls st h
def Eo (cc : ByteArray) (κ : KT) (d pc pc' : Nat) (E : PX (Option Value)) : Prop := ∀ ls st h K, stw st ≤ d → (∀ o h', K o h' → wA cc κ pc' ls (o.toList ++ st) h') → E ls h K → wA cc κ pc ls st h
def Ea (cc : ByteArray) (κ : KT) (d pc pc' : Nat) (E : PX LV) : Prop := ∀ ls st h K, stw st ≤ d → (∀ vs h', K vs h' → wA cc κ pc' ls (vs.reverse ++ st) h') → E ls h K → wA cc κ pc ls st h
def Cd (cc : ByteArray) (κ : KT) (d pc pT pF : Nat) (E : PX Bool) : Prop := ∀ ls st h K, stw st ≤ d → (∀ h', K true h' → wA cc κ pT ls st h') → (∀ h', K false h' → wA cc κ pF ls st h') → E ls h K → wA cc κ pc ls st h
def Ex (cc : ByteArray) (κ : KT) (pc pN pB pC : Nat) (S : PS) : Prop := ∀ ls h kn kb kc kr, (∀ ls' h', kn ls' h' → wA cc κ pN ls' [] h') → (∀ ls' h', kb ls' h' → wA cc κ pB ls' [] h') → (∀ ls' h', kc ls' h' → wA cc κ pC ls' [] h') → (∀ o h', kr o h' → k_ret κ o h') → S kn kb kc kr ls h → wA cc κ pc ls [] h
theorem stw_cons (v : Value) (st : LV) : stw (v :: st) = v.category + stw st := by simp [stw]
theorem E_ic {n : Int} {v : Int32} (hd : decode cc pc = .ok (.iconst n, 1)) (hv : Int32.ofInt n = v) : Ev cc κ d pc (pc + 1) .int (eV v) := fun _ _ _ _ _ q k => r_iconst hd hv (q _ _ k)
theorem E_bi {n : Int} {v : Int32} (hd : decode cc pc = .ok (.bipush n, 2)) (hv : (Int8.ofInt n).toInt32 = v) : Ev cc κ d pc (pc + 2) .int (eV v) := fun _ _ _ _ _ q k => r_bipush hd hv (q _ _ k)
theorem E_si {n : Int} {v : Int32} (hd : decode cc pc = .ok (.sipush n, 3)) (hv : (Int16.ofInt n).toInt32 = v) : Ev cc κ d pc (pc + 3) .int (eV v) := fun _ _ _ _ _ q k => r_sipush hd hv (q _ _ k)
theorem E_lc {n : Fin 2} {v : Int64} (hd : decode cc pc = .ok (.lconst n, 1)) (hv : Int64.ofNat (n : Nat) = v) : Ev cc κ d pc (pc + 1) .long (eV v) := fun _ _ _ _ _ q k => r_lconst hd hv (q _ _ k)
theorem E_ldcw {own : String} {index : Nat} {v : Int32} (ho : k_own κ = own) (hw : Cond.constant own index v ∈ BIG) (hd : decode cc pc = .ok (.ldc_w index, 3)) : Ev cc κ d pc (pc + 3) .int (eV v) := fun _ _ _ _ _ q k => r_ldcw ho hw hd (q _ _ k)
theorem E_ldc2 {own : String} {index : Nat} {v : Int64} (ho : k_own κ = own) (hw : Cond.constantLong own index v ∈ BIG) (hd : decode cc pc = .ok (.ldc2_w index, 3)) : Ev cc κ d pc (pc + 3) .long (eV v) := fun _ _ _ _ _ q k => r_ldc2 ho hw hd (q _ _ k)
theorem E_iln {k : Fin 4} {i : Nat} (hd : decode cc pc = .ok (.iload_n k, 1)) (hi : (k : Nat) = i) : Ev cc κ d pc (pc + 1) .int (eI i) := fun _ _ _ _ _ q ⟨_, hl, k⟩ => r_iload_n hd hi hl (q _ _ k)
theorem E_il {i : Nat} (hd : decode cc pc = .ok (.iload i, 2)) : Ev cc κ d pc (pc + 2) .int (eI i) := fun _ _ _ _ _ q ⟨_, hl, k⟩ => r_iload hd hl (q _ _ k)
theorem E_lln {k : Fin 4} {i : Nat} (hd : decode cc pc = .ok (.lload_n k, 1)) (hi : (k : Nat) = i) : Ev cc κ d pc (pc + 1) .long (eL i) := fun _ _ _ _ _ q ⟨_, hl, k⟩ => r_lload_n hd hi hl (q _ _ k)
theorem E_ll {i : Nat} (hd : decode cc pc = .ok (.lload i, 2)) : Ev cc κ d pc (pc + 2) .long (eL i) := fun _ _ _ _ _ q ⟨_, hl, k⟩ => r_lload hd hl (q _ _ k)
theorem E_aln {k : Fin 4} {i : Nat} (hd : decode cc pc = .ok (.aload_n k, 1)) (hi : (k : Nat) = i) : Ev cc κ d pc (pc + 1) .ref (eR i) := fun _ _ _ _ _ q ⟨_, hl, k⟩ => r_aload_n hd hi hl (q _ _ k)
theorem E_u {f : α → β} {ia : α → Value} {ib : β → Value} {a : PX α} (h1 : Ev cc κ d pc pc1 ia a) (op : ∀ ls st h x, wA cc κ pc2 ls (ib (f x) :: st) h → wA cc κ pc1 ls (ia x :: st) h) : Ev cc κ d pc pc2 ib (e1 f a) :=
  fun ls st h K hs q k => h1 ls st h _ hs (fun x h' z => op ls st h' x (q _ _ z)) k
theorem E_b {f : α → β → γ} {ia : α → Value} {ib : β → Value} {ig : γ → Value} {a : PX α} {b : PX β} (hw : ∀ x, (ia x).category = w) (h1 : Ev cc κ d pc pc1 ia a) (h2 : Ev cc κ (w + d) pc1 pc2 ib b) (op : ∀ ls st h x y, wA cc κ pc3 ls (ig (f x y) :: st) h → wA cc κ pc2 ls (ib y :: ia x :: st) h) : Ev cc κ d pc pc3 ig (e2 f a b) :=
  fun ls st h K hs q k => h1 ls st h _ hs (fun x h' z => h2 ls (ia x :: st) h' _ (by rw [stw_cons, hw]; omega) (fun y h2 z2 => op ls st h2 x y (q _ _ z2)) z) k
theorem catI (x : Int32) : (Value.int x).category = 1 := rfl
theorem catL (x : Int64) : (Value.long x).category = 2 := rfl
theorem catR (x : Nat) : (Value.ref x).category = 1 := rfl
section BI
variable {a b : PX Int32}
theorem E_iadd (h1 : Ev cc κ d pc pc1 .int a) (h2 : Ev cc κ (1 + d) pc1 pc2 .int b) (hd : decode cc pc2 = .ok (.iadd, 1)) : Ev cc κ d pc (pc2 + 1) .int (e2 (fun x y : Int32 => x + y) a b) := E_b catI h1 h2 fun _ _ _ _ _ k => r_iadd hd k
theorem E_isub (h1 : Ev cc κ d pc pc1 .int a) (h2 : Ev cc κ (1 + d) pc1 pc2 .int b) (hd : decode cc pc2 = .ok (.isub, 1)) : Ev cc κ d pc (pc2 + 1) .int (e2 (fun x y : Int32 => x - y) a b) := E_b catI h1 h2 fun _ _ _ _ _ k => r_isub hd k
theorem E_imul (h1 : Ev cc κ d pc pc1 .int a) (h2 : Ev cc κ (1 + d) pc1 pc2 .int b) (hd : decode cc pc2 = .ok (.imul, 1)) : Ev cc κ d pc (pc2 + 1) .int (e2 (fun x y : Int32 => x * y) a b) := E_b catI h1 h2 fun _ _ _ _ _ k => r_imul hd k
theorem E_iand (h1 : Ev cc κ d pc pc1 .int a) (h2 : Ev cc κ (1 + d) pc1 pc2 .int b) (hd : decode cc pc2 = .ok (.iand, 1)) : Ev cc κ d pc (pc2 + 1) .int (e2 (fun x y : Int32 => x &&& y) a b) := E_b catI h1 h2 fun _ _ _ _ _ k => r_iand hd k
theorem E_ior (h1 : Ev cc κ d pc pc1 .int a) (h2 : Ev cc κ (1 + d) pc1 pc2 .int b) (hd : decode cc pc2 = .ok (.ior, 1)) : Ev cc κ d pc (pc2 + 1) .int (e2 (fun x y : Int32 => x ||| y) a b) := E_b catI h1 h2 fun _ _ _ _ _ k => r_ior hd k
theorem E_ixor (h1 : Ev cc κ d pc pc1 .int a) (h2 : Ev cc κ (1 + d) pc1 pc2 .int b) (hd : decode cc pc2 = .ok (.ixor, 1)) : Ev cc κ d pc (pc2 + 1) .int (e2 (fun x y : Int32 => x ^^^ y) a b) := E_b catI h1 h2 fun _ _ _ _ _ k => r_ixor hd k
theorem E_ishl (h1 : Ev cc κ d pc pc1 .int a) (h2 : Ev cc κ (1 + d) pc1 pc2 .int b) (hd : decode cc pc2 = .ok (.ishl, 1)) : Ev cc κ d pc (pc2 + 1) .int (e2 (fun x y : Int32 => x <<< (y &&& 31)) a b) := E_b catI h1 h2 fun _ _ _ _ _ k => r_ishl hd k
theorem E_ishr (h1 : Ev cc κ d pc pc1 .int a) (h2 : Ev cc κ (1 + d) pc1 pc2 .int b) (hd : decode cc pc2 = .ok (.ishr, 1)) : Ev cc κ d pc (pc2 + 1) .int (e2 (fun x y : Int32 => x >>> (y &&& 31)) a b) := E_b catI h1 h2 fun _ _ _ _ _ k => r_ishr hd k
theorem E_iushr (h1 : Ev cc κ d pc pc1 .int a) (h2 : Ev cc κ (1 + d) pc1 pc2 .int b) (hd : decode cc pc2 = .ok (.iushr, 1)) : Ev cc κ d pc (pc2 + 1) .int (e2 (fun x y => (x.toUInt32 >>> (y.toUInt32 &&& Int32.toUInt32 31)).toInt32) a b) := E_b catI h1 h2 fun _ _ _ _ _ k => r_iushr hd k
theorem E_ineg (h1 : Ev cc κ d pc pc1 .int a) (hd : decode cc pc1 = .ok (.ineg, 1)) : Ev cc κ d pc (pc1 + 1) .int (e1 (fun x => -x) a) := E_u h1 fun _ _ _ _ k => r_ineg hd k
theorem E_i2l (h1 : Ev cc κ d pc pc1 .int a) (hd : decode cc pc1 = .ok (.i2l, 1)) : Ev cc κ d pc (pc1 + 1) .long (e1 (fun x : Int32 => x.toInt64) a) := E_u h1 fun _ _ _ _ k => r_i2l hd k
theorem E_idiv (h1 : Ev cc κ d pc pc1 .int a) (h2 : Ev cc κ (1 + d) pc1 pc2 .int b) (hd : decode cc pc2 = .ok (.idiv, 1)) : Ev cc κ d pc (pc2 + 1) .int (eDI (fun x y => x / y) a b) :=
  fun ls st h K hs q k => h1 ls st h _ hs (fun x h' z => h2 ls (.int x :: st) h' _ (by rw [stw_cons, catI]; omega) (fun y h2 z2 => r_idiv hd z2.1 (q _ _ z2.2)) z) k
theorem E_irem (h1 : Ev cc κ d pc pc1 .int a) (h2 : Ev cc κ (1 + d) pc1 pc2 .int b) (hd : decode cc pc2 = .ok (.irem, 1)) : Ev cc κ d pc (pc2 + 1) .int (eDI (fun x y => x - x / y * y) a b) :=
  fun ls st h K hs q k => h1 ls st h _ hs (fun x h' z => h2 ls (.int x :: st) h' _ (by rw [stw_cons, catI]; omega) (fun y h2 z2 => r_irem hd z2.1 (q _ _ z2.2)) z) k
end BI
section BL
variable {a b : PX Int64} {c : PX Int32}
theorem E_ladd (h1 : Ev cc κ d pc pc1 .long a) (h2 : Ev cc κ (2 + d) pc1 pc2 .long b) (hd : decode cc pc2 = .ok (.ladd, 1)) : Ev cc κ d pc (pc2 + 1) .long (e2 (fun x y : Int64 => x + y) a b) := E_b catL h1 h2 fun _ _ _ _ _ k => r_ladd hd k
theorem E_lsub (h1 : Ev cc κ d pc pc1 .long a) (h2 : Ev cc κ (2 + d) pc1 pc2 .long b) (hd : decode cc pc2 = .ok (.lsub, 1)) : Ev cc κ d pc (pc2 + 1) .long (e2 (fun x y : Int64 => x - y) a b) := E_b catL h1 h2 fun _ _ _ _ _ k => r_lsub hd k
theorem E_lmul (h1 : Ev cc κ d pc pc1 .long a) (h2 : Ev cc κ (2 + d) pc1 pc2 .long b) (hd : decode cc pc2 = .ok (.lmul, 1)) : Ev cc κ d pc (pc2 + 1) .long (e2 (fun x y : Int64 => x * y) a b) := E_b catL h1 h2 fun _ _ _ _ _ k => r_lmul hd k
theorem E_land (h1 : Ev cc κ d pc pc1 .long a) (h2 : Ev cc κ (2 + d) pc1 pc2 .long b) (hd : decode cc pc2 = .ok (.land, 1)) : Ev cc κ d pc (pc2 + 1) .long (e2 (fun x y : Int64 => x &&& y) a b) := E_b catL h1 h2 fun _ _ _ _ _ k => r_land hd k
theorem E_lor (h1 : Ev cc κ d pc pc1 .long a) (h2 : Ev cc κ (2 + d) pc1 pc2 .long b) (hd : decode cc pc2 = .ok (.lor, 1)) : Ev cc κ d pc (pc2 + 1) .long (e2 (fun x y : Int64 => x ||| y) a b) := E_b catL h1 h2 fun _ _ _ _ _ k => r_lor hd k
theorem E_lshl (h1 : Ev cc κ d pc pc1 .long a) (h2 : Ev cc κ (2 + d) pc1 pc2 .int c) (hd : decode cc pc2 = .ok (.lshl, 1)) : Ev cc κ d pc (pc2 + 1) .long (e2 (fun (x : Int64) (y : Int32) => x <<< (y.toInt64 &&& 63)) a c) := E_b catL h1 h2 fun _ _ _ _ _ k => r_lshl hd k
theorem E_lushr (h1 : Ev cc κ d pc pc1 .long a) (h2 : Ev cc κ (2 + d) pc1 pc2 .int c) (hd : decode cc pc2 = .ok (.lushr, 1)) : Ev cc κ d pc (pc2 + 1) .long (e2 (fun x y => (x.toUInt64 >>> (y.toInt64.toUInt64 &&& Int64.toUInt64 63)).toInt64) a c) := E_b catL h1 h2 fun _ _ _ _ _ k => r_lushr hd k
theorem E_l2i (h1 : Ev cc κ d pc pc1 .long a) (hd : decode cc pc1 = .ok (.l2i, 1)) : Ev cc κ d pc (pc1 + 1) .int (e1 (fun x : Int64 => x.toInt32) a) := E_u h1 fun _ _ _ _ k => r_l2i hd k
theorem E_ldiv (h1 : Ev cc κ d pc pc1 .long a) (h2 : Ev cc κ (2 + d) pc1 pc2 .long b) (hd : decode cc pc2 = .ok (.ldiv, 1)) : Ev cc κ d pc (pc2 + 1) .long (eDL (fun x y => x / y) a b) :=
  fun ls st h K hs q k => h1 ls st h _ hs (fun x h' z => h2 ls (.long x :: st) h' _ (by rw [stw_cons, catL]; omega) (fun y h2 z2 => r_ldiv hd z2.1 (q _ _ z2.2)) z) k
theorem E_lrem (h1 : Ev cc κ d pc pc1 .long a) (h2 : Ev cc κ (2 + d) pc1 pc2 .long b) (hd : decode cc pc2 = .ok (.lrem, 1)) : Ev cc κ d pc (pc2 + 1) .long (eDL (fun x y => x - x / y * y) a b) :=
  fun ls st h K hs q k => h1 ls st h _ hs (fun x h' z => h2 ls (.long x :: st) h' _ (by rw [stw_cons, catL]; omega) (fun y h2 z2 => r_lrem hd z2.1 (q _ _ z2.2)) z) k
end BL
section FI
variable {own : String} {index ci k : Nat} {ty : FieldType} {fin : Nat} {a : PX Nat} {i : PX Int32}
theorem E_fI (hF : FldOK own index ci k ty fin) (ho : k_own κ = own) (h1 : Ev cc κ d pc pc1 .ref a) (hd : decode cc pc1 = .ok (.getfield index, 3)) : Ev cc κ d pc (pc1 + 3) .int (eFI ci k a) :=
  fun ls st h K hs q z => h1 ls st h _ hs (fun _ _ ⟨z1, z2, _, z3, z4⟩ => r_get hF ho z1 z2 z3 hd (q _ _ z4)) z
theorem E_fL (hF : FldOK own index ci k ty fin) (ho : k_own κ = own) (h1 : Ev cc κ d pc pc1 .ref a) (hd : decode cc pc1 = .ok (.getfield index, 3)) : Ev cc κ d pc (pc1 + 3) .long (eFL ci k a) :=
  fun ls st h K hs q z => h1 ls st h _ hs (fun _ _ ⟨z1, z2, _, z3, z4⟩ => r_get hF ho z1 z2 z3 hd (q _ _ z4)) z
theorem E_fR (hF : FldOK own index ci k ty fin) (ho : k_own κ = own) (h1 : Ev cc κ d pc pc1 .ref a) (hd : decode cc pc1 = .ok (.getfield index, 3)) : Ev cc κ d pc (pc1 + 3) .ref (eFR ci k a) :=
  fun ls st h K hs q z => h1 ls st h _ hs (fun _ _ ⟨z1, z2, _, z3, z4⟩ => r_get hF ho z1 z2 z3 hd (q _ _ z4)) z
theorem E_fN {C : String} {T : u_T} {N : Nat} {host : String} (f1 : ci < 20) (f2 : classes[ci]? = some (C, T, N)) (f3 : k < N) (f4 : ∀ w ∈ u_ws C T N, w ∈ BIG) (f7 : Cond.fieldLinkNest own index (T k).1 (T k).2.1 (T k).2.2.1 host ∈ BIGN) (ho : k_own κ = own) (h1 : Ev cc κ d pc pc1 .ref a) (hd : decode cc pc1 = .ok (.getfield index, 3)) : Ev cc κ d pc (pc1 + 3) .int (eFI ci k a) :=
  fun ls st h K hs q z => h1 ls st h _ hs (fun _ _ ⟨z1, z2, _, z3, z4⟩ => r_getN f1 f2 f3 f4 f7 ho z1 z2 z3 hd (q _ _ z4)) z
theorem E_aI (h1 : Ev cc κ d pc pc1 .ref a) (h2 : Ev cc κ (1 + d) pc1 pc2 .int i) (hd : decode cc pc2 = .ok (.iaload, 1)) : Ev cc κ d pc (pc2 + 1) .int (eAI a i) :=
  fun ls st h K hs q z => h1 ls st h _ hs (fun r h' z => h2 ls (.ref r :: st) h' _ (by rw [stw_cons, catR]; omega) (fun _ _ ⟨z1, z2, z3, _, z4, z5⟩ => r_iald z1 z2 z3 z4 hd (q _ _ z5)) z) z
theorem E_aZ (h1 : Ev cc κ d pc pc1 .ref a) (h2 : Ev cc κ (1 + d) pc1 pc2 .int i) (hd : decode cc pc2 = .ok (.baload, 1)) : Ev cc κ d pc (pc2 + 1) .int (eAZ a i) :=
  fun ls st h K hs q z => h1 ls st h _ hs (fun r h' z => h2 ls (.ref r :: st) h' _ (by rw [stw_cons, catR]; omega) (fun _ _ ⟨z1, z2, z3, _, z4, z5⟩ => r_zald z1 z2 z3 z4 hd (q _ _ z5)) z) z
theorem E_aR (h1 : Ev cc κ d pc pc1 .ref a) (h2 : Ev cc κ (1 + d) pc1 pc2 .int i) (hd : decode cc pc2 = .ok (.aaload, 1)) : Ev cc κ d pc (pc2 + 1) .ref (eAR a i) :=
  fun ls st h K hs q z => h1 ls st h _ hs (fun r h' z => h2 ls (.ref r :: st) h' _ (by rw [stw_cons, catR]; omega) (fun _ _ ⟨z1, z2, z3, _, z4, z5⟩ => r_aald z1 z2 z3 z4 hd (q _ _ z5)) z) z
theorem E_len (h1 : Ev cc κ d pc pc1 .ref a) (hd : decode cc pc1 = .ok (.arraylength, 1)) : Ev cc κ d pc (pc1 + 1) .int (eLen a) :=
  fun ls st h K hs q z => h1 ls st h _ hs (fun _ _ ⟨z1, z2, _, z3, z4⟩ => r_alen z1 z2 z3 hd (q _ _ z4)) z
theorem E_gs (hw : Cond.fieldLink own index "PackLanes" "FACTORIALS" "[I" ∈ BIG) (ho : k_own κ = own) (hd : decode cc pc = .ok (.getstatic index, 3)) : Ev cc κ d pc (pc + 3) .ref (eV 0) :=
  fun ls st h K hs q z => r_gets hw ho hd (q _ _ z)
end FI
theorem A_n : Ea cc κ d pc pc aN := fun _ _ _ _ _ q z => q _ _ z
theorem A_c {ia : α → Value} {e : PX α} {es : PX LV} (hw : ∀ x, (ia x).category = w) (h1 : Ev cc κ d pc pc1 ia e) (h2 : Ea cc κ (w + d) pc1 pc2 es) : Ea cc κ d pc pc2 (aC ia e es) :=
  fun ls st h K hs q z => h1 ls st h _ hs (fun x h' z => h2 ls (ia x :: st) h' _ (by rw [stw_cons, hw]; omega) (fun vs h2 z2 => by
    have := q _ _ z2
    rw [List.reverse_cons, List.append_assoc] at this
    exact this) z) z
section CA
variable {own : String} {index : Nat} {y : MethodName} {host : String} {bytes : ByteArray} {maxL : Nat} {ret : Option FieldType} {n ci : Nat} {rm : Room} {F : PM} {T : u_T} {N : Nat} {r : PX Nat} {as : PX LV}
theorem O_V (hc : CallV own index y bytes maxL ret n) (hC : Ctr (k_l κ) y bytes maxL ret rm F) (hm : rm.cells = 0 ∧ rm.slots = 0) (ho : k_own κ = own) (hR : rm.frames + 1 ≤ (k_R κ).frames ∧ 8 + (maxL + 11) + rm.locals ≤ (k_R κ).locals) (h8 : d ≤ 8) (hcl : classes[ci]? = some (y.cls, T, N)) (hci : ci < 20)
    (h1 : Ev cc κ d pc pc1 .ref r) (h2 : Ea cc κ (1 + d) pc1 pc2 as) (hd : decode cc pc2 = .ok (.invokevirtual index, 3)) : Eo cc κ d pc (pc2 + 3) (xV ci n F r as) :=
  fun ls st h K hs q z => h1 ls st h _ hs (fun r h' z => h2 ls (.ref r :: st) h' _ (by rw [stw_cons, catR]; omega) (fun vs h2 ⟨z1, z2, z3, z4⟩ => r_callV hc hC hm ho hR (by omega) hcl hci z1 z2 z3 z4 hd q) z) z
theorem O_S (hc : CallS own index y bytes maxL ret n) (hC : Ctr (k_l κ) y bytes maxL ret rm F) (hm : rm.cells = 0 ∧ rm.slots = 0) (ho : k_own κ = own) (hR : rm.frames + 1 ≤ (k_R κ).frames ∧ 8 + (maxL + 11) + rm.locals ≤ (k_R κ).locals) (h8 : d ≤ 8)
    (h2 : Ea cc κ d pc pc2 as) (hd : decode cc pc2 = .ok (.invokestatic index, 3)) : Eo cc κ d pc (pc2 + 3) (xS n F as) :=
  fun ls st h K hs q z => h2 ls st h _ hs (fun vs h2 ⟨z1, z2⟩ => r_callS hc hC hm ho hR (by omega) z1 z2 hd q) z
theorem O_SN (hc : CallSN own index y host bytes maxL ret n) (hC : Ctr (k_l κ) y bytes maxL ret rm F) (hm : rm.cells = 0 ∧ rm.slots = 0) (ho : k_own κ = own) (hR : rm.frames + 1 ≤ (k_R κ).frames ∧ 8 + (maxL + 11) + rm.locals ≤ (k_R κ).locals) (h8 : d ≤ 8)
    (h2 : Ea cc κ d pc pc2 as) (hd : decode cc pc2 = .ok (.invokestatic index, 3)) : Eo cc κ d pc (pc2 + 3) (xS n F as) :=
  fun ls st h K hs q z => h2 ls st h _ hs (fun vs h2 ⟨z1, z2⟩ => r_callSN hc hC hm ho hR (by omega) z1 z2 hd q) z
theorem E_x {ia : α → Value} {c : PX (Option Value)} (h1 : Eo cc κ d pc pc1 c) : Ev cc κ d pc pc1 ia (eX ia c) :=
  fun ls st h K hs q z => h1 ls st h _ hs (fun _ _ ⟨x, z1, z2⟩ => by subst z1; exact q _ _ z2) z
end CA
section CC
variable {a b : PX Bool} {x y : PX Int32} {off : Int}
theorem E_if {ia : α → Value} {c : PX Bool} {u v : PX α} (hc : Cd cc κ d pc pT pF c) (h1 : Ev cc κ d pT pc1 ia u) (hd : decode cc pc1 = .ok (.goto off, 3)) (ht : (pc1 : Int) + off = (pc2 : Int)) (h2 : Ev cc κ d pF pc2 ia v) : Ev cc κ d pc pc2 ia (eIf c u v) :=
  fun ls st h K hs q z => hc ls st h _ hs (fun h' z => h1 ls st h' _ hs (fun x h2 z2 => r_goto hd ht (q _ _ z2)) z) (fun h' z => h2 ls st h' _ hs q z) z
theorem E_C {c : PX Bool} (hc : Cd cc κ d pc pT pF c) (d1 : decode cc pT = .ok (.iconst 1, 1)) (hd : decode cc (pT + 1) = .ok (.goto off, 3)) (ht : ((pT + 1 : Nat) : Int) + off = (pc2 : Int)) (d2 : decode cc pF = .ok (.iconst 0, 1)) (he : pF + 1 = pc2) : Ev cc κ d pc pc2 .int (eC c) :=
  fun ls st h K hs q z => hc ls st h _ hs (fun h' z => r_iconst d1 rfl (r_goto hd ht (q _ _ z))) (fun h' z => r_iconst d2 rfl (by rw [he]; exact q _ _ z)) z
theorem C_and (h1 : Cd cc κ d pc pc1 pF a) (h2 : Cd cc κ d pc1 pT pF b) : Cd cc κ d pc pT pF (cA a b) :=
  fun ls st h K hs qt qf z => h1 ls st h (fun t h1 => if t then b ls h1 K else K false h1) hs (fun h' z => h2 ls st h' K hs qt qf z) (fun h' z => qf _ z) z
theorem C_or (h1 : Cd cc κ d pc pT pc1 a) (h2 : Cd cc κ d pc1 pT pF b) : Cd cc κ d pc pT pF (cO a b) :=
  fun ls st h K hs qt qf z => h1 ls st h (fun t h1 => if t then K true h1 else b ls h1 K) hs (fun h' z => qt _ z) (fun h' z => h2 ls st h' K hs qt qf z) z
theorem C_not (h1 : Cd cc κ d pc pF pT a) : Cd cc κ d pc pT pF (cN a) :=
  fun ls st h K hs qt qf z => h1 ls st h _ hs (fun h' z => qf _ z) (fun h' z => qt _ z) z
/-- a jump when it does not hold (J), or when it holds (T) -/
theorem C_2 {f : Int32 → Int32 → Bool} (h1 : Ev cc κ d pc pc1 .int x) (h2 : Ev cc κ (1 + d) pc1 pc2 .int y) (op : ∀ ls st h u v, (f u v = true → wA cc κ pT ls st h) → (f u v = false → wA cc κ pF ls st h) → wA cc κ pc2 ls (.int v :: .int u :: st) h) : Cd cc κ d pc pT pF (e2 f x y) :=
  fun ls st h K hs qt qf z => h1 ls st h _ hs (fun u h' z => h2 ls (.int u :: st) h' _ (by rw [stw_cons, catI]; omega) (fun v h2 z2 => op ls st h2 u v (fun e => qt _ (by rw [e] at z2; exact z2)) (fun e => qf _ (by rw [e] at z2; exact z2))) z) z
theorem C_1 {f : Int32 → Bool} (h1 : Ev cc κ d pc pc1 .int x) (op : ∀ ls st h u, (f u = true → wA cc κ pT ls st h) → (f u = false → wA cc κ pF ls st h) → wA cc κ pc1 ls (.int u :: st) h) : Cd cc κ d pc pT pF (e1 f x) :=
  fun ls st h K hs qt qf z => h1 ls st h _ hs (fun u h' z2 => op ls st h' u (fun e => qt _ (by rw [e] at z2; exact z2)) (fun e => qf _ (by rw [e] at z2; exact z2))) z
theorem J2_lt (h1 : Ev cc κ d pc pc1 .int x) (h2 : Ev cc κ (1 + d) pc1 pc2 .int y) (hd : decode cc pc2 = .ok (.if_icmp .ge off, 3)) (ht : (pc2 : Int) + off = (pF : Int)) : Cd cc κ d pc (pc2 + 3) pF (e2 (fun x y : Int32 => decide (x < y)) x y) := C_2 h1 h2 fun _ _ _ u v kT kF => r_ic_ge hd ht (fun q => kF (decide_eq_false (Int32.not_lt.mpr q))) (fun q => kT (decide_eq_true (Int32.not_le.mp q)))
theorem T2_lt (h1 : Ev cc κ d pc pc1 .int x) (h2 : Ev cc κ (1 + d) pc1 pc2 .int y) (hd : decode cc pc2 = .ok (.if_icmp .lt off, 3)) (ht : (pc2 : Int) + off = (pT : Int)) : Cd cc κ d pc pT (pc2 + 3) (e2 (fun x y : Int32 => decide (x < y)) x y) := C_2 h1 h2 fun _ _ _ u v kT kF => r_ic_lt hd ht (fun q => kT (decide_eq_true q)) (fun q => kF (decide_eq_false q))
theorem J1_lt (h1 : Ev cc κ d pc pc2 .int x) (hd : decode cc pc2 = .ok (.ifCond .ge off, 3)) (ht : (pc2 : Int) + off = (pF : Int)) : Cd cc κ d pc (pc2 + 3) pF (e1 (fun x : Int32 => decide (x < 0)) x) := C_1 h1 fun _ _ _ u kT kF => r_if_ge hd ht (fun q => kF (decide_eq_false (Int32.not_lt.mpr q))) (fun q => kT (decide_eq_true (Int32.not_le.mp q)))
theorem T1_lt (h1 : Ev cc κ d pc pc2 .int x) (hd : decode cc pc2 = .ok (.ifCond .lt off, 3)) (ht : (pc2 : Int) + off = (pT : Int)) : Cd cc κ d pc pT (pc2 + 3) (e1 (fun x : Int32 => decide (x < 0)) x) := C_1 h1 fun _ _ _ u kT kF => r_if_lt hd ht (fun q => kT (decide_eq_true q)) (fun q => kF (decide_eq_false q))
theorem J2_ge (h1 : Ev cc κ d pc pc1 .int x) (h2 : Ev cc κ (1 + d) pc1 pc2 .int y) (hd : decode cc pc2 = .ok (.if_icmp .lt off, 3)) (ht : (pc2 : Int) + off = (pF : Int)) : Cd cc κ d pc (pc2 + 3) pF (e2 (fun x y : Int32 => decide (y ≤ x)) x y) := C_2 h1 h2 fun _ _ _ u v kT kF => r_ic_lt hd ht (fun q => kF (decide_eq_false (Int32.not_le.mpr q))) (fun q => kT (decide_eq_true (Int32.not_lt.mp q)))
theorem T2_ge (h1 : Ev cc κ d pc pc1 .int x) (h2 : Ev cc κ (1 + d) pc1 pc2 .int y) (hd : decode cc pc2 = .ok (.if_icmp .ge off, 3)) (ht : (pc2 : Int) + off = (pT : Int)) : Cd cc κ d pc pT (pc2 + 3) (e2 (fun x y : Int32 => decide (y ≤ x)) x y) := C_2 h1 h2 fun _ _ _ u v kT kF => r_ic_ge hd ht (fun q => kT (decide_eq_true q)) (fun q => kF (decide_eq_false q))
theorem J1_ge (h1 : Ev cc κ d pc pc2 .int x) (hd : decode cc pc2 = .ok (.ifCond .lt off, 3)) (ht : (pc2 : Int) + off = (pF : Int)) : Cd cc κ d pc (pc2 + 3) pF (e1 (fun x : Int32 => decide (0 ≤ x)) x) := C_1 h1 fun _ _ _ u kT kF => r_if_lt hd ht (fun q => kF (decide_eq_false (Int32.not_le.mpr q))) (fun q => kT (decide_eq_true (Int32.not_lt.mp q)))
theorem T1_ge (h1 : Ev cc κ d pc pc2 .int x) (hd : decode cc pc2 = .ok (.ifCond .ge off, 3)) (ht : (pc2 : Int) + off = (pT : Int)) : Cd cc κ d pc pT (pc2 + 3) (e1 (fun x : Int32 => decide (0 ≤ x)) x) := C_1 h1 fun _ _ _ u kT kF => r_if_ge hd ht (fun q => kT (decide_eq_true q)) (fun q => kF (decide_eq_false q))
theorem J2_gt (h1 : Ev cc κ d pc pc1 .int x) (h2 : Ev cc κ (1 + d) pc1 pc2 .int y) (hd : decode cc pc2 = .ok (.if_icmp .le off, 3)) (ht : (pc2 : Int) + off = (pF : Int)) : Cd cc κ d pc (pc2 + 3) pF (e2 (fun x y : Int32 => decide (y < x)) x y) := C_2 h1 h2 fun _ _ _ u v kT kF => r_ic_le hd ht (fun q => kF (decide_eq_false (Int32.not_lt.mpr q))) (fun q => kT (decide_eq_true (Int32.not_le.mp q)))
theorem T2_gt (h1 : Ev cc κ d pc pc1 .int x) (h2 : Ev cc κ (1 + d) pc1 pc2 .int y) (hd : decode cc pc2 = .ok (.if_icmp .gt off, 3)) (ht : (pc2 : Int) + off = (pT : Int)) : Cd cc κ d pc pT (pc2 + 3) (e2 (fun x y : Int32 => decide (y < x)) x y) := C_2 h1 h2 fun _ _ _ u v kT kF => r_ic_gt hd ht (fun q => kT (decide_eq_true q)) (fun q => kF (decide_eq_false q))
theorem J1_gt (h1 : Ev cc κ d pc pc2 .int x) (hd : decode cc pc2 = .ok (.ifCond .le off, 3)) (ht : (pc2 : Int) + off = (pF : Int)) : Cd cc κ d pc (pc2 + 3) pF (e1 (fun x : Int32 => decide (0 < x)) x) := C_1 h1 fun _ _ _ u kT kF => r_if_le hd ht (fun q => kF (decide_eq_false (Int32.not_lt.mpr q))) (fun q => kT (decide_eq_true (Int32.not_le.mp q)))
theorem T1_gt (h1 : Ev cc κ d pc pc2 .int x) (hd : decode cc pc2 = .ok (.ifCond .gt off, 3)) (ht : (pc2 : Int) + off = (pT : Int)) : Cd cc κ d pc pT (pc2 + 3) (e1 (fun x : Int32 => decide (0 < x)) x) := C_1 h1 fun _ _ _ u kT kF => r_if_gt hd ht (fun q => kT (decide_eq_true q)) (fun q => kF (decide_eq_false q))
theorem J2_le (h1 : Ev cc κ d pc pc1 .int x) (h2 : Ev cc κ (1 + d) pc1 pc2 .int y) (hd : decode cc pc2 = .ok (.if_icmp .gt off, 3)) (ht : (pc2 : Int) + off = (pF : Int)) : Cd cc κ d pc (pc2 + 3) pF (e2 (fun x y : Int32 => decide (x ≤ y)) x y) := C_2 h1 h2 fun _ _ _ u v kT kF => r_ic_gt hd ht (fun q => kF (decide_eq_false (Int32.not_le.mpr q))) (fun q => kT (decide_eq_true (Int32.not_lt.mp q)))
theorem T2_le (h1 : Ev cc κ d pc pc1 .int x) (h2 : Ev cc κ (1 + d) pc1 pc2 .int y) (hd : decode cc pc2 = .ok (.if_icmp .le off, 3)) (ht : (pc2 : Int) + off = (pT : Int)) : Cd cc κ d pc pT (pc2 + 3) (e2 (fun x y : Int32 => decide (x ≤ y)) x y) := C_2 h1 h2 fun _ _ _ u v kT kF => r_ic_le hd ht (fun q => kT (decide_eq_true q)) (fun q => kF (decide_eq_false q))
theorem J1_le (h1 : Ev cc κ d pc pc2 .int x) (hd : decode cc pc2 = .ok (.ifCond .gt off, 3)) (ht : (pc2 : Int) + off = (pF : Int)) : Cd cc κ d pc (pc2 + 3) pF (e1 (fun x : Int32 => decide (x ≤ 0)) x) := C_1 h1 fun _ _ _ u kT kF => r_if_gt hd ht (fun q => kF (decide_eq_false (Int32.not_le.mpr q))) (fun q => kT (decide_eq_true (Int32.not_lt.mp q)))
theorem T1_le (h1 : Ev cc κ d pc pc2 .int x) (hd : decode cc pc2 = .ok (.ifCond .le off, 3)) (ht : (pc2 : Int) + off = (pT : Int)) : Cd cc κ d pc pT (pc2 + 3) (e1 (fun x : Int32 => decide (x ≤ 0)) x) := C_1 h1 fun _ _ _ u kT kF => r_if_le hd ht (fun q => kT (decide_eq_true q)) (fun q => kF (decide_eq_false q))
theorem J2_eq (h1 : Ev cc κ d pc pc1 .int x) (h2 : Ev cc κ (1 + d) pc1 pc2 .int y) (hd : decode cc pc2 = .ok (.if_icmp .ne off, 3)) (ht : (pc2 : Int) + off = (pF : Int)) : Cd cc κ d pc (pc2 + 3) pF (e2 (fun x y : Int32 => decide (x = y)) x y) := C_2 h1 h2 fun _ _ _ u v kT kF => r_ic_ne hd ht (fun q => kF (decide_eq_false q)) (fun q => kT (decide_eq_true q))
theorem T2_eq (h1 : Ev cc κ d pc pc1 .int x) (h2 : Ev cc κ (1 + d) pc1 pc2 .int y) (hd : decode cc pc2 = .ok (.if_icmp .eq off, 3)) (ht : (pc2 : Int) + off = (pT : Int)) : Cd cc κ d pc pT (pc2 + 3) (e2 (fun x y : Int32 => decide (x = y)) x y) := C_2 h1 h2 fun _ _ _ u v kT kF => r_ic_eq hd ht (fun q => kT (decide_eq_true q)) (fun q => kF (decide_eq_false q))
theorem J1_eq (h1 : Ev cc κ d pc pc2 .int x) (hd : decode cc pc2 = .ok (.ifCond .ne off, 3)) (ht : (pc2 : Int) + off = (pF : Int)) : Cd cc κ d pc (pc2 + 3) pF (e1 (fun x : Int32 => decide (x = 0)) x) := C_1 h1 fun _ _ _ u kT kF => r_if_ne hd ht (fun q => kF (decide_eq_false q)) (fun q => kT (decide_eq_true q))
theorem T1_eq (h1 : Ev cc κ d pc pc2 .int x) (hd : decode cc pc2 = .ok (.ifCond .eq off, 3)) (ht : (pc2 : Int) + off = (pT : Int)) : Cd cc κ d pc pT (pc2 + 3) (e1 (fun x : Int32 => decide (x = 0)) x) := C_1 h1 fun _ _ _ u kT kF => r_if_eq hd ht (fun q => kT (decide_eq_true q)) (fun q => kF (decide_eq_false q))
theorem J2_ne (h1 : Ev cc κ d pc pc1 .int x) (h2 : Ev cc κ (1 + d) pc1 pc2 .int y) (hd : decode cc pc2 = .ok (.if_icmp .eq off, 3)) (ht : (pc2 : Int) + off = (pF : Int)) : Cd cc κ d pc (pc2 + 3) pF (e2 (fun x y : Int32 => decide (¬ x = y)) x y) := C_2 h1 h2 fun _ _ _ u v kT kF => r_ic_eq hd ht (fun q => kF (decide_eq_false (fun z => z q))) (fun q => kT (decide_eq_true q))
theorem T2_ne (h1 : Ev cc κ d pc pc1 .int x) (h2 : Ev cc κ (1 + d) pc1 pc2 .int y) (hd : decode cc pc2 = .ok (.if_icmp .ne off, 3)) (ht : (pc2 : Int) + off = (pT : Int)) : Cd cc κ d pc pT (pc2 + 3) (e2 (fun x y : Int32 => decide (¬ x = y)) x y) := C_2 h1 h2 fun _ _ _ u v kT kF => r_ic_ne hd ht (fun q => kT (decide_eq_true q)) (fun q => kF (decide_eq_false (fun z => z q)))
theorem J1_ne (h1 : Ev cc κ d pc pc2 .int x) (hd : decode cc pc2 = .ok (.ifCond .eq off, 3)) (ht : (pc2 : Int) + off = (pF : Int)) : Cd cc κ d pc (pc2 + 3) pF (e1 (fun x : Int32 => decide (¬ x = 0)) x) := C_1 h1 fun _ _ _ u kT kF => r_if_eq hd ht (fun q => kF (decide_eq_false (fun z => z q))) (fun q => kT (decide_eq_true q))
theorem T1_ne (h1 : Ev cc κ d pc pc2 .int x) (hd : decode cc pc2 = .ok (.ifCond .ne off, 3)) (ht : (pc2 : Int) + off = (pT : Int)) : Cd cc κ d pc pT (pc2 + 3) (e1 (fun x : Int32 => decide (¬ x = 0)) x) := C_1 h1 fun _ _ _ u kT kF => r_if_ne hd ht (fun q => kT (decide_eq_true q)) (fun q => kF (decide_eq_false (fun z => z q)))
theorem lg_lt {x y : Int64} : lg_cmp x y < 0 ↔ x < y := by
  unfold lg_cmp
  split
  · next h => exact ⟨fun q => absurd q (by decide), fun q => absurd q (Int64.not_lt.mpr (Int64.le_of_lt h))⟩
  · next h =>
    split
    · next e => subst e; exact ⟨fun q => absurd q (by decide), fun q => absurd q (Int64.lt_irrefl)⟩
    · next e => exact ⟨fun _ => Int64.lt_of_le_of_ne (Int64.not_lt.mp h) e, fun _ => by decide⟩
theorem lg_gt {x y : Int64} : 0 < lg_cmp x y ↔ y < x := by
  unfold lg_cmp
  split
  · next h => exact ⟨fun _ => h, fun _ => by decide⟩
  · next h =>
    split
    · next e => exact ⟨fun q => absurd q (by decide), fun q => absurd q h⟩
    · next e => exact ⟨fun q => absurd q (by decide), fun q => absurd q h⟩
theorem lg_eq {x y : Int64} : lg_cmp x y = 0 ↔ x = y := by
  unfold lg_cmp
  split
  · next h => exact ⟨fun q => absurd q (by decide), fun q => by subst q; exact absurd h Int64.lt_irrefl⟩
  · next h =>
    split
    · next e => exact ⟨fun _ => e, fun _ => rfl⟩
    · next e => exact ⟨fun q => absurd q (by decide), fun q => absurd q e⟩
theorem lg_ge {x y : Int64} : 0 ≤ lg_cmp x y ↔ y ≤ x := by rw [← Int32.not_lt, lg_lt, Int64.not_lt]
theorem lg_le {x y : Int64} : lg_cmp x y ≤ 0 ↔ x ≤ y := by rw [← Int32.not_lt, lg_gt, Int64.not_lt]
theorem C_L {a b : PX Int64} {f : Int64 → Int64 → Bool} (h1 : Ev cc κ d pc pc1 .long a) (h2 : Ev cc κ (2 + d) pc1 pc2 .long b) (hl : decode cc pc2 = .ok (.lcmp, 1)) (op : ∀ ls st h u v, (f u v = true → wA cc κ pT ls st h) → (f u v = false → wA cc κ pF ls st h) → wA cc κ (pc2 + 1) ls (.int (lg_cmp u v) :: st) h) : Cd cc κ d pc pT pF (e2 f a b) :=
  fun ls st h K hs qt qf z => h1 ls st h _ hs (fun u h' z => h2 ls (.long u :: st) h' _ (by rw [stw_cons, catL]; omega) (fun v h2 z2 => r_lcmp hl (op ls st h2 u v (fun e => qt _ (by rw [e] at z2; exact z2)) (fun e => qf _ (by rw [e] at z2; exact z2)))) z) z
theorem JL_lt {a b : PX Int64} (h1 : Ev cc κ d pc pc1 .long a) (h2 : Ev cc κ (2 + d) pc1 pc2 .long b) (hl : decode cc pc2 = .ok (.lcmp, 1)) (hd : decode cc (pc2 + 1) = .ok (.ifCond .ge off, 3)) (ht : ((pc2 + 1 : Nat) : Int) + off = (pF : Int)) : Cd cc κ d pc (pc2 + 1 + 3) pF (e2 (fun x y : Int64 => decide (x < y)) a b) := C_L h1 h2 hl fun _ _ _ u v kT kF => r_if_ge hd ht (fun q => kF (decide_eq_false (Int64.not_lt.mpr (lg_ge.mp q)))) (fun q => kT (decide_eq_true (Int64.not_le.mp (fun z => q (lg_ge.mpr z)))))
theorem TL_lt {a b : PX Int64} (h1 : Ev cc κ d pc pc1 .long a) (h2 : Ev cc κ (2 + d) pc1 pc2 .long b) (hl : decode cc pc2 = .ok (.lcmp, 1)) (hd : decode cc (pc2 + 1) = .ok (.ifCond .lt off, 3)) (ht : ((pc2 + 1 : Nat) : Int) + off = (pT : Int)) : Cd cc κ d pc pT (pc2 + 1 + 3) (e2 (fun x y : Int64 => decide (x < y)) a b) := C_L h1 h2 hl fun _ _ _ u v kT kF => r_if_lt hd ht (fun q => kT (decide_eq_true (lg_lt.mp q))) (fun q => kF (decide_eq_false (fun z => q (lg_lt.mpr z))))
theorem JL_ge {a b : PX Int64} (h1 : Ev cc κ d pc pc1 .long a) (h2 : Ev cc κ (2 + d) pc1 pc2 .long b) (hl : decode cc pc2 = .ok (.lcmp, 1)) (hd : decode cc (pc2 + 1) = .ok (.ifCond .lt off, 3)) (ht : ((pc2 + 1 : Nat) : Int) + off = (pF : Int)) : Cd cc κ d pc (pc2 + 1 + 3) pF (e2 (fun x y : Int64 => decide (y ≤ x)) a b) := C_L h1 h2 hl fun _ _ _ u v kT kF => r_if_lt hd ht (fun q => kF (decide_eq_false (Int64.not_le.mpr (lg_lt.mp q)))) (fun q => kT (decide_eq_true (Int64.not_lt.mp (fun z => q (lg_lt.mpr z)))))
theorem TL_ge {a b : PX Int64} (h1 : Ev cc κ d pc pc1 .long a) (h2 : Ev cc κ (2 + d) pc1 pc2 .long b) (hl : decode cc pc2 = .ok (.lcmp, 1)) (hd : decode cc (pc2 + 1) = .ok (.ifCond .ge off, 3)) (ht : ((pc2 + 1 : Nat) : Int) + off = (pT : Int)) : Cd cc κ d pc pT (pc2 + 1 + 3) (e2 (fun x y : Int64 => decide (y ≤ x)) a b) := C_L h1 h2 hl fun _ _ _ u v kT kF => r_if_ge hd ht (fun q => kT (decide_eq_true (lg_ge.mp q))) (fun q => kF (decide_eq_false (fun z => q (lg_ge.mpr z))))
theorem JL_gt {a b : PX Int64} (h1 : Ev cc κ d pc pc1 .long a) (h2 : Ev cc κ (2 + d) pc1 pc2 .long b) (hl : decode cc pc2 = .ok (.lcmp, 1)) (hd : decode cc (pc2 + 1) = .ok (.ifCond .le off, 3)) (ht : ((pc2 + 1 : Nat) : Int) + off = (pF : Int)) : Cd cc κ d pc (pc2 + 1 + 3) pF (e2 (fun x y : Int64 => decide (y < x)) a b) := C_L h1 h2 hl fun _ _ _ u v kT kF => r_if_le hd ht (fun q => kF (decide_eq_false (Int64.not_lt.mpr (lg_le.mp q)))) (fun q => kT (decide_eq_true (Int64.not_le.mp (fun z => q (lg_le.mpr z)))))
theorem TL_gt {a b : PX Int64} (h1 : Ev cc κ d pc pc1 .long a) (h2 : Ev cc κ (2 + d) pc1 pc2 .long b) (hl : decode cc pc2 = .ok (.lcmp, 1)) (hd : decode cc (pc2 + 1) = .ok (.ifCond .gt off, 3)) (ht : ((pc2 + 1 : Nat) : Int) + off = (pT : Int)) : Cd cc κ d pc pT (pc2 + 1 + 3) (e2 (fun x y : Int64 => decide (y < x)) a b) := C_L h1 h2 hl fun _ _ _ u v kT kF => r_if_gt hd ht (fun q => kT (decide_eq_true (lg_gt.mp q))) (fun q => kF (decide_eq_false (fun z => q (lg_gt.mpr z))))
theorem JL_le {a b : PX Int64} (h1 : Ev cc κ d pc pc1 .long a) (h2 : Ev cc κ (2 + d) pc1 pc2 .long b) (hl : decode cc pc2 = .ok (.lcmp, 1)) (hd : decode cc (pc2 + 1) = .ok (.ifCond .gt off, 3)) (ht : ((pc2 + 1 : Nat) : Int) + off = (pF : Int)) : Cd cc κ d pc (pc2 + 1 + 3) pF (e2 (fun x y : Int64 => decide (x ≤ y)) a b) := C_L h1 h2 hl fun _ _ _ u v kT kF => r_if_gt hd ht (fun q => kF (decide_eq_false (Int64.not_le.mpr (lg_gt.mp q)))) (fun q => kT (decide_eq_true (Int64.not_lt.mp (fun z => q (lg_gt.mpr z)))))
theorem TL_le {a b : PX Int64} (h1 : Ev cc κ d pc pc1 .long a) (h2 : Ev cc κ (2 + d) pc1 pc2 .long b) (hl : decode cc pc2 = .ok (.lcmp, 1)) (hd : decode cc (pc2 + 1) = .ok (.ifCond .le off, 3)) (ht : ((pc2 + 1 : Nat) : Int) + off = (pT : Int)) : Cd cc κ d pc pT (pc2 + 1 + 3) (e2 (fun x y : Int64 => decide (x ≤ y)) a b) := C_L h1 h2 hl fun _ _ _ u v kT kF => r_if_le hd ht (fun q => kT (decide_eq_true (lg_le.mp q))) (fun q => kF (decide_eq_false (fun z => q (lg_le.mpr z))))
theorem JL_eq {a b : PX Int64} (h1 : Ev cc κ d pc pc1 .long a) (h2 : Ev cc κ (2 + d) pc1 pc2 .long b) (hl : decode cc pc2 = .ok (.lcmp, 1)) (hd : decode cc (pc2 + 1) = .ok (.ifCond .ne off, 3)) (ht : ((pc2 + 1 : Nat) : Int) + off = (pF : Int)) : Cd cc κ d pc (pc2 + 1 + 3) pF (e2 (fun x y : Int64 => decide (x = y)) a b) := C_L h1 h2 hl fun _ _ _ u v kT kF => r_if_ne hd ht (fun q => kF (decide_eq_false (fun z => q (lg_eq.mpr z)))) (fun q => kT (decide_eq_true (lg_eq.mp q)))
theorem TL_eq {a b : PX Int64} (h1 : Ev cc κ d pc pc1 .long a) (h2 : Ev cc κ (2 + d) pc1 pc2 .long b) (hl : decode cc pc2 = .ok (.lcmp, 1)) (hd : decode cc (pc2 + 1) = .ok (.ifCond .eq off, 3)) (ht : ((pc2 + 1 : Nat) : Int) + off = (pT : Int)) : Cd cc κ d pc pT (pc2 + 1 + 3) (e2 (fun x y : Int64 => decide (x = y)) a b) := C_L h1 h2 hl fun _ _ _ u v kT kF => r_if_eq hd ht (fun q => kT (decide_eq_true (lg_eq.mp q))) (fun q => kF (decide_eq_false (fun z => q (lg_eq.mpr z))))
theorem JL_ne {a b : PX Int64} (h1 : Ev cc κ d pc pc1 .long a) (h2 : Ev cc κ (2 + d) pc1 pc2 .long b) (hl : decode cc pc2 = .ok (.lcmp, 1)) (hd : decode cc (pc2 + 1) = .ok (.ifCond .eq off, 3)) (ht : ((pc2 + 1 : Nat) : Int) + off = (pF : Int)) : Cd cc κ d pc (pc2 + 1 + 3) pF (e2 (fun x y : Int64 => decide (¬ x = y)) a b) := C_L h1 h2 hl fun _ _ _ u v kT kF => r_if_eq hd ht (fun q => kF (decide_eq_false (fun z => z (lg_eq.mp q)))) (fun q => kT (decide_eq_true (fun z => q (lg_eq.mpr z))))
theorem TL_ne {a b : PX Int64} (h1 : Ev cc κ d pc pc1 .long a) (h2 : Ev cc κ (2 + d) pc1 pc2 .long b) (hl : decode cc pc2 = .ok (.lcmp, 1)) (hd : decode cc (pc2 + 1) = .ok (.ifCond .ne off, 3)) (ht : ((pc2 + 1 : Nat) : Int) + off = (pT : Int)) : Cd cc κ d pc pT (pc2 + 1 + 3) (e2 (fun x y : Int64 => decide (¬ x = y)) a b) := C_L h1 h2 hl fun _ _ _ u v kT kF => r_if_ne hd ht (fun q => kT (decide_eq_true (fun z => q (lg_eq.mpr z)))) (fun q => kF (decide_eq_false (fun z => z (lg_eq.mp q))))
end CC
end PR
end
section
def sSO : PS := fun kn _ _ _ ls h => (∃ x, ls[0]? = some (.ref x)) ∧ kn ls h
section SR
variable {cc : ByteArray} {κ : KT} {pc pc1 pc2 pc3 pc4 pT pF pN pB pC pS pG : Nat} {off : Int}
theorem S_sk : Ex cc κ pc pc pB pC sSk := fun _ _ _ _ _ _ qn _ _ _ z => qn _ _ z
theorem S_sq {a b : PS} (h1 : Ex cc κ pc pc1 pB pC a) (h2 : Ex cc κ pc1 pN pB pC b) : Ex cc κ pc pN pB pC (sSq a b) :=
  fun ls h kn kb kc kr qn qb qc qr z => h1 ls h _ kb kc kr (fun ls' h' z => h2 ls' h' kn kb kc kr qn qb qc qr z) qb qc qr z
theorem S_go {a : PS} (h1 : Ex cc κ pc pc1 pB pC a) (hd : decode cc pc1 = .ok (.goto off, 3)) (ht : (pc1 : Int) + off = (pN : Int)) : Ex cc κ pc pN pB pC a :=
  fun ls h kn kb kc kr qn qb qc qr z => h1 ls h kn kb kc kr (fun ls' h' z => r_goto hd ht (qn _ _ z)) qb qc qr z
theorem S_In {i : Nat} {k : Fin 4} {e : PX Int32} (h1 : Ev cc κ 0 pc pc1 .int e) (hd : decode cc pc1 = .ok (.istore_n k, 1)) (hi : (k : Nat) = i) : Ex cc κ pc (pc1 + 1) pB pC (sI i e) :=
  fun ls h kn kb kc kr qn qb qc qr z => h1 ls [] h _ (Nat.le_refl 0) (fun x h' ⟨z1, z2⟩ => r_istore_n hd hi z1 (qn _ _ z2)) z
theorem S_I {i : Nat} {e : PX Int32} (h1 : Ev cc κ 0 pc pc1 .int e) (hd : decode cc pc1 = .ok (.istore i, 2)) : Ex cc κ pc (pc1 + 2) pB pC (sI i e) :=
  fun ls h kn kb kc kr qn qb qc qr z => h1 ls [] h _ (Nat.le_refl 0) (fun x h' ⟨z1, z2⟩ => r_istore hd z1 (qn _ _ z2)) z
theorem S_Ln {i : Nat} {k : Fin 4} {e : PX Int64} (h1 : Ev cc κ 0 pc pc1 .long e) (hd : decode cc pc1 = .ok (.lstore_n k, 1)) (hi : (k : Nat) = i) : Ex cc κ pc (pc1 + 1) pB pC (sL i e) :=
  fun ls h kn kb kc kr qn qb qc qr z => h1 ls [] h _ (Nat.le_refl 0) (fun x h' ⟨z1, z2⟩ => r_lstore_n hd hi z1 (qn _ _ z2)) z
theorem S_L {i : Nat} {e : PX Int64} (h1 : Ev cc κ 0 pc pc1 .long e) (hd : decode cc pc1 = .ok (.lstore i, 2)) : Ex cc κ pc (pc1 + 2) pB pC (sL i e) :=
  fun ls h kn kb kc kr qn qb qc qr z => h1 ls [] h _ (Nat.le_refl 0) (fun x h' ⟨z1, z2⟩ => r_lstore hd z1 (qn _ _ z2)) z
theorem S_Rn {i : Nat} {k : Fin 4} {e : PX Nat} (h1 : Ev cc κ 0 pc pc1 .ref e) (hd : decode cc pc1 = .ok (.astore_n k, 1)) (hi : (k : Nat) = i) : Ex cc κ pc (pc1 + 1) pB pC (sR i e) :=
  fun ls h kn kb kc kr qn qb qc qr z => h1 ls [] h _ (Nat.le_refl 0) (fun x h' ⟨z1, z2⟩ => r_astore_n hd hi z1 (qn _ _ z2)) z
theorem S_Inc {i : Nat} {k : Int} {n : Int32} (hd : decode cc pc = .ok (.iinc i k, 3)) (hk : Int32.ofInt k = n) : Ex cc κ pc (pc + 3) pB pC (sInc i n) :=
  fun ls h kn kb kc kr qn qb qc qr ⟨_, z1, z2⟩ => by subst hk; exact r_iinc hd z1 (qn _ _ z2)
section SF
variable {own : String} {index ci k : Nat} {ty : FieldType} {fin : Nat} {a : PX Nat}
theorem S_FI {e : PX Int32} (hF : FldOK own index ci k .int 0) (ho : k_own κ = own) (h1 : Ev cc κ 0 pc pc1 .ref a) (h2 : Ev cc κ (1 + 0) pc1 pc2 .int e) (hd : decode cc pc2 = .ok (.putfield index, 3)) : Ex cc κ pc (pc2 + 3) pB pC (sF .int ci k a e) :=
  fun ls h kn kb kc kr qn qb qc qr z => h1 ls [] h _ (Nat.le_refl 0) (fun r h' z => h2 ls [.ref r] h' _ (Nat.le_of_eq rfl) (fun x h2 ⟨z1, z2, ⟨_, z3⟩, z4⟩ => r_put hF ho z1 z2 z3 rfl rfl hd (qn _ _ z4)) z) z
theorem S_FL {e : PX Int64} (hF : FldOK own index ci k .long 0) (ho : k_own κ = own) (h1 : Ev cc κ 0 pc pc1 .ref a) (h2 : Ev cc κ (1 + 0) pc1 pc2 .long e) (hd : decode cc pc2 = .ok (.putfield index, 3)) : Ex cc κ pc (pc2 + 3) pB pC (sF .long ci k a e) :=
  fun ls h kn kb kc kr qn qb qc qr z => h1 ls [] h _ (Nat.le_refl 0) (fun r h' z => h2 ls [.ref r] h' _ (Nat.le_of_eq rfl) (fun x h2 ⟨z1, z2, ⟨_, z3⟩, z4⟩ => r_put hF ho z1 z2 z3 rfl rfl hd (qn _ _ z4)) z) z
theorem S_FR {e : PX Nat} (hF : FldOK own index ci k ty 1) (ho : k_own κ = own) (hi : KO cc κ → (k_me κ).name = "<init>") (hn : ∀ q, narrow ty (.ref q) = .ref q ∧ fits ty (.ref q) = true) (h1 : Ev cc κ 0 pc pc1 .ref a) (h2 : Ev cc κ (1 + 0) pc1 pc2 .ref e) (hd : decode cc pc2 = .ok (.putfield index, 3)) : Ex cc κ pc (pc2 + 3) pB pC (sF .ref ci k a e) :=
  fun ls h kn kb kc kr qn qb qc qr z => h1 ls [] h _ (Nat.le_refl 0) (fun r h' z => h2 ls [.ref r] h' _ (Nat.le_of_eq rfl) (fun x h2 ⟨z1, z2, ⟨_, z3⟩, z4⟩ => r_putF hF ho z1 hi z2 z3 (hn _).1 (hn _).2 hd (qn _ _ z4)) z) z
theorem S_FO {index2 : Nat} {f : Int32 → Int32 → Int32} {e : PX Int32} {fin2 : Nat} (hF : FldOK own index ci k .int fin2) (hG : FldOK own index2 ci k .int 0) (ho : k_own κ = own) (h1 : Ev cc κ 0 pc pc1 .ref a) (hd1 : decode cc pc1 = .ok (.dup, 1)) (hd2 : decode cc (pc1 + 1) = .ok (.getfield index, 3)) (h2 : Ev cc κ 2 (pc1 + 1 + 3) pc2 .int e) (op : ∀ ls st h x y, wA cc κ (pc2 + 1) ls (.int (f x y) :: st) h → wA cc κ pc2 ls (.int y :: .int x :: st) h) (hd : decode cc (pc2 + 1) = .ok (.putfield index2, 3)) : Ex cc κ pc (pc2 + 1 + 3) pB pC (sFO ci k f a e) :=
  fun ls h kn kb kc kr qn qb qc qr z => h1 ls [] h _ (Nat.le_refl 0) (fun r h' ⟨z1, z2, x, z3, z4⟩ => r_dup hd1 rfl (r_get hF ho z1 z2 z3 hd2 (h2 ls [.int x, .ref r] h' _ (Nat.le_of_eq rfl) (fun y h2 ⟨y1, ⟨_, y2⟩, y3⟩ => op _ _ _ _ _ (r_put hG ho z1 y1 y2 rfl rfl hd (qn _ _ y3))) z4))) z
end SF
section SA
variable {a : PX Nat} {i e : PX Int32}
theorem S_AI (h1 : Ev cc κ 0 pc pc1 .ref a) (h2 : Ev cc κ (1 + 0) pc1 pc2 .int i) (h3 : Ev cc κ (1 + (1 + 0)) pc2 pc3 .int e) (hd : decode cc pc3 = .ok (.iastore, 1)) : Ex cc κ pc (pc3 + 1) pB pC (sAI a i e) :=
  fun ls h kn kb kc kr qn qb qc qr z => h1 ls [] h _ (Nat.le_refl 0) (fun r h' z => h2 ls [.ref r] h' _ (Nat.le_of_eq rfl) (fun j h2 z => h3 ls [.int j, .ref r] h2 _ (Nat.le_of_eq rfl) (fun x h3 ⟨z1, z2, z3, ⟨_, z4⟩, z5⟩ => r_iast z1 z2 z3 z4 hd (qn _ _ z5)) z) z) z
theorem S_AZ (h1 : Ev cc κ 0 pc pc1 .ref a) (h2 : Ev cc κ (1 + 0) pc1 pc2 .int i) (h3 : Ev cc κ (1 + (1 + 0)) pc2 pc3 .int e) (hd : decode cc pc3 = .ok (.bastore, 1)) : Ex cc κ pc (pc3 + 1) pB pC (sAZ a i e) :=
  fun ls h kn kb kc kr qn qb qc qr z => h1 ls [] h _ (Nat.le_refl 0) (fun r h' z => h2 ls [.ref r] h' _ (Nat.le_of_eq rfl) (fun j h2 z => h3 ls [.int j, .ref r] h2 _ (Nat.le_of_eq rfl) (fun x h3 ⟨z1, z2, z3, z0, ⟨_, z4⟩, z5⟩ => r_zast z1 z2 z3 z0 z4 hd (qn _ _ z5)) z) z) z
theorem S_AO {f : Int32 → Int32 → Int32} (h1 : Ev cc κ 0 pc pc1 .ref a) (h2 : Ev cc κ (1 + 0) pc1 pc2 .int i) (hd1 : decode cc pc2 = .ok (.dup2, 1)) (hd2 : decode cc (pc2 + 1) = .ok (.iaload, 1)) (h3 : Ev cc κ 3 (pc2 + 1 + 1) pc3 .int e) (op : ∀ ls st h x y, wA cc κ (pc3 + 1) ls (.int (f x y) :: st) h → wA cc κ pc3 ls (.int y :: .int x :: st) h) (hd : decode cc (pc3 + 1) = .ok (.iastore, 1)) : Ex cc κ pc (pc3 + 1 + 1) pB pC (sAO f a i e) :=
  fun ls h kn kb kc kr qn qb qc qr z => h1 ls [] h _ (Nat.le_refl 0) (fun r h' z => h2 ls [.ref r] h' _ (Nat.le_of_eq rfl) (fun j h2 ⟨z1, z2, z3, x, z4, z5⟩ => r_dup2 hd1 rfl rfl (r_iald (by omega) z2 z3 z4 hd2 (h3 ls [.int x, .int j, .ref r] h2 _ (Nat.le_of_eq rfl) (fun y h3 ⟨y1, ⟨_, y2⟩, y3⟩ => op _ _ _ _ _ (r_iast z1 y1 z3 y2 hd (qn _ _ y3))) z5))) z) z
end SA
theorem S_X {c : PX (Option Value)} (h1 : Eo cc κ 0 pc pc1 c) : Ex cc κ pc pc1 pB pC (sX c) :=
  fun ls h kn kb kc kr qn qb qc qr z => h1 ls [] h _ (Nat.le_refl 0) (fun o h' ⟨z1, z2⟩ => by subst z1; exact qn _ _ z2) z
theorem S_Xp {c : PX (Option Value)} (h1 : Eo cc κ 0 pc pc1 c) (hd : decode cc pc1 = .ok (.pop, 1)) : Ex cc κ pc (pc1 + 1) pB pC (sXp c) :=
  fun ls h kn kb kc kr qn qb qc qr z => h1 ls [] h _ (Nat.le_refl 0) (fun o h' ⟨⟨x, z1⟩, z2⟩ => by subst z1; exact r_pop hd rfl (qn _ _ z2)) z
theorem S_if1 {c : PX Bool} {a : PS} (h1 : Cd cc κ 0 pc pT pF c) (h2 : Ex cc κ pT pF pB pC a) : Ex cc κ pc pF pB pC (sIf c a sSk) :=
  fun ls h kn kb kc kr qn qb qc qr z => h1 ls [] h _ (Nat.le_refl 0) (fun h' z => h2 ls h' kn kb kc kr qn qb qc qr z) (fun h' z => qn _ _ z) z
theorem S_if2 {c : PX Bool} {a b : PS} (h1 : Cd cc κ 0 pc pT pF c) (h2 : Ex cc κ pT pN pB pC a) (h3 : Ex cc κ pF pN pB pC b) : Ex cc κ pc pN pB pC (sIf c a b) :=
  fun ls h kn kb kc kr qn qb qc qr z => h1 ls [] h _ (Nat.le_refl 0) (fun h' z => h2 ls h' kn kb kc kr qn qb qc qr z) (fun h' z => h3 ls h' kn kb kc kr qn qb qc qr z) z
theorem S_lp {n : Nat} {c : PX Bool} {b st : PS} (h1 : Cd cc κ 0 pc pT pF c) (h2 : Ex cc κ pT pS pF pS b) (h3 : Ex cc κ pS pG 0 0 st) (hd : decode cc pG = .ok (.goto off, 3)) (ht : (pG : Int) + off = (pc : Int)) : Ex cc κ pc pF pB pC (sLp n c b st) := by
  intro ls h kn kb kc kr qn qb qc qr z
  refine z (fun ls h => wA cc κ pc ls [] h) fun ls h z => ?_
  have step : ∀ ls2 h2, st (fun ls3 h3 => wA cc κ pc (lcut n ls3) [] h3) (fun _ _ => False) (fun _ _ => False) kr ls2 h2 → wA cc κ pS ls2 [] h2 := fun ls2 h2 z => h3 ls2 h2 _ _ _ kr (fun ls3 h3 z => r_goto hd ht (wA_cut n z)) (fun _ _ q => q.elim) (fun _ _ q => q.elim) qr z
  exact h1 ls [] h _ (Nat.le_refl 0) (fun h' z => h2 ls h' _ _ _ kr step (fun ls2 h2 z => wA_cut n (qn _ _ z)) step qr z) (fun h' z => qn _ _ z) z
theorem S_sqb {a : PS} (h1 : Ex cc κ pc pB pB pC a) : Ex cc κ pc pN pB pC (sSq a sBk) :=
  fun ls h kn kb kc kr qn qb qc qr z => h1 ls h kb kb kc kr qb qb qc qr z
theorem S_lp0 {n : Nat} {c : PX Bool} {b : PS} (h1 : Cd cc κ 0 pc pT pF c) (h2 : Ex cc κ pT pc pF pc b) : Ex cc κ pc pF pB pC (sLp n c b sSk) := by
  intro ls h kn kb kc kr qn qb qc qr z
  refine z (fun ls h => wA cc κ pc ls [] h) fun ls h z => ?_
  exact h1 ls [] h _ (Nat.le_refl 0) (fun h' z => h2 ls h' _ _ _ kr (fun ls2 h2 z => wA_cut n z) (fun ls2 h2 z => wA_cut n (qn _ _ z)) (fun ls2 h2 z => wA_cut n z) qr z) (fun h' z => qn _ _ z) z
theorem rk {rm rmc : Room} {maxL : Nat} (hR : k_R κ = rm) (h : (decide (rmc.frames + 1 ≤ rm.frames) && decide (8 + (maxL + 11) + rmc.locals ≤ rm.locals)) = true) : rmc.frames + 1 ≤ (k_R κ).frames ∧ 8 + (maxL + 11) + rmc.locals ≤ (k_R κ).locals := by
  simp only [Bool.and_eq_true, decide_eq_true_eq] at h
  rw [hR]; exact h
theorem rk1 {rm : Room} (hR : k_R κ = rm) (h : (decide (1 ≤ rm.frames) && decide (26 ≤ rm.locals)) = true) : 1 ≤ (k_R κ).frames ∧ 26 ≤ (k_R κ).locals := by
  simp only [Bool.and_eq_true, decide_eq_true_eq] at h
  rw [hR]; exact h
theorem rk2 {rm : Room} (hR : k_R κ = rm) (h : (decide (1 ≤ rm.frames) && decide (20 ≤ rm.locals)) = true) : 1 ≤ (k_R κ).frames ∧ 20 ≤ (k_R κ).locals := by
  simp only [Bool.and_eq_true, decide_eq_true_eq] at h
  rw [hR]; exact h
theorem S_cut {n : Nat} {a : PS} (h1 : Ex cc κ pc pN pB pC a) : Ex cc κ pc pN pB pC (sCut n a) :=
  fun ls h kn kb kc kr qn qb qc qr z => h1 ls h _ kb kc kr (fun ls' h' z => wA_cut n (qn _ _ z)) qb qc qr z
def Exs (cc : ByteArray) (κ : KT) (pE pC : Nat) : List Nat → List PS → Prop
  | [p], [] => p = pE
  | p :: q :: ps, b :: bs => Ex cc κ p q pE pC b ∧ Exs cc κ pE pC (q :: ps) bs
  | _, _ => False
theorem Exs_at {pE : Nat} : ∀ (i : Nat) (ps : List Nat) (bs : List PS), Exs cc κ pE pC ps bs → i ≤ bs.length → Ex cc κ (ps.getD i 0) pE pE pC (sSqs (bs.drop i))
  | 0, [p], [], h, _ => by cases h; exact S_sk
  | 0, p :: q :: ps, b :: bs, h, _ => by
    have := Exs_at 0 (q :: ps) bs h.2 (Nat.zero_le _)
    exact S_sq h.1 this
  | i + 1, p :: q :: ps, b :: bs, h, hi => Exs_at i (q :: ps) bs h.2 (by simpa using hi)
  | i + 1, [p], [], _, hi => absurd hi (by simp)
  | _, [], _, h, _ => by cases h
  | _, [_], _ :: _, h, _ => by cases h
  | _, _ :: _ :: _, [], h, _ => by cases h
theorem ixOf_le (m d : Nat) (v : Int32) (hd : d ≤ m) : ∀ tbl : List (Int32 × Nat), tbl.all (fun q => decide (q.2 ≤ m)) = true → ixOf tbl d v ≤ m
  | [], _ => hd
  | (k, i) :: t, h => by
    simp only [List.all_cons, Bool.and_eq_true, decide_eq_true_eq] at h
    simp only [ixOf]
    split
    · exact h.1
    · exact ixOf_le m d v hd t h.2
theorem S_sw {n : Nat} {e : PX Int32} {tbl : List (Int32 × Nat)} {d : Nat} {pcs : List Nat} {bs : List PS} (h1 : Ev cc κ 0 pc pc1 .int e) (hsw : ∀ ls h x, wA cc κ (pcs.getD (ixOf tbl d x) 0) ls [] h → wA cc κ pc1 ls [.int x] h) (hb : Exs cc κ pN pC pcs bs) (hd : (decide (d ≤ bs.length) && tbl.all (fun q => decide (q.2 ≤ bs.length))) = true) : Ex cc κ pc pN pB pC (sSw n e tbl d bs) := by
  intro ls h kn kb kc kr qn qb qc qr z
  simp only [Bool.and_eq_true, decide_eq_true_eq] at hd
  exact h1 ls [] h _ (Nat.le_refl 0) (fun x h' z => hsw ls h' x (Exs_at _ pcs bs hb (ixOf_le _ d x hd.1 tbl hd.2) ls h' _ _ kc kr (fun ls' h' z => wA_cut n (qn _ _ z)) (fun ls' h' z => wA_cut n (qn _ _ z)) qc qr z)) z
theorem S_ri {e : PX Int32} (hrt : k_rt κ = some .int) (h1 : Ev cc κ 0 pc pc1 .int e) (hd : decode cc pc1 = .ok (.ireturn, 1)) : Ex cc κ pc pN pB pC (sRt .int e) :=
  fun ls h kn kb kc kr qn qb qc qr z => h1 ls [] h _ (Nat.le_refl 0) (fun x h' z => r_ret (o := some (.int x)) (by rw [hrt]; exact ⟨rfl, x, rfl⟩) hd (qr _ _ z)) z
theorem S_rl {e : PX Int64} (hrt : k_rt κ = some .long) (h1 : Ev cc κ 0 pc pc1 .long e) (hd : decode cc pc1 = .ok (.lreturn, 1)) : Ex cc κ pc pN pB pC (sRt .long e) :=
  fun ls h kn kb kc kr qn qb qc qr z => h1 ls [] h _ (Nat.le_refl 0) (fun x h' z => r_ret (o := some (.long x)) (by rw [hrt]; exact ⟨rfl, x, rfl⟩) hd (qr _ _ z)) z
theorem S_rz {e : PX Int32} (hrt : k_rt κ = some .boolean) (h1 : Ev cc κ 0 pc pc1 .int e) (hd : decode cc pc1 = .ok (.ireturn, 1)) : Ex cc κ pc pN pB pC (sRz e) :=
  fun ls h kn kb kc kr qn qb qc qr z => h1 ls [] h _ (Nat.le_refl 0) (fun x h' ⟨z1, z2⟩ => r_ret (o := some (.int x)) (by rw [hrt]; exact ⟨rfl, x, rfl, z1⟩) hd (qr _ _ z2)) z
theorem S_rv (hrt : k_rt κ = none) (hd : decode cc pc = .ok (.return_, 1)) : Ex cc κ pc pN pB pC sRv :=
  fun ls h kn kb kc kr qn qb qc qr z => r_ret (o := none) (by rw [hrt]; exact ⟨rfl, rfl⟩) hd (qr _ _ z)
theorem S_bk0 : Ex cc κ pc pN pc pC sBk := fun _ _ _ _ _ _ _ qb _ _ z => qb _ _ z
theorem S_bk (hd : decode cc pc = .ok (.goto off, 3)) (ht : (pc : Int) + off = (pB : Int)) : Ex cc κ pc pN pB pC sBk := fun _ _ _ _ _ _ _ qb _ _ z => r_goto hd ht (qb _ _ z)
theorem S_ct (hd : decode cc pc = .ok (.goto off, 3)) (ht : (pc : Int) + off = (pC : Int)) : Ex cc κ pc pN pB pC sCt := fun _ _ _ _ _ _ _ _ qc _ z => r_goto hd ht (qc _ _ z)
theorem S_so {own : String} {index : Nat} (hw : Cond.methodLink own index Lib.objectInit ∈ BIG) (hi : Cond.instanceMethod Lib.objectInit ∈ BIG) (hc : Cond.code Lib.objectInit ⟨#[0xb1]⟩ 1 none ∈ BIG) (ho : k_own κ = own) (hR : 1 ≤ (k_R κ).frames ∧ 20 ≤ (k_R κ).locals) (hd0 : decode cc pc = .ok (.aload_n 0, 1)) (hd : decode cc (pc + 1) = .ok (.invokespecial index, 3)) : Ex cc κ pc (pc + 1 + 3) pB pC sSO :=
  fun ls h kn kb kc kr qn qb qc qr ⟨⟨x, z1⟩, z2⟩ => r_aload_n hd0 rfl z1 (r_oinit hw hi hc ho hR (by decide) hd (qn _ _ z2))
theorem S_cp {own : String} {index : Nat} {a b : PX Nat} {i j m : PX Int32} (hw : Cond.methodLink own index arraycopyName ∈ BIG) (hwn : Cond.native arraycopyName ∈ BIG) (hws : Cond.static arraycopyName ∈ BIG) (hwi : Cond.initialized "java/lang/System" ∈ BIG) (ho : k_own κ = own) (hR : 1 ≤ (k_R κ).frames ∧ 26 ≤ (k_R κ).locals)
    (h1 : Ev cc κ 0 pc pc1 .ref a) (h2 : Ev cc κ 1 pc1 pc2 .int i) (h3 : Ev cc κ 2 pc2 pc3 .ref b) (h4 : Ev cc κ 3 pc3 pc4 .int j) (h5 : Ev cc κ 4 pc4 pS .int m) (hd : decode cc pS = .ok (.invokestatic index, 3)) : Ex cc κ pc (pS + 3) pB pC (sCp a i b j m) :=
  fun ls h kn kb kc kr qn qb qc qr z => h1 ls [] h _ (Nat.le_refl 0) (fun r h1 z => h2 ls [.ref r] h1 _ (Nat.le_of_eq rfl) (fun x h2 z => h3 ls [.int x, .ref r] h2 _ (Nat.le_of_eq rfl) (fun q h3 z => h4 ls [.ref q, .int x, .ref r] h3 _ (Nat.le_of_eq rfl) (fun y h4 z => h5 ls [.int y, .ref q, .int x, .ref r] h4 _ (Nat.le_of_eq rfl)
    (fun w h5 ⟨src, dst, z1, z2, z3, z4, z5, z6, z7, z8, z9, z10⟩ => r_copy hw hwn hws hwi ho hR (by decide) z1 z2 z3 z4 z5 z6 z7 z8 z9 hd (qn _ _ z10)) z) z) z) z) z
theorem E_new {own : String} {index index2 d ci n : Nat} {fs : List Value} {y : MethodName} {bytes : ByteArray} {maxL : Nat} {rm : Room} {F : PM} {as : PX LV} {g : Nat × Nat} (hg : g = (k_n0 κ + (k_R κ).cells, k_t0 κ + (k_R κ).slots)) (hF : NewOK own index ci fs) (hc : CallI own index2 y bytes maxL n) (hC : Ctr (k_l κ) y bytes maxL none rm F) (ho : k_own κ = own) (hR : rm.frames + 1 ≤ (k_R κ).frames ∧ 8 + (maxL + 11) + rm.locals ≤ (k_R κ).locals) (h8 : d ≤ 7)
    (hd0 : decode cc pc = .ok (.new index, 3)) (hd1 : decode cc (pc + 3) = .ok (.dup, 1)) (h1 : Ea cc κ (2 + d) (pc + 3 + 1) pc1 as) (hd : decode cc pc1 = .ok (.invokespecial index2, 3)) : Ev cc κ d pc (pc1 + 3) .ref (eNew g ci fs rm n F as) := by
  intro ls st h K hs q ⟨z1, z2, z3⟩
  subst hg
  refine r_new hF ho z1 z2 hd0 (r_dup hd1 rfl (h1 ls (.ref h.length :: .ref h.length :: st) _ _ (by rw [stw_cons, stw_cons, catR]; omega) ?_ z3))
  rintro t h1 ⟨y1, y2, y3, y4⟩
  exact r_callI hc hC ho hR (by rw [stw_cons, catR]; omega) y2 y3 y1 y4 hd (fun o h' ⟨x1, x2⟩ => by subst x1; exact q _ _ x2)
theorem E_NI {d : Nat} {n : PX Int32} {g : Nat × Nat} (hg : g = (k_n0 κ + (k_R κ).cells, k_t0 κ + (k_R κ).slots)) (hw : Cond.arrayClass .int ∈ BIG) (h1 : Ev cc κ d pc pc1 .int n) (hd : decode cc pc1 = .ok (.newarray .int, 2)) : Ev cc κ d pc (pc1 + 2) .ref (eNA g 20 n) :=
  fun ls st h K hs q z => by subst hg; exact h1 ls st h _ hs (fun x h' ⟨z1, z2, z3, z4, z5⟩ => r_newI hw z1 rfl z2 z3 z4 hd (q _ _ z5)) z
theorem E_NZ {d : Nat} {n : PX Int32} {g : Nat × Nat} (hg : g = (k_n0 κ + (k_R κ).cells, k_t0 κ + (k_R κ).slots)) (hw : Cond.arrayClass .boolean ∈ BIG) (h1 : Ev cc κ d pc pc1 .int n) (hd : decode cc pc1 = .ok (.newarray .boolean, 2)) : Ev cc κ d pc (pc1 + 2) .ref (eNA g 21 n) :=
  fun ls st h K hs q z => by subst hg; exact h1 ls st h _ hs (fun x h' ⟨z1, z2, z3, z4, z5⟩ => r_newZ hw z1 rfl z2 z3 z4 hd (q _ _ z5)) z
theorem E_NM {own : String} {index d : Nat} {n : PX Int32} {g : Nat × Nat} (hg : g = (k_n0 κ + (k_R κ).cells, k_t0 κ + (k_R κ).slots)) (hw : Cond.classLink own index "[[I" ∈ BIG) (hwa : Cond.arrayClass .int ∈ BIG) (ho : k_own κ = own) (hd0 : decode cc pc = .ok (.iconst 2, 1)) (h1 : Ev cc κ (1 + d) (pc + 1) pc1 .int n) (hd : decode cc pc1 = .ok (.multianewarray index 2, 4)) : Ev cc κ d pc (pc1 + 4) .ref (eNM g n) :=
  fun ls st h K hs q z => by subst hg; exact r_iconst hd0 rfl (h1 ls (.int 2 :: st) h _ (by rw [stw_cons, catI]; omega) (fun x h' ⟨z1, z2, z3, z4, z5⟩ => r_mna hw hwa ho z1 rfl z2 z3 z4 hd (q _ _ z5)) z)
end SR
/-! from a method's body to its contract -/
def lx : List Value → LV
  | [] => []
  | v :: t => if v.category = 2 then v :: .null :: lx t else v :: lx t
def lini (n : Nat) (vs : List Value) : LV := lx vs ++ List.replicate (n - (lx vs).length) .null
theorem lx_args (G : GT) : ∀ (vs : List Value) (i : Nat) (v : Value) (k : Nat), (lx vs)[i]? = some v → v ≠ .null → (k + i, cv G v) ∈ lv_args k (vs.map (cv G))
  | [], i, v, k, h, _ => by simp [lx] at h
  | w :: t, i, v, k, h, hv => by
    simp only [List.map_cons, lv_args, cv_cat]
    unfold lx at h
    by_cases hc : w.category = 2
    · rw [if_pos hc] at h ⊢
      match i, h with
      | 0, h => simp at h; subst h; exact List.mem_cons_self
      | 1, h => simp at h; exact absurd h.symm hv
      | i + 2, h =>
        simp only [List.getElem?_cons_succ] at h
        have := lx_args G t i v (k + 2) h hv
        rw [show k + 2 + i = k + (i + 2) by omega] at this
        exact List.mem_cons_of_mem _ this
    · rw [if_neg hc] at h ⊢
      match i, h with
      | 0, h => simp at h; subst h; exact List.mem_cons_self
      | i + 1, h =>
        simp only [List.getElem?_cons_succ] at h
        have := lx_args G t i v (k + 1) h hv
        rw [show k + 1 + i = k + (i + 1) by omega] at this
        exact List.mem_cons_of_mem _ this
theorem lx_len (G : GT) : ∀ vs : List Value, (lg_sl (vs.map (cv G))).length = (lx vs).length
  | [] => rfl
  | v :: t => by
    have ih := lx_len G t
    unfold lg_sl at ih ⊢
    simp only [List.map_cons, List.flatMap_cons, List.length_append, ih, cv_cat]
    simp only [lx]
    split <;> simp <;> omega
theorem lini_Lh (G : GT) {n : Nat} {vs : List Value} (h : (lx vs).length ≤ n) : Lh G n ((lg_sl (vs.map (cv G)) ++ List.replicate (n - (lg_sl (vs.map (cv G))).length) Slot.unset).toArray) (lini n vs) := by
  have h0 := lv_entry (vs.map (cv G)) (n := n) (by rw [lx_len]; exact h)
  refine ⟨by unfold lini; rw [List.length_append, List.length_replicate]; omega, h0.1, h0.2.1, fun q hq => ?_⟩
  obtain ⟨v, h1, h2, h3⟩ := asc_mem.mp hq
  have hlt : (lini n vs)[q.1]? = some v := h1
  unfold lini at hlt
  by_cases hl : q.1 < (lx vs).length
  · rw [List.getElem?_append_left hl] at hlt
    have := lx_args G vs q.1 v 0 hlt h2
    rw [Nat.zero_add] at this
    have h5 := h0.2.2 _ this
    rw [h3]
    exact h5
  · rw [List.getElem?_append_right (by omega), List.getElem?_replicate] at hlt
    split at hlt
    · exact absurd (Option.some.inj hlt).symm h2
    · cases hlt
/-- the contract of a method with the body B, out of how its bytecode carries B -/
theorem Ctr_of {l : Launch} {y : MethodName} {bytes : ByteArray} {maxL : Nat} {ret : Option FieldType} {rm : Room} {own : String} {X : PM} {B : Nat × Nat → PS} {KR : HV → (Option Value → HV → Prop) → Option Value → HV → Prop} (hy : plainName y.cls = true) (hown : y.cls = own)
    (hX : ∀ vs h Q, X vs h Q → (lx vs).length ≤ maxL ∧ B (h.length + rm.cells, hsz h + rm.slots) (fun _ _ => False) (fun _ _ => False) (fun _ _ => False) (KR h Q) (lini maxL vs) h)
    (hKR : ∀ h Q o h', KR h Q o h' → (rm.cells = 0 ∧ rm.slots = 0 ∨ h'.length = h.length + rm.cells ∧ hsz h' = hsz h + rm.slots) ∧ Q o h')
    (hrt : ret = none ∨ ret = some .int ∨ ret = some .boolean ∨ ret = some .long)
    (hB : ∀ κ : KT, k_l κ = l → k_own κ = own → k_R κ = rm → k_rt κ = ret → (k_me κ).name = y.name → Ex bytes κ 0 0 0 0 (B (k_n0 κ + (k_R κ).cells, k_t0 κ + (k_R κ).slots))) : Ctr l y bytes maxL ret rm X := by
  subst hown
  intro G vs h Qp hXX
  obtain ⟨hlen, hBB⟩ := hX vs h Qp hXX
  refine Met.ofW (cc := bytes) (maxL := maxL) (ret := ret) hy rfl ?_
  intro p e s m args below meth c s₁ BB hml hv
  obtain ⟨rfl, hWo, hTa⟩ := hv
  have hts0 := atoms_spec (ws := Cond.code y bytes maxL ret :: BIG) BB.pre
  have hr : meth.sig.returnType = ret := BB.returns
  have hlocks := BB.notSynchronized
  rw [lg_entry_eq]
  let κ : KT := (p, l, e, rm, s, m, ((vs.map (cv G)).toArray), below, meth, c, MQ below (mQ G h rm Qp) ((vs.map (cv G)).toArray) s rm.cells rm.slots (g_A G), G, maxL, h.length, hsz h, y.cls, ret, KR h Qp)
  have O : KO bytes κ := by
    refine ⟨BB.exec, BB.bytes, hml, findClass_of_methodNamed BB.named, fun w hw => hts0 w (List.mem_cons_of_mem _ hw), hTa, ?_⟩
    intro pc i o mls H locs cells slots h' hri hd hW hQ0
    have hQ := hKR _ _ _ _ hQ0
    obtain ⟨⟨w1, w2, w3, w4⟩, w5, w6, w7, w8, w9, w10⟩ := id hW
    have w9 : cells ≤ rm.cells := w9
    have w10 : slots ≤ rm.slots := w10
    have w7 : h'.length = h.length + cells := w7
    have w8 : hsz h' = hsz h + slots := w8
    have hq : ∀ t : State, t.heap = H → s.WarmedH t.vm → mQ G h rm Qp ((vs.map (cv G)).toArray) s (.returned (o.map (cv G))) t := fun t ht _ => by
      have e1 : h'.length = h.length + rm.cells ∧ hsz h' = hsz h + rm.slots := by
        rcases hQ.1 with q | q
        · exact ⟨by omega, by omega⟩
        · exact q
      exact ⟨⟨o, h', rfl, hQ.2, by rw [ht]; exact hW.1, e1.1, e1.2⟩, w5.F ht⟩
    have hri : retI ret i o := hri
    refine W.widen w9 w10 ?_
    rcases hrt with rfl | rfl | rfl | rfl
    · obtain ⟨rfl, rfl⟩ := hri
      exact W.vret BB.exec BB.bytes hr hq w5.2.2 hd
    · obtain ⟨rfl, x, rfl⟩ := hri
      exact W.iret BB.exec BB.bytes hr hq w5.2.2 hd
    · obtain ⟨rfl, x, rfl, hx⟩ := hri
      exact W.zret BB.exec BB.bytes hr (by rcases hx with rfl | rfl <;> rfl) hq w5.2.2 hd
    · obtain ⟨rfl, x, rfl⟩ := hri
      exact W.lret BB.exec BB.bytes hr hq w5.2.2 hd
  have key := hB κ rfl rfl rfl rfl (name_of_methodNamed BB.named BB.method).1 (lini maxL vs) h (fun _ _ => False) (fun _ _ => False) (fun _ _ => False) (KR h Qp) (fun _ _ q => q.elim) (fun _ _ q => q.elim) (fun _ _ q => q.elim) (fun _ _ q => q) hBB
  exact key O _ s.heap [] 0 0 (lini_Lh G hlen) ⟨hWo, va_S.rf, rfl, rfl, rfl, Nat.zero_le _, Nat.zero_le _⟩
end
section
/-! words, fields, methods, calls of this claim, by their places in the tables (printed by a program of mine out of the class) -/
theorem w_arrI : Cond.arrayClass .int ∈ BIG := (big_t 40 (by decide +kernel) (by decide +kernel))
theorem w_arrZ : Cond.arrayClass .boolean ∈ BIG := (big_t 121 (by decide +kernel) (by decide +kernel))
theorem w_oi : Cond.instanceMethod Lib.objectInit ∈ BIG := (big_t 21 (by decide +kernel) (by decide +kernel))
theorem w_oc : Cond.code Lib.objectInit ⟨#[0xb1]⟩ 1 none ∈ BIG := (big_t 22 (by decide +kernel) (by decide +kernel))
theorem w_acn : Cond.native arraycopyName ∈ BIG := (big_t 576 (by decide +kernel) (by decide +kernel))
theorem w_acs : Cond.static arraycopyName ∈ BIG := (big_t 575 (by decide +kernel) (by decide +kernel))
theorem w_aci : Cond.initialized "java/lang/System" ∈ BIG := (big_t 13 (by decide +kernel) (by decide +kernel))
def y_Slots_clear : MethodName := ⟨"PackLanes$Slots", "clear", "()V"⟩
def rm_Slots_clear : Room := { frames := 0, cells := 0, slots := 0, locals := 0 }
def y_Acts_clear : MethodName := ⟨"PackLanes$Acts", "clear", "()V"⟩
def rm_Acts_clear : Room := { frames := 0, cells := 0, slots := 0, locals := 0 }
def y_PL_restart : MethodName := ⟨"PackLanes", "restart", "(III)V"⟩
def rm_PL_restart : Room := { frames := 1, cells := 0, slots := 0, locals := 21 }
def y_Src_init : MethodName := ⟨"PackLanes$Source", "<init>", "()V"⟩
def rm_Src_init : Room := { frames := 1, cells := 2, slots := 84, locals := 20 }
def y_Code_init : MethodName := ⟨"PackLanes$Code", "<init>", "()V"⟩
def rm_Code_init : Room := { frames := 1, cells := 6, slots := 96, locals := 20 }
def y_Acts_init : MethodName := ⟨"PackLanes$Acts", "<init>", "()V"⟩
def rm_Acts_init : Room := { frames := 1, cells := 2, slots := 28, locals := 20 }
def y_Slots_init : MethodName := ⟨"PackLanes$Slots", "<init>", "()V"⟩
def rm_Slots_init : Room := { frames := 1, cells := 4, slots := 42, locals := 20 }
def y_Sights_init : MethodName := ⟨"PackLanes$Sights", "<init>", "()V"⟩
def rm_Sights_init : Room := { frames := 1, cells := 2, slots := 12, locals := 20 }
def y_Links_init : MethodName := ⟨"PackLanes$Links", "<init>", "(LPackLanes$Code;)V"⟩
def rm_Links_init : Room := { frames := 1, cells := 3, slots := 48, locals := 20 }
def y_Tree_init : MethodName := ⟨"PackLanes$Tree", "<init>", "(LPackLanes$Code;LPackLanes$Links;)V"⟩
def rm_Tree_init : Room := { frames := 1, cells := 2, slots := 24, locals := 20 }
def y_Pack_init : MethodName := ⟨"PackLanes$Packer", "<init>", "(LPackLanes$Code;)V"⟩
def rm_Pack_init : Room := { frames := 2, cells := 12, slots := 168, locals := 42 }
def y_Mach_init : MethodName := ⟨"PackLanes$Machine", "<init>", "(LPackLanes$Code;)V"⟩
def rm_Mach_init : Room := { frames := 1, cells := 2, slots := 32, locals := 20 }
def y_PL_holds : MethodName := ⟨"PackLanes", "holds", "(II)Z"⟩
def rm_PL_holds : Room := { frames := 0, cells := 0, slots := 0, locals := 0 }
def y_Code_usesMemory : MethodName := ⟨"PackLanes$Code", "usesMemory", "(I)Z"⟩
def rm_Code_usesMemory : Room := { frames := 0, cells := 0, slots := 0, locals := 0 }
def y_Code_addressOf : MethodName := ⟨"PackLanes$Code", "addressOf", "(II)I"⟩
def rm_Code_addressOf : Room := { frames := 0, cells := 0, slots := 0, locals := 0 }
def y_Links_clashInMemory : MethodName := ⟨"PackLanes$Links", "clashInMemory", "(IIII)Z"⟩
def rm_Links_clashInMemory : Room := { frames := 1, cells := 0, slots := 0, locals := 22 }
def y_Links_clashByStop : MethodName := ⟨"PackLanes$Links", "clashByStop", "(II)Z"⟩
def rm_Links_clashByStop : Room := { frames := 0, cells := 0, slots := 0, locals := 0 }
def y_Code_operands : MethodName := ⟨"PackLanes$Code", "operands", "(I)I"⟩
def rm_Code_operands : Room := { frames := 0, cells := 0, slots := 0, locals := 0 }
def y_Links_link : MethodName := ⟨"PackLanes$Links", "link", "(IIII)V"⟩
def rm_Links_link : Room := { frames := 2, cells := 0, slots := 0, locals := 46 }
def y_Links_find : MethodName := ⟨"PackLanes$Links", "find", "(III)V"⟩
def rm_Links_find : Room := { frames := 3, cells := 0, slots := 0, locals := 71 }
def y_Pack_keepNothing : MethodName := ⟨"PackLanes$Packer", "keepNothing", "([II)V"⟩
def rm_Pack_keepNothing : Room := { frames := 4, cells := 0, slots := 0, locals := 96 }
def y_Pack_leastStore : MethodName := ⟨"PackLanes$Packer", "leastStore", "(II)I"⟩
def rm_Pack_leastStore : Room := { frames := 1, cells := 0, slots := 0, locals := 21 }
def y_PL_withLane : MethodName := ⟨"PackLanes", "withLane", "(III)I"⟩
def rm_PL_withLane : Room := { frames := 0, cells := 0, slots := 0, locals := 0 }
def y_PL_inLane : MethodName := ⟨"PackLanes", "inLane", "(II)I"⟩
def rm_PL_inLane : Room := { frames := 0, cells := 0, slots := 0, locals := 0 }
def y_PL_setOf : MethodName := ⟨"PackLanes", "setOf", "(II)I"⟩
def rm_PL_setOf : Room := { frames := 0, cells := 0, slots := 0, locals := 0 }
def y_Int_bitCount : MethodName := ⟨"java/lang/Integer", "bitCount", "(I)I"⟩
def rm_Int_bitCount : Room := { frames := 0, cells := 0, slots := 0, locals := 0 }
def y_Links_isPack : MethodName := ⟨"PackLanes$Links", "isPack", "(II)Z"⟩
def rm_Links_isPack : Room := { frames := 1, cells := 0, slots := 0, locals := 23 }
def y_Pack_rootAt : MethodName := ⟨"PackLanes$Packer", "rootAt", "(II)I"⟩
def rm_Pack_rootAt : Room := { frames := 2, cells := 0, slots := 0, locals := 50 }
def y_Pack_joinTree : MethodName := ⟨"PackLanes$Packer", "joinTree", "(Z)V"⟩
def rm_Pack_joinTree : Room := { frames := 1, cells := 0, slots := 0, locals := 23 }
def y_Pack_followedBy : MethodName := ⟨"PackLanes$Packer", "followedBy", "(I)I"⟩
def rm_Pack_followedBy : Room := { frames := 1, cells := 0, slots := 0, locals := 21 }
def y_Pack_leastReady : MethodName := ⟨"PackLanes$Packer", "leastReady", "(I)I"⟩
def rm_Pack_leastReady : Room := { frames := 2, cells := 0, slots := 0, locals := 44 }
def y_Pack_appendNode : MethodName := ⟨"PackLanes$Packer", "appendNode", "(II)V"⟩
def rm_Pack_appendNode : Room := { frames := 1, cells := 0, slots := 0, locals := 21 }
def y_Pack_putInOrder : MethodName := ⟨"PackLanes$Packer", "putInOrder", "()Z"⟩
def rm_Pack_putInOrder : Room := { frames := 3, cells := 0, slots := 0, locals := 66 }
def y_Tree_addPack : MethodName := ⟨"PackLanes$Tree", "addPack", "(I)V"⟩
def rm_Tree_addPack : Room := { frames := 1, cells := 0, slots := 0, locals := 23 }
def y_Tree_append : MethodName := ⟨"PackLanes$Tree", "append", "(I)V"⟩
def rm_Tree_append : Room := { frames := 0, cells := 0, slots := 0, locals := 0 }
def y_Tree_operands : MethodName := ⟨"PackLanes$Tree", "operands", "(II)I"⟩
def rm_Tree_operands : Room := { frames := 1, cells := 0, slots := 0, locals := 22 }
def y_Tree_turnedLanes : MethodName := ⟨"PackLanes$Tree", "turnedLanes", "(I)I"⟩
def rm_Tree_turnedLanes : Room := { frames := 1, cells := 0, slots := 0, locals := 21 }
def y_Tree_hasPack : MethodName := ⟨"PackLanes$Tree", "hasPack", "(I)Z"⟩
def rm_Tree_hasPack : Room := { frames := 0, cells := 0, slots := 0, locals := 0 }
def y_Tree_takeOneByOne : MethodName := ⟨"PackLanes$Tree", "takeOneByOne", "(I)V"⟩
def rm_Tree_takeOneByOne : Room := { frames := 1, cells := 0, slots := 0, locals := 23 }
def y_Tree_handle : MethodName := ⟨"PackLanes$Tree", "handle", "(I)V"⟩
def rm_Tree_handle : Room := { frames := 2, cells := 0, slots := 0, locals := 50 }
def y_Tree_grow : MethodName := ⟨"PackLanes$Tree", "grow", "(III)V"⟩
def rm_Tree_grow : Room := { frames := 3, cells := 0, slots := 0, locals := 72 }
def y_Tree_isTakenOut : MethodName := ⟨"PackLanes$Tree", "isTakenOut", "(I)Z"⟩
def rm_Tree_isTakenOut : Room := { frames := 1, cells := 0, slots := 0, locals := 21 }
def y_Tree_gain : MethodName := ⟨"PackLanes$Tree", "gain", "()I"⟩
def rm_Tree_gain : Room := { frames := 2, cells := 0, slots := 0, locals := 42 }
def y_Pack_considerRoot : MethodName := ⟨"PackLanes$Packer", "considerRoot", "(I)V"⟩
def rm_Pack_considerRoot : Room := { frames := 4, cells := 0, slots := 0, locals := 96 }
def y_Pack_choosePacks : MethodName := ⟨"PackLanes$Packer", "choosePacks", "([II)V"⟩
def rm_Pack_choosePacks : Room := { frames := 5, cells := 0, slots := 0, locals := 121 }
def y_PL_init : MethodName := ⟨"PackLanes", "<init>", "()V"⟩
def rm_PL_init : Room := { frames := 6, cells := 61, slots := 905, locals := 146 }
def y_Src_append : MethodName := ⟨"PackLanes$Source", "append", "(I)I"⟩
def rm_Src_append : Room := { frames := 0, cells := 0, slots := 0, locals := 0 }
def y_PL_write : MethodName := ⟨"PackLanes", "write", "(I)I"⟩
def rm_PL_write : Room := { frames := 1, cells := 0, slots := 0, locals := 21 }
def y_Src_clear : MethodName := ⟨"PackLanes$Source", "clear", "()I"⟩
def rm_Src_clear : Room := { frames := 0, cells := 0, slots := 0, locals := 0 }
def y_PL_wipe : MethodName := ⟨"PackLanes", "wipe", "()I"⟩
def rm_PL_wipe : Room := { frames := 1, cells := 0, slots := 0, locals := 21 }
def y_Src_headerAllows : MethodName := ⟨"PackLanes$Source", "headerAllows", "(II)Z"⟩
def rm_Src_headerAllows : Room := { frames := 0, cells := 0, slots := 0, locals := 0 }
def y_Src_kindOf : MethodName := ⟨"PackLanes$Source", "kindOf", "(I)I"⟩
def rm_Src_kindOf : Room := { frames := 0, cells := 0, slots := 0, locals := 0 }
def y_Src_partsOf : MethodName := ⟨"PackLanes$Source", "partsOf", "(I)I"⟩
def rm_Src_partsOf : Room := { frames := 0, cells := 0, slots := 0, locals := 0 }
def y_Src_digitBelow : MethodName := ⟨"PackLanes$Source", "digitBelow", "(II)I"⟩
def rm_Src_digitBelow : Room := { frames := 0, cells := 0, slots := 0, locals := 0 }
def y_Code_has : MethodName := ⟨"PackLanes$Code", "has", "(I)Z"⟩
def rm_Code_has : Room := { frames := 0, cells := 0, slots := 0, locals := 0 }
def y_Code_operandNamed : MethodName := ⟨"PackLanes$Code", "operandNamed", "(I)I"⟩
def rm_Code_operandNamed : Room := { frames := 1, cells := 0, slots := 0, locals := 21 }
def y_Src_partOf : MethodName := ⟨"PackLanes$Source", "partOf", "(IIILPackLanes$Code;)I"⟩
def rm_Src_partOf : Room := { frames := 2, cells := 0, slots := 0, locals := 43 }
def y_Code_stores : MethodName := ⟨"PackLanes$Code", "stores", "()I"⟩
def rm_Code_stores : Room := { frames := 0, cells := 0, slots := 0, locals := 0 }
def y_Code_canBegin : MethodName := ⟨"PackLanes$Code", "canBegin", "(I)Z"⟩
def rm_Code_canBegin : Room := { frames := 1, cells := 0, slots := 0, locals := 22 }
def y_Code_add : MethodName := ⟨"PackLanes$Code", "add", "(IIII)V"⟩
def rm_Code_add : Room := { frames := 0, cells := 0, slots := 0, locals := 0 }
def y_Code_clear : MethodName := ⟨"PackLanes$Code", "clear", "()V"⟩
def rm_Code_clear : Room := { frames := 0, cells := 0, slots := 0, locals := 0 }
def y_Src_parse : MethodName := ⟨"PackLanes$Source", "parse", "(LPackLanes$Code;)I"⟩
def rm_Src_parse : Room := { frames := 3, cells := 0, slots := 0, locals := 66 }
def y_PL_fault : MethodName := ⟨"PackLanes", "fault", "()I"⟩
def rm_PL_fault : Room := { frames := 4, cells := 0, slots := 0, locals := 93 }
def y_Src_headerDigit : MethodName := ⟨"PackLanes$Source", "headerDigit", "(I)I"⟩
def rm_Src_headerDigit : Room := { frames := 0, cells := 0, slots := 0, locals := 0 }
def y_PL_block : MethodName := ⟨"PackLanes", "block", "()I"⟩
def rm_PL_block : Room := { frames := 6, cells := 0, slots := 0, locals := 146 }
def y_PL_bestWidth : MethodName := ⟨"PackLanes", "bestWidth", "()I"⟩
def rm_PL_bestWidth : Room := { frames := 6, cells := 0, slots := 0, locals := 146 }
def y_Mach_begin : MethodName := ⟨"PackLanes$Machine", "begin", "([I)V"⟩
def rm_Mach_begin : Room := { frames := 1, cells := 0, slots := 0, locals := 26 }
def y_Mach_carryOut : MethodName := ⟨"PackLanes$Machine", "carryOut", "(I)V"⟩
def rm_Mach_carryOut : Room := { frames := 1, cells := 0, slots := 0, locals := 22 }
def y_Mach_runInOrder : MethodName := ⟨"PackLanes$Machine", "runInOrder", "([II)V"⟩
def rm_Mach_runInOrder : Room := { frames := 2, cells := 0, slots := 0, locals := 48 }
def y_Mach_runPacked : MethodName := ⟨"PackLanes$Machine", "runPacked", "([ILPackLanes$Packer;)V"⟩
def rm_Mach_runPacked : Room := { frames := 2, cells := 0, slots := 0, locals := 48 }
def y_Code_cost : MethodName := ⟨"PackLanes$Code", "cost", "()I"⟩
def rm_Code_cost : Room := { frames := 0, cells := 0, slots := 0, locals := 0 }
def y_PL_about : MethodName := ⟨"PackLanes", "about", "(I)I"⟩
def rm_PL_about : Room := { frames := 7, cells := 0, slots := 0, locals := 167 }
def y_PL_instruction : MethodName := ⟨"PackLanes", "instruction", "(II)I"⟩
def rm_PL_instruction : Room := { frames := 3, cells := 0, slots := 0, locals := 71 }
def y_PL_address : MethodName := ⟨"PackLanes", "address", "(II)I"⟩
def rm_PL_address : Room := { frames := 3, cells := 0, slots := 0, locals := 71 }
def y_PL_depends : MethodName := ⟨"PackLanes", "depends", "(II)I"⟩
def rm_PL_depends : Room := { frames := 1, cells := 0, slots := 0, locals := 21 }
def y_Acts_remember : MethodName := ⟨"PackLanes$Acts", "remember", "(II)V"⟩
def rm_Acts_remember : Room := { frames := 1, cells := 0, slots := 0, locals := 26 }
def y_PL_start : MethodName := ⟨"PackLanes", "start", "(II)I"⟩
def rm_PL_start : Room := { frames := 2, cells := 0, slots := 0, locals := 48 }
def y_PL_settingAllows : MethodName := ⟨"PackLanes", "settingAllows", "(II)Z"⟩
def rm_PL_settingAllows : Room := { frames := 0, cells := 0, slots := 0, locals := 0 }
def y_PL_set : MethodName := ⟨"PackLanes", "set", "(II)I"⟩
def rm_PL_set : Room := { frames := 6, cells := 0, slots := 0, locals := 146 }
def y_Acts_takeBack : MethodName := ⟨"PackLanes$Acts", "takeBack", "([I)V"⟩
def rm_Acts_takeBack : Room := { frames := 0, cells := 0, slots := 0, locals := 0 }
def y_PL_undo : MethodName := ⟨"PackLanes", "undo", "()I"⟩
def rm_PL_undo : Room := { frames := 6, cells := 0, slots := 0, locals := 146 }
def y_Pack_gainOfTree : MethodName := ⟨"PackLanes$Packer", "gainOfTree", "(I)I"⟩
def rm_Pack_gainOfTree : Room := { frames := 4, cells := 0, slots := 0, locals := 96 }
def y_PL_tried : MethodName := ⟨"PackLanes", "tried", "(II)I"⟩
def rm_PL_tried : Room := { frames := 5, cells := 0, slots := 0, locals := 119 }
def y_PL_power : MethodName := ⟨"PackLanes", "power", "(JI)J"⟩
def rm_PL_power : Room := { frames := 0, cells := 0, slots := 0, locals := 0 }
def y_PL_isRight : MethodName := ⟨"PackLanes", "isRight", "(I)Z"⟩
def rm_PL_isRight : Room := { frames := 6, cells := 0, slots := 0, locals := 146 }
def y_PL_judge : MethodName := ⟨"PackLanes", "judge", "(IJ)I"⟩
def rm_PL_judge : Room := { frames := 7, cells := 0, slots := 0, locals := 171 }
def y_Sights_add : MethodName := ⟨"PackLanes$Sights", "add", "(II)I"⟩
def rm_Sights_add : Room := { frames := 0, cells := 0, slots := 0, locals := 0 }
def y_PL_see : MethodName := ⟨"PackLanes", "see", "(II)I"⟩
def rm_PL_see : Room := { frames := 1, cells := 0, slots := 0, locals := 22 }
def y_Sights_clear : MethodName := ⟨"PackLanes$Sights", "clear", "()I"⟩
def rm_Sights_clear : Room := { frames := 0, cells := 0, slots := 0, locals := 0 }
def y_PL_unsee : MethodName := ⟨"PackLanes", "unsee", "()I"⟩
def rm_PL_unsee : Room := { frames := 1, cells := 0, slots := 0, locals := 21 }
def y_Sights_agreeWith : MethodName := ⟨"PackLanes$Sights", "agreeWith", "([I)Z"⟩
def rm_Sights_agreeWith : Room := { frames := 0, cells := 0, slots := 0, locals := 0 }
def y_PL_which : MethodName := ⟨"PackLanes", "which", "()I"⟩
def rm_PL_which : Room := { frames := 3, cells := 0, slots := 0, locals := 71 }
def y_PL_storesOutside : MethodName := ⟨"PackLanes", "storesOutside", "(I)I"⟩
def rm_PL_storesOutside : Room := { frames := 1, cells := 0, slots := 0, locals := 21 }
def y_PL_sumGainsOfAllChoices : MethodName := ⟨"PackLanes", "sumGainsOfAllChoices", "(I)V"⟩
def rm_PL_sumGainsOfAllChoices : Room := { frames := 6, cells := 0, slots := 0, locals := 146 }
def y_PL_ordersThrough : MethodName := ⟨"PackLanes", "ordersThrough", "(II)I"⟩
def rm_PL_ordersThrough : Room := { frames := 1, cells := 0, slots := 0, locals := 20 }
def y_PL_commonDivisor : MethodName := ⟨"PackLanes", "commonDivisor", "(II)I"⟩
def rm_PL_commonDivisor : Room := { frames := 0, cells := 0, slots := 0, locals := 0 }
def y_Math_abs : MethodName := ⟨"java/lang/Math", "abs", "(I)I"⟩
def rm_Math_abs : Room := { frames := 0, cells := 0, slots := 0, locals := 0 }
def y_PL_partOfFraction : MethodName := ⟨"PackLanes", "partOfFraction", "(IIZ)I"⟩
def rm_PL_partOfFraction : Room := { frames := 1, cells := 0, slots := 0, locals := 25 }
def y_PL_share : MethodName := ⟨"PackLanes", "share", "(IZ)I"⟩
def rm_PL_share : Room := { frames := 7, cells := 0, slots := 0, locals := 168 }
def y_PL_chance : MethodName := ⟨"PackLanes", "chance", "(IIZ)I"⟩
def rm_PL_chance : Room := { frames := 7, cells := 0, slots := 0, locals := 168 }
def y_PL_seed : MethodName := ⟨"PackLanes", "seed", "(J)J"⟩
def rm_PL_seed : Room := { frames := 0, cells := 0, slots := 0, locals := 0 }
def y_PL_drawStartValues : MethodName := ⟨"PackLanes", "drawStartValues", "()V"⟩
def rm_PL_drawStartValues : Room := { frames := 0, cells := 0, slots := 0, locals := 0 }
def y_PL_drawn : MethodName := ⟨"PackLanes", "drawn", "(I)I"⟩
def rm_PL_drawn : Room := { frames := 3, cells := 0, slots := 0, locals := 71 }
def y_Slots_fill : MethodName := ⟨"PackLanes$Slots", "fill", "(I[I)V"⟩
def rm_Slots_fill : Room := { frames := 1, cells := 0, slots := 0, locals := 26 }
def y_PL_keep : MethodName := ⟨"PackLanes", "keep", "(I)I"⟩
def rm_PL_keep : Room := { frames := 2, cells := 0, slots := 0, locals := 48 }
def y_Slots_restore : MethodName := ⟨"PackLanes$Slots", "restore", "(I[I)V"⟩
def rm_Slots_restore : Room := { frames := 1, cells := 0, slots := 0, locals := 26 }
def y_PL_again : MethodName := ⟨"PackLanes", "again", "(I)I"⟩
def rm_PL_again : Room := { frames := 6, cells := 0, slots := 0, locals := 146 }
def y_R_first : MethodName := ⟨"PackLanesModel", "first", "([I)V"⟩
def rm_R_first : Room := { frames := 0, cells := 0, slots := 0, locals := 0 }
def y_R_init : MethodName := ⟨"PackLanesModel", "<init>", "()V"⟩
def rm_R_init : Room := { frames := 1, cells := 28, slots := 858, locals := 21 }
def y_R_copy : MethodName := ⟨"PackLanesModel", "copy", "([I[I)V"⟩
def rm_R_copy : Room := { frames := 0, cells := 0, slots := 0, locals := 0 }
def y_R_in : MethodName := ⟨"PackLanesModel", "in", "(JJJ)Z"⟩
def rm_R_in : Room := { frames := 0, cells := 0, slots := 0, locals := 0 }
def y_R_has : MethodName := ⟨"PackLanesModel", "has", "(II)Z"⟩
def rm_R_has : Room := { frames := 0, cells := 0, slots := 0, locals := 0 }
def y_R_ones : MethodName := ⟨"PackLanesModel", "ones", "(I)I"⟩
def rm_R_ones : Room := { frames := 0, cells := 0, slots := 0, locals := 0 }
def y_R_power : MethodName := ⟨"PackLanesModel", "power", "(II)I"⟩
def rm_R_power : Room := { frames := 0, cells := 0, slots := 0, locals := 0 }
def y_R_factorial : MethodName := ⟨"PackLanesModel", "factorial", "(I)I"⟩
def rm_R_factorial : Room := { frames := 0, cells := 0, slots := 0, locals := 0 }
def y_R_fraction : MethodName := ⟨"PackLanesModel", "fraction", "(IIZ)I"⟩
def rm_R_fraction : Room := { frames := 0, cells := 0, slots := 0, locals := 0 }
def y_R_isThere : MethodName := ⟨"PackLanesModel", "isThere", "(I)Z"⟩
def rm_R_isThere : Room := { frames := 1, cells := 0, slots := 0, locals := 25 }
def y_R_isAddress : MethodName := ⟨"PackLanesModel", "isAddress", "(I)Z"⟩
def rm_R_isAddress : Room := { frames := 1, cells := 0, slots := 0, locals := 25 }
def y_R_write : MethodName := ⟨"PackLanesModel", "write", "(I)I"⟩
def rm_R_write : Room := { frames := 1, cells := 0, slots := 0, locals := 25 }
def y_R_wipe : MethodName := ⟨"PackLanesModel", "wipe", "()I"⟩
def rm_R_wipe : Room := { frames := 0, cells := 0, slots := 0, locals := 0 }
def y_R_isValueAsRead : MethodName := ⟨"PackLanesModel", "isValueAsRead", "(I)Z"⟩
def rm_R_isValueAsRead : Room := { frames := 1, cells := 0, slots := 0, locals := 25 }
def y_R_isAnyValueAsRead : MethodName := ⟨"PackLanesModel", "isAnyValueAsRead", "()Z"⟩
def rm_R_isAnyValueAsRead : Room := { frames := 0, cells := 0, slots := 0, locals := 0 }
def y_R_takeHead : MethodName := ⟨"PackLanesModel", "takeHead", "(I)Z"⟩
def rm_R_takeHead : Room := { frames := 1, cells := 0, slots := 0, locals := 25 }
def y_R_kindOf : MethodName := ⟨"PackLanesModel", "kindOf", "(I)I"⟩
def rm_R_kindOf : Room := { frames := 0, cells := 0, slots := 0, locals := 0 }
def y_R_takeSign : MethodName := ⟨"PackLanesModel", "takeSign", "(I)Z"⟩
def rm_R_takeSign : Room := { frames := 1, cells := 0, slots := 0, locals := 22 }
def y_R_done : MethodName := ⟨"PackLanesModel", "done", "(Z)Z"⟩
def rm_R_done : Room := { frames := 0, cells := 0, slots := 0, locals := 0 }
def y_R_takeOf : MethodName := ⟨"PackLanesModel", "takeOf", "(I)Z"⟩
def rm_R_takeOf : Room := { frames := 2, cells := 0, slots := 0, locals := 46 }
def y_R_readText : MethodName := ⟨"PackLanesModel", "readText", "()I"⟩
def rm_R_readText : Room := { frames := 3, cells := 0, slots := 0, locals := 70 }
def y_R_fault : MethodName := ⟨"PackLanesModel", "fault", "()I"⟩
def rm_R_fault : Room := { frames := 4, cells := 0, slots := 0, locals := 92 }
def y_R_block : MethodName := ⟨"PackLanesModel", "block", "()I"⟩
def rm_R_block : Room := { frames := 4, cells := 0, slots := 0, locals := 92 }
def y_R_isMemory : MethodName := ⟨"PackLanesModel", "isMemory", "(I)Z"⟩
def rm_R_isMemory : Room := { frames := 0, cells := 0, slots := 0, locals := 0 }
def y_R_isBinary : MethodName := ⟨"PackLanesModel", "isBinary", "(I)Z"⟩
def rm_R_isBinary : Room := { frames := 1, cells := 0, slots := 0, locals := 25 }
def y_R_addressOf : MethodName := ⟨"PackLanesModel", "addressOf", "([III)I"⟩
def rm_R_addressOf : Room := { frames := 0, cells := 0, slots := 0, locals := 0 }
def y_R_uses : MethodName := ⟨"PackLanesModel", "uses", "(II)Z"⟩
def rm_R_uses : Room := { frames := 2, cells := 0, slots := 0, locals := 46 }
def y_R_meet : MethodName := ⟨"PackLanesModel", "meet", "([III)Z"⟩
def rm_R_meet : Room := { frames := 1, cells := 0, slots := 0, locals := 22 }
def y_R_doesFollow : MethodName := ⟨"PackLanesModel", "doesFollow", "([III)Z"⟩
def rm_R_doesFollow : Room := { frames := 3, cells := 0, slots := 0, locals := 68 }
def y_R_layFollows : MethodName := ⟨"PackLanesModel", "layFollows", "([I)V"⟩
def rm_R_layFollows : Room := { frames := 4, cells := 0, slots := 0, locals := 94 }
def y_R_isPack : MethodName := ⟨"PackLanesModel", "isPack", "(I)Z"⟩
def rm_R_isPack : Room := { frames := 1, cells := 0, slots := 0, locals := 21 }
def y_R_isFree : MethodName := ⟨"PackLanesModel", "isFree", "(I)Z"⟩
def rm_R_isFree : Room := { frames := 0, cells := 0, slots := 0, locals := 0 }
def y_R_addPack : MethodName := ⟨"PackLanesModel", "addPack", "(I)V"⟩
def rm_R_addPack : Room := { frames := 0, cells := 0, slots := 0, locals := 0 }
def y_R_waitBoth : MethodName := ⟨"PackLanesModel", "waitBoth", "(I)V"⟩
def rm_R_waitBoth : Room := { frames := 0, cells := 0, slots := 0, locals := 0 }
def y_R_isTreePack : MethodName := ⟨"PackLanesModel", "isTreePack", "(I)Z"⟩
def rm_R_isTreePack : Room := { frames := 0, cells := 0, slots := 0, locals := 0 }
def y_R_costOf : MethodName := ⟨"PackLanesModel", "costOf", "(I)I"⟩
def rm_R_costOf : Room := { frames := 0, cells := 0, slots := 0, locals := 0 }
def y_R_look : MethodName := ⟨"PackLanesModel", "look", "(I)V"⟩
def rm_R_look : Room := { frames := 2, cells := 0, slots := 0, locals := 48 }
def y_R_grow : MethodName := ⟨"PackLanesModel", "grow", "()V"⟩
def rm_R_grow : Room := { frames := 3, cells := 0, slots := 0, locals := 70 }
def y_R_isUsedOutside : MethodName := ⟨"PackLanesModel", "isUsedOutside", "(I)Z"⟩
def rm_R_isUsedOutside : Room := { frames := 3, cells := 0, slots := 0, locals := 68 }
def y_R_gainOfTree : MethodName := ⟨"PackLanesModel", "gainOfTree", "()I"⟩
def rm_R_gainOfTree : Room := { frames := 4, cells := 0, slots := 0, locals := 91 }
def y_R_laySeed : MethodName := ⟨"PackLanesModel", "laySeed", "(II)Z"⟩
def rm_R_laySeed : Room := { frames := 2, cells := 0, slots := 0, locals := 48 }
def y_R_nodeOf : MethodName := ⟨"PackLanesModel", "nodeOf", "(I)I"⟩
def rm_R_nodeOf : Room := { frames := 0, cells := 0, slots := 0, locals := 0 }
def y_R_isReady : MethodName := ⟨"PackLanesModel", "isReady", "(II)Z"⟩
def rm_R_isReady : Room := { frames := 1, cells := 0, slots := 0, locals := 21 }
def y_R_setInOrder : MethodName := ⟨"PackLanesModel", "setInOrder", "()Z"⟩
def rm_R_setInOrder : Room := { frames := 2, cells := 0, slots := 0, locals := 45 }
def y_R_noTree : MethodName := ⟨"PackLanesModel", "noTree", "()V"⟩
def rm_R_noTree : Room := { frames := 0, cells := 0, slots := 0, locals := 0 }
def y_R_keepTree : MethodName := ⟨"PackLanesModel", "keepTree", "(I)V"⟩
def rm_R_keepTree : Room := { frames := 0, cells := 0, slots := 0, locals := 0 }
def y_R_nothingKept : MethodName := ⟨"PackLanesModel", "nothingKept", "([II)V"⟩
def rm_R_nothingKept : Room := { frames := 5, cells := 0, slots := 0, locals := 117 }
def y_R_pack : MethodName := ⟨"PackLanesModel", "pack", "([II)V"⟩
def rm_R_pack : Room := { frames := 6, cells := 0, slots := 0, locals := 140 }
def y_R_costNow : MethodName := ⟨"PackLanesModel", "costNow", "()I"⟩
def rm_R_costNow : Room := { frames := 0, cells := 0, slots := 0, locals := 0 }
def y_R_packedCost : MethodName := ⟨"PackLanesModel", "packedCost", "([I)I"⟩
def rm_R_packedCost : Room := { frames := 7, cells := 0, slots := 0, locals := 164 }
def y_R_beginRun : MethodName := ⟨"PackLanesModel", "beginRun", "([I)V"⟩
def rm_R_beginRun : Room := { frames := 0, cells := 0, slots := 0, locals := 0 }
def y_R_doOne : MethodName := ⟨"PackLanesModel", "doOne", "([II)V"⟩
def rm_R_doOne : Room := { frames := 2, cells := 0, slots := 0, locals := 46 }
def y_R_run : MethodName := ⟨"PackLanesModel", "run", "([II)V"⟩
def rm_R_run : Room := { frames := 3, cells := 0, slots := 0, locals := 70 }
def y_R_packedRun : MethodName := ⟨"PackLanesModel", "packedRun", "([I)V"⟩
def rm_R_packedRun : Room := { frames := 7, cells := 0, slots := 0, locals := 164 }
def y_R_bestWidth : MethodName := ⟨"PackLanesModel", "bestWidth", "()I"⟩
def rm_R_bestWidth : Room := { frames := 8, cells := 0, slots := 0, locals := 185 }
def y_R_packed : MethodName := ⟨"PackLanesModel", "packed", "()I"⟩
def rm_R_packed : Room := { frames := 0, cells := 0, slots := 0, locals := 0 }
def y_R_found : MethodName := ⟨"PackLanesModel", "found", "(I)I"⟩
def rm_R_found : Room := { frames := 7, cells := 0, slots := 0, locals := 164 }
def y_R_runFaults : MethodName := ⟨"PackLanesModel", "runFaults", "(Z)I"⟩
def rm_R_runFaults : Room := { frames := 8, cells := 0, slots := 0, locals := 187 }
def y_R_about : MethodName := ⟨"PackLanesModel", "about", "(I)I"⟩
def rm_R_about : Room := { frames := 9, cells := 0, slots := 0, locals := 208 }
def y_R_instruction : MethodName := ⟨"PackLanesModel", "instruction", "(II)I"⟩
def rm_R_instruction : Room := { frames := 7, cells := 0, slots := 0, locals := 164 }
def y_R_address : MethodName := ⟨"PackLanesModel", "address", "(II)I"⟩
def rm_R_address : Room := { frames := 8, cells := 0, slots := 0, locals := 187 }
def y_R_depends : MethodName := ⟨"PackLanesModel", "depends", "(II)I"⟩
def rm_R_depends : Room := { frames := 6, cells := 0, slots := 0, locals := 140 }
def y_R_note : MethodName := ⟨"PackLanesModel", "note", "()V"⟩
def rm_R_note : Room := { frames := 0, cells := 0, slots := 0, locals := 0 }
def y_R_start : MethodName := ⟨"PackLanesModel", "start", "(II)I"⟩
def rm_R_start : Room := { frames := 2, cells := 0, slots := 0, locals := 45 }
def y_R_maySet : MethodName := ⟨"PackLanesModel", "maySet", "(II)Z"⟩
def rm_R_maySet : Room := { frames := 1, cells := 0, slots := 0, locals := 25 }
def y_R_set : MethodName := ⟨"PackLanesModel", "set", "(II)I"⟩
def rm_R_set : Room := { frames := 2, cells := 0, slots := 0, locals := 46 }
def y_R_undo : MethodName := ⟨"PackLanesModel", "undo", "()I"⟩
def rm_R_undo : Room := { frames := 0, cells := 0, slots := 0, locals := 0 }
def y_R_tried : MethodName := ⟨"PackLanesModel", "tried", "(II)I"⟩
def rm_R_tried : Room := { frames := 6, cells := 0, slots := 0, locals := 140 }
def y_R_isDependent : MethodName := ⟨"PackLanesModel", "isDependent", "(II)Z"⟩
def rm_R_isDependent : Room := { frames := 6, cells := 0, slots := 0, locals := 140 }
def y_R_isPackedAs : MethodName := ⟨"PackLanesModel", "isPackedAs", "(II)Z"⟩
def rm_R_isPackedAs : Room := { frames := 7, cells := 0, slots := 0, locals := 164 }
def y_R_judged : MethodName := ⟨"PackLanesModel", "judged", "(II)Z"⟩
def rm_R_judged : Room := { frames := 8, cells := 0, slots := 0, locals := 186 }
def y_R_hundredThousands : MethodName := ⟨"PackLanesModel", "hundredThousands", "(I)J"⟩
def rm_R_hundredThousands : Room := { frames := 0, cells := 0, slots := 0, locals := 0 }
def y_R_judge : MethodName := ⟨"PackLanesModel", "judge", "(IJ)I"⟩
def rm_R_judge : Room := { frames := 9, cells := 0, slots := 0, locals := 208 }
def y_R_see : MethodName := ⟨"PackLanesModel", "see", "(II)I"⟩
def rm_R_see : Room := { frames := 2, cells := 0, slots := 0, locals := 45 }
def y_R_unsee : MethodName := ⟨"PackLanesModel", "unsee", "()I"⟩
def rm_R_unsee : Room := { frames := 0, cells := 0, slots := 0, locals := 0 }
def y_R_which : MethodName := ⟨"PackLanesModel", "which", "()I"⟩
def rm_R_which : Room := { frames := 4, cells := 0, slots := 0, locals := 93 }
def y_R_layStores : MethodName := ⟨"PackLanesModel", "layStores", "()I"⟩
def rm_R_layStores : Room := { frames := 0, cells := 0, slots := 0, locals := 0 }
def y_R_gainsBy : MethodName := ⟨"PackLanesModel", "gainsBy", "(II)I"⟩
def rm_R_gainsBy : Room := { frames := 7, cells := 0, slots := 0, locals := 164 }
def y_R_share : MethodName := ⟨"PackLanesModel", "share", "(IZ)I"⟩
def rm_R_share : Room := { frames := 8, cells := 0, slots := 0, locals := 188 }
def y_R_chance : MethodName := ⟨"PackLanesModel", "chance", "(IIZ)I"⟩
def rm_R_chance : Room := { frames := 8, cells := 0, slots := 0, locals := 188 }
def y_R_seed : MethodName := ⟨"PackLanesModel", "seed", "(J)J"⟩
def rm_R_seed : Room := { frames := 0, cells := 0, slots := 0, locals := 0 }
def y_R_drawn : MethodName := ⟨"PackLanesModel", "drawn", "(I)I"⟩
def rm_R_drawn : Room := { frames := 4, cells := 0, slots := 0, locals := 93 }
def y_R_keep : MethodName := ⟨"PackLanesModel", "keep", "(I)I"⟩
def rm_R_keep : Room := { frames := 1, cells := 0, slots := 0, locals := 25 }
def y_R_again : MethodName := ⟨"PackLanesModel", "again", "(I)I"⟩
def rm_R_again : Room := { frames := 1, cells := 0, slots := 0, locals := 25 }
theorem k_Pack_52 : CallI "PackLanes$Packer" 52 y_Links_init prog_4_method_1_code 2 1 := ⟨Or.inl (big_t 147 (by decide +kernel) (by decide +kernel)), (big_t 148 (by decide +kernel) (by decide +kernel)), (big_t 8 (by decide +kernel) (by decide +kernel)), (big_t 149 (by decide +kernel) (by decide +kernel)), rfl, ⟨by decide, by decide, by decide +kernel⟩⟩
theorem k_Pack_61 : CallI "PackLanes$Packer" 61 y_Tree_init prog_10_method_1_code 3 2 := ⟨Or.inl (big_t 173 (by decide +kernel) (by decide +kernel)), (big_t 174 (by decide +kernel) (by decide +kernel)), (big_t 9 (by decide +kernel) (by decide +kernel)), (big_t 175 (by decide +kernel) (by decide +kernel)), rfl, ⟨by decide, by decide, by decide +kernel⟩⟩
theorem k_PL_18 : CallI "PackLanes" 18 y_Code_init prog_3_method_1_code 1 0 := ⟨Or.inr ⟨"PackLanes", (big_n 43 (by decide +kernel) (by decide +kernel))⟩, (big_t 44 (by decide +kernel) (by decide +kernel)), (big_t 3 (by decide +kernel) (by decide +kernel)), (big_t 45 (by decide +kernel) (by decide +kernel)), rfl, ⟨by decide, by decide, by decide +kernel⟩⟩
theorem k_PL_38 : CallI "PackLanes" 38 y_Acts_init prog_2_method_1_code 1 0 := ⟨Or.inr ⟨"PackLanes", (big_n 90 (by decide +kernel) (by decide +kernel))⟩, (big_t 91 (by decide +kernel) (by decide +kernel)), (big_t 4 (by decide +kernel) (by decide +kernel)), (big_t 92 (by decide +kernel) (by decide +kernel)), rfl, ⟨by decide, by decide, by decide +kernel⟩⟩
theorem k_PL_45 : CallI "PackLanes" 45 y_Slots_init prog_8_method_1_code 1 0 := ⟨Or.inr ⟨"PackLanes", (big_n 107 (by decide +kernel) (by decide +kernel))⟩, (big_t 108 (by decide +kernel) (by decide +kernel)), (big_t 5 (by decide +kernel) (by decide +kernel)), (big_t 109 (by decide +kernel) (by decide +kernel)), rfl, ⟨by decide, by decide, by decide +kernel⟩⟩
theorem k_PL_52 : CallI "PackLanes" 52 y_Sights_init prog_7_method_1_code 1 0 := ⟨Or.inr ⟨"PackLanes", (big_n 124 (by decide +kernel) (by decide +kernel))⟩, (big_t 125 (by decide +kernel) (by decide +kernel)), (big_t 6 (by decide +kernel) (by decide +kernel)), (big_t 126 (by decide +kernel) (by decide +kernel)), rfl, ⟨by decide, by decide, by decide +kernel⟩⟩
theorem k_PL_59 : CallI "PackLanes" 59 y_Pack_init prog_6_method_1_code 2 1 := ⟨Or.inl (big_t 141 (by decide +kernel) (by decide +kernel)), (big_t 142 (by decide +kernel) (by decide +kernel)), (big_t 7 (by decide +kernel) (by decide +kernel)), (big_t 143 (by decide +kernel) (by decide +kernel)), rfl, ⟨by decide, by decide, by decide +kernel⟩⟩
theorem k_PL_71 : CallI "PackLanes" 71 y_Mach_init prog_5_method_1_code 2 1 := ⟨Or.inl (big_t 269 (by decide +kernel) (by decide +kernel)), (big_t 270 (by decide +kernel) (by decide +kernel)), (big_t 10 (by decide +kernel) (by decide +kernel)), (big_t 271 (by decide +kernel) (by decide +kernel)), rfl, ⟨by decide, by decide, by decide +kernel⟩⟩
theorem k_PL_9 : CallI "PackLanes" 9 y_Src_init prog_9_method_1_code 1 0 := ⟨Or.inr ⟨"PackLanes", (big_n 25 (by decide +kernel) (by decide +kernel))⟩, (big_t 26 (by decide +kernel) (by decide +kernel)), (big_t 2 (by decide +kernel) (by decide +kernel)), (big_t 27 (by decide +kernel) (by decide +kernel)), rfl, ⟨by decide, by decide, by decide +kernel⟩⟩
theorem k_Code_38 : CallS "PackLanes$Code" 38 y_Int_bitCount prog_13_method_49_code 1 (some .int) 1 := ⟨(big_t 528 (by decide +kernel) (by decide +kernel)), (big_t 366 (by decide +kernel) (by decide +kernel)), (big_t 11 (by decide +kernel) (by decide +kernel)), (big_t 367 (by decide +kernel) (by decide +kernel)), ⟨by decide, by decide, by decide +kernel⟩⟩
theorem k_Links_76 : CallS "PackLanes$Links" 76 y_Int_bitCount prog_13_method_49_code 1 (some .int) 1 := ⟨(big_t 365 (by decide +kernel) (by decide +kernel)), (big_t 366 (by decide +kernel) (by decide +kernel)), (big_t 11 (by decide +kernel) (by decide +kernel)), (big_t 367 (by decide +kernel) (by decide +kernel)), ⟨by decide, by decide, by decide +kernel⟩⟩
theorem k_Src_27 : CallS "PackLanes$Source" 27 y_Src_headerAllows prog_9_method_6_code 2 (some .boolean) 2 := ⟨(big_t 514 (by decide +kernel) (by decide +kernel)), (big_t 515 (by decide +kernel) (by decide +kernel)), (big_t 2 (by decide +kernel) (by decide +kernel)), (big_t 516 (by decide +kernel) (by decide +kernel)), ⟨by decide, by decide, by decide +kernel⟩⟩
theorem k_Src_31 : CallS "PackLanes$Source" 31 y_Src_kindOf prog_9_method_7_code 1 (some .int) 1 := ⟨(big_t 517 (by decide +kernel) (by decide +kernel)), (big_t 518 (by decide +kernel) (by decide +kernel)), (big_t 2 (by decide +kernel) (by decide +kernel)), (big_t 519 (by decide +kernel) (by decide +kernel)), ⟨by decide, by decide, by decide +kernel⟩⟩
theorem k_Src_39 : CallS "PackLanes$Source" 39 y_Src_partsOf prog_9_method_8_code 1 (some .int) 1 := ⟨(big_t 529 (by decide +kernel) (by decide +kernel)), (big_t 530 (by decide +kernel) (by decide +kernel)), (big_t 2 (by decide +kernel) (by decide +kernel)), (big_t 531 (by decide +kernel) (by decide +kernel)), ⟨by decide, by decide, by decide +kernel⟩⟩
theorem k_Src_42 : CallS "PackLanes$Source" 42 y_Src_partOf prog_9_method_9_code 4 (some .int) 4 := ⟨(big_t 532 (by decide +kernel) (by decide +kernel)), (big_t 533 (by decide +kernel) (by decide +kernel)), (big_t 2 (by decide +kernel) (by decide +kernel)), (big_t 534 (by decide +kernel) (by decide +kernel)), ⟨by decide, by decide, by decide +kernel⟩⟩
theorem k_Src_50 : CallS "PackLanes$Source" 50 y_Src_digitBelow prog_9_method_10_code 3 (some .int) 2 := ⟨(big_t 535 (by decide +kernel) (by decide +kernel)), (big_t 536 (by decide +kernel) (by decide +kernel)), (big_t 2 (by decide +kernel) (by decide +kernel)), (big_t 537 (by decide +kernel) (by decide +kernel)), ⟨by decide, by decide, by decide +kernel⟩⟩
theorem k_Tree_102 : CallS "PackLanes$Tree" 102 y_Int_bitCount prog_13_method_49_code 1 (some .int) 1 := ⟨(big_t 412 (by decide +kernel) (by decide +kernel)), (big_t 366 (by decide +kernel) (by decide +kernel)), (big_t 11 (by decide +kernel) (by decide +kernel)), (big_t 367 (by decide +kernel) (by decide +kernel)), ⟨by decide, by decide, by decide +kernel⟩⟩
theorem k_PL_168 : CallS "PackLanes" 168 y_Int_bitCount prog_13_method_49_code 1 (some .int) 1 := ⟨(big_t 596 (by decide +kernel) (by decide +kernel)), (big_t 366 (by decide +kernel) (by decide +kernel)), (big_t 11 (by decide +kernel) (by decide +kernel)), (big_t 367 (by decide +kernel) (by decide +kernel)), ⟨by decide, by decide, by decide +kernel⟩⟩
theorem k_PL_179 : CallS "PackLanes" 179 y_PL_holds prog_1_method_35_code 2 (some .boolean) 2 := ⟨(big_t 605 (by decide +kernel) (by decide +kernel)), (big_t 317 (by decide +kernel) (by decide +kernel)), (big_t 1 (by decide +kernel) (by decide +kernel)), (big_t 318 (by decide +kernel) (by decide +kernel)), ⟨by decide, by decide, by decide +kernel⟩⟩
theorem k_PL_187 : CallS "PackLanes" 187 y_PL_settingAllows prog_1_method_27_code 2 (some .boolean) 2 := ⟨(big_t 619 (by decide +kernel) (by decide +kernel)), (big_t 620 (by decide +kernel) (by decide +kernel)), (big_t 1 (by decide +kernel) (by decide +kernel)), (big_t 621 (by decide +kernel) (by decide +kernel)), ⟨by decide, by decide, by decide +kernel⟩⟩
theorem k_PL_206 : CallS "PackLanes" 206 y_PL_power prog_1_method_34_code 6 (some .long) 2 := ⟨(big_t 645 (by decide +kernel) (by decide +kernel)), (big_t 646 (by decide +kernel) (by decide +kernel)), (big_t 1 (by decide +kernel) (by decide +kernel)), (big_t 647 (by decide +kernel) (by decide +kernel)), ⟨by decide, by decide, by decide +kernel⟩⟩
theorem k_PL_234 : CallS "PackLanes" 234 y_PL_ordersThrough prog_1_method_30_code 4 (some .int) 2 := ⟨(big_t 689 (by decide +kernel) (by decide +kernel)), (big_t 690 (by decide +kernel) (by decide +kernel)), (big_t 1 (by decide +kernel) (by decide +kernel)), (big_t 691 (by decide +kernel) (by decide +kernel)), ⟨by decide, by decide, by decide +kernel⟩⟩
theorem k_PL_240 : CallS "PackLanes" 240 y_PL_partOfFraction prog_1_method_32_code 4 (some .int) 3 := ⟨(big_t 694 (by decide +kernel) (by decide +kernel)), (big_t 695 (by decide +kernel) (by decide +kernel)), (big_t 1 (by decide +kernel) (by decide +kernel)), (big_t 696 (by decide +kernel) (by decide +kernel)), ⟨by decide, by decide, by decide +kernel⟩⟩
theorem k_PL_270 : CallS "PackLanes" 270 y_Math_abs prog_14_method_59_code 1 (some .int) 1 := ⟨(big_t 697 (by decide +kernel) (by decide +kernel)), (big_t 698 (by decide +kernel) (by decide +kernel)), (big_t 14 (by decide +kernel) (by decide +kernel)), (big_t 699 (by decide +kernel) (by decide +kernel)), ⟨by decide, by decide, by decide +kernel⟩⟩
theorem k_PL_275 : CallS "PackLanes" 275 y_PL_commonDivisor prog_1_method_33_code 6 (some .int) 2 := ⟨(big_t 700 (by decide +kernel) (by decide +kernel)), (big_t 701 (by decide +kernel) (by decide +kernel)), (big_t 1 (by decide +kernel) (by decide +kernel)), (big_t 702 (by decide +kernel) (by decide +kernel)), ⟨by decide, by decide, by decide +kernel⟩⟩
theorem k_R_103 : CallS "PackLanesModel" 103 y_R_in prog_12_method_5_code 6 (some .boolean) 3 := ⟨(big_t 904 (by decide +kernel) (by decide +kernel)), (big_t 905 (by decide +kernel) (by decide +kernel)), (big_t 12 (by decide +kernel) (by decide +kernel)), (big_t 906 (by decide +kernel) (by decide +kernel)), ⟨by decide, by decide, by decide +kernel⟩⟩
theorem k_R_134 : CallS "PackLanesModel" 134 y_R_kindOf prog_12_method_18_code 1 (some .int) 1 := ⟨(big_t 928 (by decide +kernel) (by decide +kernel)), (big_t 929 (by decide +kernel) (by decide +kernel)), (big_t 12 (by decide +kernel) (by decide +kernel)), (big_t 930 (by decide +kernel) (by decide +kernel)), ⟨by decide, by decide, by decide +kernel⟩⟩
theorem k_R_183 : CallS "PackLanesModel" 183 y_R_addressOf prog_12_method_27_code 3 (some .int) 3 := ⟨(big_t 999 (by decide +kernel) (by decide +kernel)), (big_t 1000 (by decide +kernel) (by decide +kernel)), (big_t 12 (by decide +kernel) (by decide +kernel)), (big_t 1001 (by decide +kernel) (by decide +kernel)), ⟨by decide, by decide, by decide +kernel⟩⟩
theorem k_R_190 : CallS "PackLanesModel" 190 y_R_has prog_12_method_6_code 2 (some .boolean) 2 := ⟨(big_t 988 (by decide +kernel) (by decide +kernel)), (big_t 989 (by decide +kernel) (by decide +kernel)), (big_t 12 (by decide +kernel) (by decide +kernel)), (big_t 990 (by decide +kernel) (by decide +kernel)), ⟨by decide, by decide, by decide +kernel⟩⟩
theorem k_R_302 : CallS "PackLanesModel" 302 y_R_copy prog_12_method_4_code 3 none 2 := ⟨(big_t 1092 (by decide +kernel) (by decide +kernel)), (big_t 1093 (by decide +kernel) (by decide +kernel)), (big_t 12 (by decide +kernel) (by decide +kernel)), (big_t 1094 (by decide +kernel) (by decide +kernel)), ⟨by decide, by decide, by decide +kernel⟩⟩
theorem k_R_335 : CallS "PackLanesModel" 335 y_R_ones prog_12_method_7_code 3 (some .int) 1 := ⟨(big_t 1115 (by decide +kernel) (by decide +kernel)), (big_t 1116 (by decide +kernel) (by decide +kernel)), (big_t 12 (by decide +kernel) (by decide +kernel)), (big_t 1117 (by decide +kernel) (by decide +kernel)), ⟨by decide, by decide, by decide +kernel⟩⟩
theorem k_R_338 : CallS "PackLanesModel" 338 y_R_isAddress prog_12_method_12_code 1 (some .boolean) 1 := ⟨(big_t 1122 (by decide +kernel) (by decide +kernel)), (big_t 1123 (by decide +kernel) (by decide +kernel)), (big_t 12 (by decide +kernel) (by decide +kernel)), (big_t 1124 (by decide +kernel) (by decide +kernel)), ⟨by decide, by decide, by decide +kernel⟩⟩
theorem k_R_351 : CallS "PackLanesModel" 351 y_R_maySet prog_12_method_66_code 2 (some .boolean) 2 := ⟨(big_t 1144 (by decide +kernel) (by decide +kernel)), (big_t 1145 (by decide +kernel) (by decide +kernel)), (big_t 12 (by decide +kernel) (by decide +kernel)), (big_t 1146 (by decide +kernel) (by decide +kernel)), ⟨by decide, by decide, by decide +kernel⟩⟩
theorem k_R_364 : CallS "PackLanesModel" 364 y_R_hundredThousands prog_12_method_73_code 4 (some .long) 1 := ⟨(big_t 1160 (by decide +kernel) (by decide +kernel)), (big_t 1161 (by decide +kernel) (by decide +kernel)), (big_t 12 (by decide +kernel) (by decide +kernel)), (big_t 1162 (by decide +kernel) (by decide +kernel)), ⟨by decide, by decide, by decide +kernel⟩⟩
theorem k_R_378 : CallS "PackLanesModel" 378 y_R_factorial prog_12_method_9_code 3 (some .int) 1 := ⟨(big_t 1200 (by decide +kernel) (by decide +kernel)), (big_t 1201 (by decide +kernel) (by decide +kernel)), (big_t 12 (by decide +kernel) (by decide +kernel)), (big_t 1202 (by decide +kernel) (by decide +kernel)), ⟨by decide, by decide, by decide +kernel⟩⟩
theorem k_R_381 : CallS "PackLanesModel" 381 y_R_fraction prog_12_method_10_code 6 (some .int) 3 := ⟨(big_t 1203 (by decide +kernel) (by decide +kernel)), (big_t 1204 (by decide +kernel) (by decide +kernel)), (big_t 12 (by decide +kernel) (by decide +kernel)), (big_t 1205 (by decide +kernel) (by decide +kernel)), ⟨by decide, by decide, by decide +kernel⟩⟩
theorem k_R_387 : CallS "PackLanesModel" 387 y_R_power prog_12_method_8_code 4 (some .int) 2 := ⟨(big_t 1211 (by decide +kernel) (by decide +kernel)), (big_t 1212 (by decide +kernel) (by decide +kernel)), (big_t 12 (by decide +kernel) (by decide +kernel)), (big_t 1213 (by decide +kernel) (by decide +kernel)), ⟨by decide, by decide, by decide +kernel⟩⟩
theorem k_R_95 : CallS "PackLanesModel" 95 y_R_first prog_12_method_3_code 2 none 1 := ⟨(big_t 745 (by decide +kernel) (by decide +kernel)), (big_t 746 (by decide +kernel) (by decide +kernel)), (big_t 12 (by decide +kernel) (by decide +kernel)), (big_t 747 (by decide +kernel) (by decide +kernel)), ⟨by decide, by decide, by decide +kernel⟩⟩
theorem k_Links_34 : CallSN "PackLanes$Links" 34 y_PL_holds "PackLanes" prog_1_method_35_code 2 (some .boolean) 2 := ⟨(big_n 316 (by decide +kernel) (by decide +kernel)), (big_t 317 (by decide +kernel) (by decide +kernel)), (big_t 1 (by decide +kernel) (by decide +kernel)), (big_t 318 (by decide +kernel) (by decide +kernel)), ⟨by decide, by decide, by decide +kernel⟩⟩
theorem k_Links_70 : CallSN "PackLanes$Links" 70 y_PL_inLane "PackLanes" prog_1_method_36_code 2 (some .int) 2 := ⟨(big_n 359 (by decide +kernel) (by decide +kernel)), (big_t 360 (by decide +kernel) (by decide +kernel)), (big_t 1 (by decide +kernel) (by decide +kernel)), (big_t 361 (by decide +kernel) (by decide +kernel)), ⟨by decide, by decide, by decide +kernel⟩⟩
theorem k_Links_73 : CallSN "PackLanes$Links" 73 y_PL_setOf "PackLanes" prog_1_method_38_code 4 (some .int) 2 := ⟨(big_n 362 (by decide +kernel) (by decide +kernel)), (big_t 363 (by decide +kernel) (by decide +kernel)), (big_t 1 (by decide +kernel) (by decide +kernel)), (big_t 364 (by decide +kernel) (by decide +kernel)), ⟨by decide, by decide, by decide +kernel⟩⟩
theorem k_Pack_123 : CallSN "PackLanes$Packer" 123 y_PL_holds "PackLanes" prog_1_method_35_code 2 (some .boolean) 2 := ⟨(big_n 351 (by decide +kernel) (by decide +kernel)), (big_t 317 (by decide +kernel) (by decide +kernel)), (big_t 1 (by decide +kernel) (by decide +kernel)), (big_t 318 (by decide +kernel) (by decide +kernel)), ⟨by decide, by decide, by decide +kernel⟩⟩
theorem k_Pack_135 : CallSN "PackLanes$Packer" 135 y_PL_inLane "PackLanes" prog_1_method_36_code 2 (some .int) 2 := ⟨(big_n 426 (by decide +kernel) (by decide +kernel)), (big_t 360 (by decide +kernel) (by decide +kernel)), (big_t 1 (by decide +kernel) (by decide +kernel)), (big_t 361 (by decide +kernel) (by decide +kernel)), ⟨by decide, by decide, by decide +kernel⟩⟩
theorem k_Pack_139 : CallSN "PackLanes$Packer" 139 y_PL_setOf "PackLanes" prog_1_method_38_code 4 (some .int) 2 := ⟨(big_n 425 (by decide +kernel) (by decide +kernel)), (big_t 363 (by decide +kernel) (by decide +kernel)), (big_t 1 (by decide +kernel) (by decide +kernel)), (big_t 364 (by decide +kernel) (by decide +kernel)), ⟨by decide, by decide, by decide +kernel⟩⟩
theorem k_Pack_91 : CallSN "PackLanes$Packer" 91 y_PL_withLane "PackLanes" prog_1_method_37_code 3 (some .int) 3 := ⟨(big_n 352 (by decide +kernel) (by decide +kernel)), (big_t 353 (by decide +kernel) (by decide +kernel)), (big_t 1 (by decide +kernel) (by decide +kernel)), (big_t 354 (by decide +kernel) (by decide +kernel)), ⟨by decide, by decide, by decide +kernel⟩⟩
theorem k_Tree_113 : CallSN "PackLanes$Tree" 113 y_PL_withLane "PackLanes" prog_1_method_37_code 3 (some .int) 3 := ⟨(big_n 390 (by decide +kernel) (by decide +kernel)), (big_t 353 (by decide +kernel) (by decide +kernel)), (big_t 1 (by decide +kernel) (by decide +kernel)), (big_t 354 (by decide +kernel) (by decide +kernel)), ⟨by decide, by decide, by decide +kernel⟩⟩
theorem k_Tree_67 : CallSN "PackLanes$Tree" 67 y_PL_holds "PackLanes" prog_1_method_35_code 2 (some .boolean) 2 := ⟨(big_n 389 (by decide +kernel) (by decide +kernel)), (big_t 317 (by decide +kernel) (by decide +kernel)), (big_t 1 (by decide +kernel) (by decide +kernel)), (big_t 318 (by decide +kernel) (by decide +kernel)), ⟨by decide, by decide, by decide +kernel⟩⟩
theorem k_Tree_86 : CallSN "PackLanes$Tree" 86 y_PL_setOf "PackLanes" prog_1_method_38_code 4 (some .int) 2 := ⟨(big_n 383 (by decide +kernel) (by decide +kernel)), (big_t 363 (by decide +kernel) (by decide +kernel)), (big_t 1 (by decide +kernel) (by decide +kernel)), (big_t 364 (by decide +kernel) (by decide +kernel)), ⟨by decide, by decide, by decide +kernel⟩⟩
theorem k_Tree_89 : CallSN "PackLanes$Tree" 89 y_PL_inLane "PackLanes" prog_1_method_36_code 2 (some .int) 2 := ⟨(big_n 388 (by decide +kernel) (by decide +kernel)), (big_t 360 (by decide +kernel) (by decide +kernel)), (big_t 1 (by decide +kernel) (by decide +kernel)), (big_t 361 (by decide +kernel) (by decide +kernel)), ⟨by decide, by decide, by decide +kernel⟩⟩
theorem k_Code_34 : CallV "PackLanes$Code" 34 y_Code_stores prog_3_method_10_code 3 (some .int) 0 := ⟨(big_t 524 (by decide +kernel) (by decide +kernel)), (big_t 525 (by decide +kernel) (by decide +kernel)), (big_t 526 (by decide +kernel) (by decide +kernel)), (big_t 3 (by decide +kernel) (by decide +kernel)), (big_t 527 (by decide +kernel) (by decide +kernel)), ⟨rfl, by decide, by decide, by decide +kernel⟩⟩
theorem k_Code_44 : CallV "PackLanes$Code" 44 y_Code_has prog_3_method_3_code 2 (some .boolean) 1 := ⟨(big_t 542 (by decide +kernel) (by decide +kernel)), (big_t 543 (by decide +kernel) (by decide +kernel)), (big_t 544 (by decide +kernel) (by decide +kernel)), (big_t 3 (by decide +kernel) (by decide +kernel)), (big_t 545 (by decide +kernel) (by decide +kernel)), ⟨rfl, by decide, by decide, by decide +kernel⟩⟩
theorem k_Links_38 : CallV "PackLanes$Links" 38 y_Links_link prog_4_method_3_code 6 none 4 := ⟨(big_t 319 (by decide +kernel) (by decide +kernel)), (big_t 321 (by decide +kernel) (by decide +kernel)), (big_p 1 (by decide +kernel) (by decide +kernel)), (big_t 8 (by decide +kernel) (by decide +kernel)), (big_t 322 (by decide +kernel) (by decide +kernel)), ⟨rfl, by decide, by decide, by decide +kernel⟩⟩
theorem k_Links_42 : CallV "PackLanes$Links" 42 y_Code_operands prog_3_method_8_code 2 (some .int) 1 := ⟨(big_t 323 (by decide +kernel) (by decide +kernel)), (big_t 324 (by decide +kernel) (by decide +kernel)), (big_t 325 (by decide +kernel) (by decide +kernel)), (big_t 3 (by decide +kernel) (by decide +kernel)), (big_t 326 (by decide +kernel) (by decide +kernel)), ⟨rfl, by decide, by decide, by decide +kernel⟩⟩
theorem k_Links_46 : CallV "PackLanes$Links" 46 y_Links_clashInMemory prog_4_method_4_code 5 (some .boolean) 4 := ⟨(big_t 327 (by decide +kernel) (by decide +kernel)), (big_t 329 (by decide +kernel) (by decide +kernel)), (big_p 2 (by decide +kernel) (by decide +kernel)), (big_t 8 (by decide +kernel) (by decide +kernel)), (big_t 330 (by decide +kernel) (by decide +kernel)), ⟨rfl, by decide, by decide, by decide +kernel⟩⟩
theorem k_Links_50 : CallV "PackLanes$Links" 50 y_Links_clashByStop prog_4_method_5_code 5 (some .boolean) 2 := ⟨(big_t 339 (by decide +kernel) (by decide +kernel)), (big_t 341 (by decide +kernel) (by decide +kernel)), (big_p 3 (by decide +kernel) (by decide +kernel)), (big_t 8 (by decide +kernel) (by decide +kernel)), (big_t 342 (by decide +kernel) (by decide +kernel)), ⟨rfl, by decide, by decide, by decide +kernel⟩⟩
theorem k_Links_53 : CallV "PackLanes$Links" 53 y_Code_usesMemory prog_3_method_7_code 2 (some .boolean) 1 := ⟨(big_t 331 (by decide +kernel) (by decide +kernel)), (big_t 332 (by decide +kernel) (by decide +kernel)), (big_t 333 (by decide +kernel) (by decide +kernel)), (big_t 3 (by decide +kernel) (by decide +kernel)), (big_t 334 (by decide +kernel) (by decide +kernel)), ⟨rfl, by decide, by decide, by decide +kernel⟩⟩
theorem k_Links_66 : CallV "PackLanes$Links" 66 y_Code_addressOf prog_3_method_9_code 3 (some .int) 2 := ⟨(big_t 335 (by decide +kernel) (by decide +kernel)), (big_t 336 (by decide +kernel) (by decide +kernel)), (big_t 337 (by decide +kernel) (by decide +kernel)), (big_t 3 (by decide +kernel) (by decide +kernel)), (big_t 338 (by decide +kernel) (by decide +kernel)), ⟨rfl, by decide, by decide, by decide +kernel⟩⟩
theorem k_Mach_29 : CallV "PackLanes$Machine" 29 y_Mach_begin prog_5_method_4_code 3 none 1 := ⟨(big_t 570 (by decide +kernel) (by decide +kernel)), (big_t 572 (by decide +kernel) (by decide +kernel)), (big_p 19 (by decide +kernel) (by decide +kernel)), (big_t 10 (by decide +kernel) (by decide +kernel)), (big_t 573 (by decide +kernel) (by decide +kernel)), ⟨rfl, by decide, by decide, by decide +kernel⟩⟩
theorem k_Mach_38 : CallV "PackLanes$Machine" 38 y_Mach_carryOut prog_5_method_5_code 4 none 1 := ⟨(big_t 577 (by decide +kernel) (by decide +kernel)), (big_t 579 (by decide +kernel) (by decide +kernel)), (big_p 20 (by decide +kernel) (by decide +kernel)), (big_t 10 (by decide +kernel) (by decide +kernel)), (big_t 580 (by decide +kernel) (by decide +kernel)), ⟨rfl, by decide, by decide, by decide +kernel⟩⟩
theorem k_Mach_65 : CallV "PackLanes$Machine" 65 y_Code_addressOf prog_3_method_9_code 3 (some .int) 2 := ⟨(big_t 581 (by decide +kernel) (by decide +kernel)), (big_t 336 (by decide +kernel) (by decide +kernel)), (big_t 337 (by decide +kernel) (by decide +kernel)), (big_t 3 (by decide +kernel) (by decide +kernel)), (big_t 338 (by decide +kernel) (by decide +kernel)), ⟨rfl, by decide, by decide, by decide +kernel⟩⟩
theorem k_Pack_102 : CallV "PackLanes$Packer" 102 y_Tree_gain prog_10_method_3_code 3 (some .int) 0 := ⟨(big_t 413 (by decide +kernel) (by decide +kernel)), (big_t 414 (by decide +kernel) (by decide +kernel)), (big_t 415 (by decide +kernel) (by decide +kernel)), (big_t 9 (by decide +kernel) (by decide +kernel)), (big_t 416 (by decide +kernel) (by decide +kernel)), ⟨rfl, by decide, by decide, by decide +kernel⟩⟩
theorem k_Pack_126 : CallV "PackLanes$Packer" 126 y_Pack_joinTree prog_6_method_8_code 6 none 1 := ⟨(big_t 421 (by decide +kernel) (by decide +kernel)), (big_t 423 (by decide +kernel) (by decide +kernel)), (big_p 14 (by decide +kernel) (by decide +kernel)), (big_t 7 (by decide +kernel) (by decide +kernel)), (big_t 424 (by decide +kernel) (by decide +kernel)), ⟨rfl, by decide, by decide, by decide +kernel⟩⟩
theorem k_Pack_142 : CallV "PackLanes$Packer" 142 y_Pack_leastReady prog_6_method_10_code 3 (some .int) 1 := ⟨(big_t 431 (by decide +kernel) (by decide +kernel)), (big_t 433 (by decide +kernel) (by decide +kernel)), (big_p 16 (by decide +kernel) (by decide +kernel)), (big_t 7 (by decide +kernel) (by decide +kernel)), (big_t 434 (by decide +kernel) (by decide +kernel)), ⟨rfl, by decide, by decide, by decide +kernel⟩⟩
theorem k_Pack_146 : CallV "PackLanes$Packer" 146 y_Pack_appendNode prog_6_method_12_code 4 none 2 := ⟨(big_t 439 (by decide +kernel) (by decide +kernel)), (big_t 441 (by decide +kernel) (by decide +kernel)), (big_p 18 (by decide +kernel) (by decide +kernel)), (big_t 7 (by decide +kernel) (by decide +kernel)), (big_t 442 (by decide +kernel) (by decide +kernel)), ⟨rfl, by decide, by decide, by decide +kernel⟩⟩
theorem k_Pack_150 : CallV "PackLanes$Packer" 150 y_Pack_followedBy prog_6_method_11_code 4 (some .int) 1 := ⟨(big_t 435 (by decide +kernel) (by decide +kernel)), (big_t 437 (by decide +kernel) (by decide +kernel)), (big_p 17 (by decide +kernel) (by decide +kernel)), (big_t 7 (by decide +kernel) (by decide +kernel)), (big_t 438 (by decide +kernel) (by decide +kernel)), ⟨rfl, by decide, by decide, by decide +kernel⟩⟩
theorem k_Pack_68 : CallV "PackLanes$Packer" 68 y_Links_find prog_4_method_2_code 6 none 3 := ⟨(big_t 312 (by decide +kernel) (by decide +kernel)), (big_t 313 (by decide +kernel) (by decide +kernel)), (big_t 314 (by decide +kernel) (by decide +kernel)), (big_t 8 (by decide +kernel) (by decide +kernel)), (big_t 315 (by decide +kernel) (by decide +kernel)), ⟨rfl, by decide, by decide, by decide +kernel⟩⟩
theorem k_Pack_72 : CallV "PackLanes$Packer" 72 y_Pack_keepNothing prog_6_method_2_code 4 none 2 := ⟨(big_t 308 (by decide +kernel) (by decide +kernel)), (big_t 309 (by decide +kernel) (by decide +kernel)), (big_t 310 (by decide +kernel) (by decide +kernel)), (big_t 7 (by decide +kernel) (by decide +kernel)), (big_t 311 (by decide +kernel) (by decide +kernel)), ⟨rfl, by decide, by decide, by decide +kernel⟩⟩
theorem k_Pack_76 : CallV "PackLanes$Packer" 76 y_Pack_rootAt prog_6_method_4_code 6 (some .int) 2 := ⟨(big_t 343 (by decide +kernel) (by decide +kernel)), (big_t 344 (by decide +kernel) (by decide +kernel)), (big_t 345 (by decide +kernel) (by decide +kernel)), (big_t 7 (by decide +kernel) (by decide +kernel)), (big_t 346 (by decide +kernel) (by decide +kernel)), ⟨rfl, by decide, by decide, by decide +kernel⟩⟩
theorem k_Pack_80 : CallV "PackLanes$Packer" 80 y_Pack_considerRoot prog_6_method_7_code 6 none 1 := ⟨(big_t 371 (by decide +kernel) (by decide +kernel)), (big_t 373 (by decide +kernel) (by decide +kernel)), (big_p 5 (by decide +kernel) (by decide +kernel)), (big_t 7 (by decide +kernel) (by decide +kernel)), (big_t 374 (by decide +kernel) (by decide +kernel)), ⟨rfl, by decide, by decide, by decide +kernel⟩⟩
theorem k_Pack_84 : CallV "PackLanes$Packer" 84 y_Pack_putInOrder prog_6_method_9_code 6 (some .boolean) 0 := ⟨(big_t 427 (by decide +kernel) (by decide +kernel)), (big_t 429 (by decide +kernel) (by decide +kernel)), (big_p 15 (by decide +kernel) (by decide +kernel)), (big_t 7 (by decide +kernel) (by decide +kernel)), (big_t 430 (by decide +kernel) (by decide +kernel)), ⟨rfl, by decide, by decide, by decide +kernel⟩⟩
theorem k_Pack_88 : CallV "PackLanes$Packer" 88 y_Pack_leastStore prog_6_method_6_code 4 (some .int) 2 := ⟨(big_t 347 (by decide +kernel) (by decide +kernel)), (big_t 349 (by decide +kernel) (by decide +kernel)), (big_p 4 (by decide +kernel) (by decide +kernel)), (big_t 7 (by decide +kernel) (by decide +kernel)), (big_t 350 (by decide +kernel) (by decide +kernel)), ⟨rfl, by decide, by decide, by decide +kernel⟩⟩
theorem k_Pack_95 : CallV "PackLanes$Packer" 95 y_Links_isPack prog_4_method_6_code 8 (some .boolean) 2 := ⟨(big_t 355 (by decide +kernel) (by decide +kernel)), (big_t 356 (by decide +kernel) (by decide +kernel)), (big_t 357 (by decide +kernel) (by decide +kernel)), (big_t 8 (by decide +kernel) (by decide +kernel)), (big_t 358 (by decide +kernel) (by decide +kernel)), ⟨rfl, by decide, by decide, by decide +kernel⟩⟩
theorem k_Pack_99 : CallV "PackLanes$Packer" 99 y_Tree_grow prog_10_method_2_code 5 none 3 := ⟨(big_t 375 (by decide +kernel) (by decide +kernel)), (big_t 376 (by decide +kernel) (by decide +kernel)), (big_t 377 (by decide +kernel) (by decide +kernel)), (big_t 9 (by decide +kernel) (by decide +kernel)), (big_t 378 (by decide +kernel) (by decide +kernel)), ⟨rfl, by decide, by decide, by decide +kernel⟩⟩
theorem k_Src_22 : CallV "PackLanes$Source" 22 y_Code_clear prog_3_method_2_code 1 none 0 := ⟨(big_t 510 (by decide +kernel) (by decide +kernel)), (big_t 511 (by decide +kernel) (by decide +kernel)), (big_t 512 (by decide +kernel) (by decide +kernel)), (big_t 3 (by decide +kernel) (by decide +kernel)), (big_t 513 (by decide +kernel) (by decide +kernel)), ⟨rfl, by decide, by decide, by decide +kernel⟩⟩
theorem k_Src_35 : CallV "PackLanes$Source" 35 y_Code_canBegin prog_3_method_4_code 2 (some .boolean) 1 := ⟨(big_t 520 (by decide +kernel) (by decide +kernel)), (big_t 521 (by decide +kernel) (by decide +kernel)), (big_t 522 (by decide +kernel) (by decide +kernel)), (big_t 3 (by decide +kernel) (by decide +kernel)), (big_t 523 (by decide +kernel) (by decide +kernel)), ⟨rfl, by decide, by decide, by decide +kernel⟩⟩
theorem k_Src_46 : CallV "PackLanes$Source" 46 y_Code_add prog_3_method_6_code 6 none 4 := ⟨(big_t 546 (by decide +kernel) (by decide +kernel)), (big_t 547 (by decide +kernel) (by decide +kernel)), (big_t 548 (by decide +kernel) (by decide +kernel)), (big_t 3 (by decide +kernel) (by decide +kernel)), (big_t 549 (by decide +kernel) (by decide +kernel)), ⟨rfl, by decide, by decide, by decide +kernel⟩⟩
theorem k_Src_54 : CallV "PackLanes$Source" 54 y_Code_operandNamed prog_3_method_5_code 3 (some .int) 1 := ⟨(big_t 538 (by decide +kernel) (by decide +kernel)), (big_t 539 (by decide +kernel) (by decide +kernel)), (big_t 540 (by decide +kernel) (by decide +kernel)), (big_t 3 (by decide +kernel) (by decide +kernel)), (big_t 541 (by decide +kernel) (by decide +kernel)), ⟨rfl, by decide, by decide, by decide +kernel⟩⟩
theorem k_Tree_48 : CallV "PackLanes$Tree" 48 y_Tree_addPack prog_10_method_8_code 2 none 1 := ⟨(big_t 379 (by decide +kernel) (by decide +kernel)), (big_t 381 (by decide +kernel) (by decide +kernel)), (big_p 6 (by decide +kernel) (by decide +kernel)), (big_t 9 (by decide +kernel) (by decide +kernel)), (big_t 382 (by decide +kernel) (by decide +kernel)), ⟨rfl, by decide, by decide, by decide +kernel⟩⟩
theorem k_Tree_52 : CallV "PackLanes$Tree" 52 y_Tree_operands prog_10_method_10_code 6 (some .int) 2 := ⟨(big_t 384 (by decide +kernel) (by decide +kernel)), (big_t 386 (by decide +kernel) (by decide +kernel)), (big_p 7 (by decide +kernel) (by decide +kernel)), (big_t 9 (by decide +kernel) (by decide +kernel)), (big_t 387 (by decide +kernel) (by decide +kernel)), ⟨rfl, by decide, by decide, by decide +kernel⟩⟩
theorem k_Tree_56 : CallV "PackLanes$Tree" 56 y_Tree_append prog_10_method_9_code 2 none 1 := ⟨(big_t 391 (by decide +kernel) (by decide +kernel)), (big_t 393 (by decide +kernel) (by decide +kernel)), (big_p 8 (by decide +kernel) (by decide +kernel)), (big_t 9 (by decide +kernel) (by decide +kernel)), (big_t 394 (by decide +kernel) (by decide +kernel)), ⟨rfl, by decide, by decide, by decide +kernel⟩⟩
theorem k_Tree_59 : CallV "PackLanes$Tree" 59 y_Tree_handle prog_10_method_5_code 3 none 1 := ⟨(big_t 395 (by decide +kernel) (by decide +kernel)), (big_t 397 (by decide +kernel) (by decide +kernel)), (big_p 9 (by decide +kernel) (by decide +kernel)), (big_t 9 (by decide +kernel) (by decide +kernel)), (big_t 398 (by decide +kernel) (by decide +kernel)), ⟨rfl, by decide, by decide, by decide +kernel⟩⟩
theorem k_Tree_74 : CallV "PackLanes$Tree" 74 y_Tree_isTakenOut prog_10_method_4_code 2 (some .boolean) 1 := ⟨(big_t 417 (by decide +kernel) (by decide +kernel)), (big_t 419 (by decide +kernel) (by decide +kernel)), (big_p 13 (by decide +kernel) (by decide +kernel)), (big_t 9 (by decide +kernel) (by decide +kernel)), (big_t 420 (by decide +kernel) (by decide +kernel)), ⟨rfl, by decide, by decide, by decide +kernel⟩⟩
theorem k_Tree_83 : CallV "PackLanes$Tree" 83 y_Links_isPack prog_4_method_6_code 8 (some .boolean) 2 := ⟨(big_t 399 (by decide +kernel) (by decide +kernel)), (big_t 356 (by decide +kernel) (by decide +kernel)), (big_t 357 (by decide +kernel) (by decide +kernel)), (big_t 8 (by decide +kernel) (by decide +kernel)), (big_t 358 (by decide +kernel) (by decide +kernel)), ⟨rfl, by decide, by decide, by decide +kernel⟩⟩
theorem k_Tree_92 : CallV "PackLanes$Tree" 92 y_Tree_turnedLanes prog_10_method_11_code 7 (some .int) 1 := ⟨(big_t 400 (by decide +kernel) (by decide +kernel)), (big_t 402 (by decide +kernel) (by decide +kernel)), (big_p 10 (by decide +kernel) (by decide +kernel)), (big_t 9 (by decide +kernel) (by decide +kernel)), (big_t 403 (by decide +kernel) (by decide +kernel)), ⟨rfl, by decide, by decide, by decide +kernel⟩⟩
theorem k_Tree_96 : CallV "PackLanes$Tree" 96 y_Tree_hasPack prog_10_method_7_code 3 (some .boolean) 1 := ⟨(big_t 404 (by decide +kernel) (by decide +kernel)), (big_t 406 (by decide +kernel) (by decide +kernel)), (big_p 11 (by decide +kernel) (by decide +kernel)), (big_t 9 (by decide +kernel) (by decide +kernel)), (big_t 407 (by decide +kernel) (by decide +kernel)), ⟨rfl, by decide, by decide, by decide +kernel⟩⟩
theorem k_Tree_99 : CallV "PackLanes$Tree" 99 y_Tree_takeOneByOne prog_10_method_6_code 5 none 1 := ⟨(big_t 408 (by decide +kernel) (by decide +kernel)), (big_t 410 (by decide +kernel) (by decide +kernel)), (big_p 12 (by decide +kernel) (by decide +kernel)), (big_t 9 (by decide +kernel) (by decide +kernel)), (big_t 411 (by decide +kernel) (by decide +kernel)), ⟨rfl, by decide, by decide, by decide +kernel⟩⟩
theorem k_PL_103 : CallV "PackLanes" 103 y_Src_headerDigit prog_9_method_4_code 2 (some .int) 1 := ⟨(big_t 554 (by decide +kernel) (by decide +kernel)), (big_t 555 (by decide +kernel) (by decide +kernel)), (big_t 556 (by decide +kernel) (by decide +kernel)), (big_t 2 (by decide +kernel) (by decide +kernel)), (big_t 557 (by decide +kernel) (by decide +kernel)), ⟨rfl, by decide, by decide, by decide +kernel⟩⟩
theorem k_PL_110 : CallV "PackLanes" 110 y_Code_cost prog_3_method_11_code 3 (some .int) 0 := ⟨(big_t 562 (by decide +kernel) (by decide +kernel)), (big_t 563 (by decide +kernel) (by decide +kernel)), (big_t 564 (by decide +kernel) (by decide +kernel)), (big_t 3 (by decide +kernel) (by decide +kernel)), (big_t 565 (by decide +kernel) (by decide +kernel)), ⟨rfl, by decide, by decide, by decide +kernel⟩⟩
theorem k_PL_125 : CallV "PackLanes" 125 y_Mach_runInOrder prog_5_method_2_code 4 none 2 := ⟨(big_t 566 (by decide +kernel) (by decide +kernel)), (big_t 567 (by decide +kernel) (by decide +kernel)), (big_t 568 (by decide +kernel) (by decide +kernel)), (big_t 10 (by decide +kernel) (by decide +kernel)), (big_t 569 (by decide +kernel) (by decide +kernel)), ⟨rfl, by decide, by decide, by decide +kernel⟩⟩
theorem k_PL_131 : CallV "PackLanes" 131 y_Mach_runPacked prog_5_method_3_code 4 none 2 := ⟨(big_t 582 (by decide +kernel) (by decide +kernel)), (big_t 583 (by decide +kernel) (by decide +kernel)), (big_t 584 (by decide +kernel) (by decide +kernel)), (big_t 10 (by decide +kernel) (by decide +kernel)), (big_t 585 (by decide +kernel) (by decide +kernel)), ⟨rfl, by decide, by decide, by decide +kernel⟩⟩
theorem k_PL_135 : CallV "PackLanes" 135 y_PL_bestWidth prog_1_method_25_code 2 (some .int) 0 := ⟨(big_t 586 (by decide +kernel) (by decide +kernel)), (big_t 588 (by decide +kernel) (by decide +kernel)), (big_p 21 (by decide +kernel) (by decide +kernel)), (big_t 1 (by decide +kernel) (by decide +kernel)), (big_t 589 (by decide +kernel) (by decide +kernel)), ⟨rfl, by decide, by decide, by decide +kernel⟩⟩
theorem k_PL_143 : CallV "PackLanes" 143 y_Code_has prog_3_method_3_code 2 (some .boolean) 1 := ⟨(big_t 595 (by decide +kernel) (by decide +kernel)), (big_t 543 (by decide +kernel) (by decide +kernel)), (big_t 544 (by decide +kernel) (by decide +kernel)), (big_t 3 (by decide +kernel) (by decide +kernel)), (big_t 545 (by decide +kernel) (by decide +kernel)), ⟨rfl, by decide, by decide, by decide +kernel⟩⟩
theorem k_PL_183 : CallV "PackLanes" 183 y_Acts_remember prog_2_method_3_code 3 none 2 := ⟨(big_t 610 (by decide +kernel) (by decide +kernel)), (big_t 611 (by decide +kernel) (by decide +kernel)), (big_t 612 (by decide +kernel) (by decide +kernel)), (big_t 4 (by decide +kernel) (by decide +kernel)), (big_t 613 (by decide +kernel) (by decide +kernel)), ⟨rfl, by decide, by decide, by decide +kernel⟩⟩
theorem k_PL_190 : CallV "PackLanes" 190 y_Acts_takeBack prog_2_method_4_code 3 none 1 := ⟨(big_t 626 (by decide +kernel) (by decide +kernel)), (big_t 627 (by decide +kernel) (by decide +kernel)), (big_t 628 (by decide +kernel) (by decide +kernel)), (big_t 4 (by decide +kernel) (by decide +kernel)), (big_t 629 (by decide +kernel) (by decide +kernel)), ⟨rfl, by decide, by decide, by decide +kernel⟩⟩
theorem k_PL_194 : CallV "PackLanes" 194 y_Pack_keepNothing prog_6_method_2_code 4 none 2 := ⟨(big_t 634 (by decide +kernel) (by decide +kernel)), (big_t 309 (by decide +kernel) (by decide +kernel)), (big_t 310 (by decide +kernel) (by decide +kernel)), (big_t 7 (by decide +kernel) (by decide +kernel)), (big_t 311 (by decide +kernel) (by decide +kernel)), ⟨rfl, by decide, by decide, by decide +kernel⟩⟩
theorem k_PL_197 : CallV "PackLanes" 197 y_Pack_rootAt prog_6_method_4_code 6 (some .int) 2 := ⟨(big_t 635 (by decide +kernel) (by decide +kernel)), (big_t 344 (by decide +kernel) (by decide +kernel)), (big_t 345 (by decide +kernel) (by decide +kernel)), (big_t 7 (by decide +kernel) (by decide +kernel)), (big_t 346 (by decide +kernel) (by decide +kernel)), ⟨rfl, by decide, by decide, by decide +kernel⟩⟩
theorem k_PL_201 : CallV "PackLanes" 201 y_Pack_gainOfTree prog_6_method_5_code 2 (some .int) 1 := ⟨(big_t 636 (by decide +kernel) (by decide +kernel)), (big_t 637 (by decide +kernel) (by decide +kernel)), (big_t 638 (by decide +kernel) (by decide +kernel)), (big_t 7 (by decide +kernel) (by decide +kernel)), (big_t 639 (by decide +kernel) (by decide +kernel)), ⟨rfl, by decide, by decide, by decide +kernel⟩⟩
theorem k_PL_216 : CallV "PackLanes" 216 y_PL_isRight prog_1_method_26_code 6 (some .boolean) 1 := ⟨(big_t 648 (by decide +kernel) (by decide +kernel)), (big_t 650 (by decide +kernel) (by decide +kernel)), (big_p 22 (by decide +kernel) (by decide +kernel)), (big_t 1 (by decide +kernel) (by decide +kernel)), (big_t 651 (by decide +kernel) (by decide +kernel)), ⟨rfl, by decide, by decide, by decide +kernel⟩⟩
theorem k_PL_219 : CallV "PackLanes" 219 y_Sights_add prog_7_method_2_code 3 (some .int) 2 := ⟨(big_t 656 (by decide +kernel) (by decide +kernel)), (big_t 657 (by decide +kernel) (by decide +kernel)), (big_t 658 (by decide +kernel) (by decide +kernel)), (big_t 6 (by decide +kernel) (by decide +kernel)), (big_t 659 (by decide +kernel) (by decide +kernel)), ⟨rfl, by decide, by decide, by decide +kernel⟩⟩
theorem k_PL_222 : CallV "PackLanes" 222 y_Sights_clear prog_7_method_3_code 2 (some .int) 0 := ⟨(big_t 664 (by decide +kernel) (by decide +kernel)), (big_t 665 (by decide +kernel) (by decide +kernel)), (big_t 666 (by decide +kernel) (by decide +kernel)), (big_t 6 (by decide +kernel) (by decide +kernel)), (big_t 667 (by decide +kernel) (by decide +kernel)), ⟨rfl, by decide, by decide, by decide +kernel⟩⟩
theorem k_PL_223 : CallV "PackLanes" 223 y_Sights_agreeWith prog_7_method_4_code 3 (some .boolean) 1 := ⟨(big_t 672 (by decide +kernel) (by decide +kernel)), (big_t 673 (by decide +kernel) (by decide +kernel)), (big_t 674 (by decide +kernel) (by decide +kernel)), (big_t 6 (by decide +kernel) (by decide +kernel)), (big_t 675 (by decide +kernel) (by decide +kernel)), ⟨rfl, by decide, by decide, by decide +kernel⟩⟩
theorem k_PL_227 : CallV "PackLanes" 227 y_Code_stores prog_3_method_10_code 3 (some .int) 0 := ⟨(big_t 680 (by decide +kernel) (by decide +kernel)), (big_t 525 (by decide +kernel) (by decide +kernel)), (big_t 526 (by decide +kernel) (by decide +kernel)), (big_t 3 (by decide +kernel) (by decide +kernel)), (big_t 527 (by decide +kernel) (by decide +kernel)), ⟨rfl, by decide, by decide, by decide +kernel⟩⟩
theorem k_PL_230 : CallV "PackLanes" 230 y_PL_sumGainsOfAllChoices prog_1_method_28_code 3 none 1 := ⟨(big_t 681 (by decide +kernel) (by decide +kernel)), (big_t 683 (by decide +kernel) (by decide +kernel)), (big_p 23 (by decide +kernel) (by decide +kernel)), (big_t 1 (by decide +kernel) (by decide +kernel)), (big_t 684 (by decide +kernel) (by decide +kernel)), ⟨rfl, by decide, by decide, by decide +kernel⟩⟩
theorem k_PL_246 : CallV "PackLanes" 246 y_PL_drawStartValues prog_1_method_31_code 3 none 0 := ⟨(big_t 716 (by decide +kernel) (by decide +kernel)), (big_t 718 (by decide +kernel) (by decide +kernel)), (big_p 25 (by decide +kernel) (by decide +kernel)), (big_t 1 (by decide +kernel) (by decide +kernel)), (big_t 719 (by decide +kernel) (by decide +kernel)), ⟨rfl, by decide, by decide, by decide +kernel⟩⟩
theorem k_PL_249 : CallV "PackLanes" 249 y_Slots_fill prog_8_method_3_code 3 none 2 := ⟨(big_t 726 (by decide +kernel) (by decide +kernel)), (big_t 727 (by decide +kernel) (by decide +kernel)), (big_t 728 (by decide +kernel) (by decide +kernel)), (big_t 5 (by decide +kernel) (by decide +kernel)), (big_t 729 (by decide +kernel) (by decide +kernel)), ⟨rfl, by decide, by decide, by decide +kernel⟩⟩
theorem k_PL_257 : CallV "PackLanes" 257 y_Slots_restore prog_8_method_4_code 3 none 2 := ⟨(big_t 735 (by decide +kernel) (by decide +kernel)), (big_t 736 (by decide +kernel) (by decide +kernel)), (big_t 737 (by decide +kernel) (by decide +kernel)), (big_t 5 (by decide +kernel) (by decide +kernel)), (big_t 738 (by decide +kernel) (by decide +kernel)), ⟨rfl, by decide, by decide, by decide +kernel⟩⟩
theorem k_PL_260 : CallV "PackLanes" 260 y_Acts_clear prog_2_method_2_code 1 none 0 := ⟨(big_t 296 (by decide +kernel) (by decide +kernel)), (big_t 297 (by decide +kernel) (by decide +kernel)), (big_t 298 (by decide +kernel) (by decide +kernel)), (big_t 4 (by decide +kernel) (by decide +kernel)), (big_t 299 (by decide +kernel) (by decide +kernel)), ⟨rfl, by decide, by decide, by decide +kernel⟩⟩
theorem k_PL_262 : CallV "PackLanes" 262 y_Slots_clear prog_8_method_2_code 2 none 0 := ⟨(big_t 300 (by decide +kernel) (by decide +kernel)), (big_t 301 (by decide +kernel) (by decide +kernel)), (big_t 302 (by decide +kernel) (by decide +kernel)), (big_t 5 (by decide +kernel) (by decide +kernel)), (big_t 303 (by decide +kernel) (by decide +kernel)), ⟨rfl, by decide, by decide, by decide +kernel⟩⟩
theorem k_PL_263 : CallV "PackLanes" 263 y_PL_storesOutside prog_1_method_29_code 5 (some .int) 1 := ⟨(big_t 685 (by decide +kernel) (by decide +kernel)), (big_t 687 (by decide +kernel) (by decide +kernel)), (big_p 24 (by decide +kernel) (by decide +kernel)), (big_t 1 (by decide +kernel) (by decide +kernel)), (big_t 688 (by decide +kernel) (by decide +kernel)), ⟨rfl, by decide, by decide, by decide +kernel⟩⟩
theorem k_PL_83 : CallV "PackLanes" 83 y_PL_restart prog_1_method_24_code 5 none 3 := ⟨(big_t 292 (by decide +kernel) (by decide +kernel)), (big_t 294 (by decide +kernel) (by decide +kernel)), (big_p 0 (by decide +kernel) (by decide +kernel)), (big_t 1 (by decide +kernel) (by decide +kernel)), (big_t 295 (by decide +kernel) (by decide +kernel)), ⟨rfl, by decide, by decide, by decide +kernel⟩⟩
theorem k_PL_87 : CallV "PackLanes" 87 y_Pack_choosePacks prog_6_method_3_code 6 none 2 := ⟨(big_t 304 (by decide +kernel) (by decide +kernel)), (big_t 305 (by decide +kernel) (by decide +kernel)), (big_t 306 (by decide +kernel) (by decide +kernel)), (big_t 7 (by decide +kernel) (by decide +kernel)), (big_t 307 (by decide +kernel) (by decide +kernel)), ⟨rfl, by decide, by decide, by decide +kernel⟩⟩
theorem k_PL_91 : CallV "PackLanes" 91 y_Src_append prog_9_method_2_code 2 (some .int) 1 := ⟨(big_t 490 (by decide +kernel) (by decide +kernel)), (big_t 491 (by decide +kernel) (by decide +kernel)), (big_t 492 (by decide +kernel) (by decide +kernel)), (big_t 2 (by decide +kernel) (by decide +kernel)), (big_t 493 (by decide +kernel) (by decide +kernel)), ⟨rfl, by decide, by decide, by decide +kernel⟩⟩
theorem k_PL_95 : CallV "PackLanes" 95 y_Src_clear prog_9_method_3_code 2 (some .int) 0 := ⟨(big_t 498 (by decide +kernel) (by decide +kernel)), (big_t 499 (by decide +kernel) (by decide +kernel)), (big_t 500 (by decide +kernel) (by decide +kernel)), (big_t 2 (by decide +kernel) (by decide +kernel)), (big_t 501 (by decide +kernel) (by decide +kernel)), ⟨rfl, by decide, by decide, by decide +kernel⟩⟩
theorem k_PL_99 : CallV "PackLanes" 99 y_Src_parse prog_9_method_5_code 8 (some .int) 1 := ⟨(big_t 506 (by decide +kernel) (by decide +kernel)), (big_t 507 (by decide +kernel) (by decide +kernel)), (big_t 508 (by decide +kernel) (by decide +kernel)), (big_t 2 (by decide +kernel) (by decide +kernel)), (big_t 509 (by decide +kernel) (by decide +kernel)), ⟨rfl, by decide, by decide, by decide +kernel⟩⟩
theorem k_R_138 : CallV "PackLanesModel" 138 y_R_isAnyValueAsRead prog_12_method_16_code 3 (some .boolean) 0 := ⟨(big_t 931 (by decide +kernel) (by decide +kernel)), (big_t 933 (by decide +kernel) (by decide +kernel)), (big_p 29 (by decide +kernel) (by decide +kernel)), (big_t 12 (by decide +kernel) (by decide +kernel)), (big_t 934 (by decide +kernel) (by decide +kernel)), ⟨rfl, by decide, by decide, by decide +kernel⟩⟩
theorem k_R_146 : CallV "PackLanesModel" 146 y_R_done prog_12_method_20_code 2 (some .boolean) 1 := ⟨(big_t 941 (by decide +kernel) (by decide +kernel)), (big_t 943 (by decide +kernel) (by decide +kernel)), (big_p 31 (by decide +kernel) (by decide +kernel)), (big_t 12 (by decide +kernel) (by decide +kernel)), (big_t 944 (by decide +kernel) (by decide +kernel)), ⟨rfl, by decide, by decide, by decide +kernel⟩⟩
theorem k_R_156 : CallV "PackLanesModel" 156 y_R_isValueAsRead prog_12_method_15_code 2 (some .boolean) 1 := ⟨(big_t 948 (by decide +kernel) (by decide +kernel)), (big_t 950 (by decide +kernel) (by decide +kernel)), (big_p 32 (by decide +kernel) (by decide +kernel)), (big_t 12 (by decide +kernel) (by decide +kernel)), (big_t 951 (by decide +kernel) (by decide +kernel)), ⟨rfl, by decide, by decide, by decide +kernel⟩⟩
theorem k_R_160 : CallV "PackLanesModel" 160 y_R_takeHead prog_12_method_17_code 2 (some .boolean) 1 := ⟨(big_t 919 (by decide +kernel) (by decide +kernel)), (big_t 921 (by decide +kernel) (by decide +kernel)), (big_p 27 (by decide +kernel) (by decide +kernel)), (big_t 12 (by decide +kernel) (by decide +kernel)), (big_t 922 (by decide +kernel) (by decide +kernel)), ⟨rfl, by decide, by decide, by decide +kernel⟩⟩
theorem k_R_163 : CallV "PackLanesModel" 163 y_R_takeSign prog_12_method_19_code 3 (some .boolean) 1 := ⟨(big_t 924 (by decide +kernel) (by decide +kernel)), (big_t 926 (by decide +kernel) (by decide +kernel)), (big_p 28 (by decide +kernel) (by decide +kernel)), (big_t 12 (by decide +kernel) (by decide +kernel)), (big_t 927 (by decide +kernel) (by decide +kernel)), ⟨rfl, by decide, by decide, by decide +kernel⟩⟩
theorem k_R_166 : CallV "PackLanesModel" 166 y_R_takeOf prog_12_method_21_code 5 (some .boolean) 1 := ⟨(big_t 935 (by decide +kernel) (by decide +kernel)), (big_t 937 (by decide +kernel) (by decide +kernel)), (big_p 30 (by decide +kernel) (by decide +kernel)), (big_t 12 (by decide +kernel) (by decide +kernel)), (big_t 938 (by decide +kernel) (by decide +kernel)), ⟨rfl, by decide, by decide, by decide +kernel⟩⟩
theorem k_R_169 : CallV "PackLanesModel" 169 y_R_readText prog_12_method_22_code 3 (some .int) 0 := ⟨(big_t 915 (by decide +kernel) (by decide +kernel)), (big_t 917 (by decide +kernel) (by decide +kernel)), (big_p 26 (by decide +kernel) (by decide +kernel)), (big_t 12 (by decide +kernel) (by decide +kernel)), (big_t 918 (by decide +kernel) (by decide +kernel)), ⟨rfl, by decide, by decide, by decide +kernel⟩⟩
theorem k_R_180 : CallV "PackLanesModel" 180 y_R_isBinary prog_12_method_26_code 2 (some .boolean) 1 := ⟨(big_t 1006 (by decide +kernel) (by decide +kernel)), (big_t 1008 (by decide +kernel) (by decide +kernel)), (big_p 43 (by decide +kernel) (by decide +kernel)), (big_t 12 (by decide +kernel) (by decide +kernel)), (big_t 1009 (by decide +kernel) (by decide +kernel)), ⟨rfl, by decide, by decide, by decide +kernel⟩⟩
theorem k_R_194 : CallV "PackLanesModel" 194 y_R_isMemory prog_12_method_25_code 2 (some .boolean) 1 := ⟨(big_t 991 (by decide +kernel) (by decide +kernel)), (big_t 993 (by decide +kernel) (by decide +kernel)), (big_p 40 (by decide +kernel) (by decide +kernel)), (big_t 12 (by decide +kernel) (by decide +kernel)), (big_t 994 (by decide +kernel) (by decide +kernel)), ⟨rfl, by decide, by decide, by decide +kernel⟩⟩
theorem k_R_197 : CallV "PackLanesModel" 197 y_R_meet prog_12_method_29_code 4 (some .boolean) 3 := ⟨(big_t 995 (by decide +kernel) (by decide +kernel)), (big_t 997 (by decide +kernel) (by decide +kernel)), (big_p 41 (by decide +kernel) (by decide +kernel)), (big_t 12 (by decide +kernel) (by decide +kernel)), (big_t 998 (by decide +kernel) (by decide +kernel)), ⟨rfl, by decide, by decide, by decide +kernel⟩⟩
theorem k_R_201 : CallV "PackLanesModel" 201 y_R_uses prog_12_method_28_code 3 (some .boolean) 2 := ⟨(big_t 1002 (by decide +kernel) (by decide +kernel)), (big_t 1004 (by decide +kernel) (by decide +kernel)), (big_p 42 (by decide +kernel) (by decide +kernel)), (big_t 12 (by decide +kernel) (by decide +kernel)), (big_t 1005 (by decide +kernel) (by decide +kernel)), ⟨rfl, by decide, by decide, by decide +kernel⟩⟩
theorem k_R_204 : CallV "PackLanesModel" 204 y_R_doesFollow prog_12_method_30_code 7 (some .boolean) 3 := ⟨(big_t 984 (by decide +kernel) (by decide +kernel)), (big_t 986 (by decide +kernel) (by decide +kernel)), (big_p 39 (by decide +kernel) (by decide +kernel)), (big_t 12 (by decide +kernel) (by decide +kernel)), (big_t 987 (by decide +kernel) (by decide +kernel)), ⟨rfl, by decide, by decide, by decide +kernel⟩⟩
theorem k_R_216 : CallV "PackLanesModel" 216 y_R_isPack prog_12_method_32_code 8 (some .boolean) 1 := ⟨(big_t 1016 (by decide +kernel) (by decide +kernel)), (big_t 1018 (by decide +kernel) (by decide +kernel)), (big_p 45 (by decide +kernel) (by decide +kernel)), (big_t 12 (by decide +kernel) (by decide +kernel)), (big_t 1019 (by decide +kernel) (by decide +kernel)), ⟨rfl, by decide, by decide, by decide +kernel⟩⟩
theorem k_R_219 : CallV "PackLanesModel" 219 y_R_isFree prog_12_method_33_code 4 (some .boolean) 1 := ⟨(big_t 1032 (by decide +kernel) (by decide +kernel)), (big_t 1034 (by decide +kernel) (by decide +kernel)), (big_p 49 (by decide +kernel) (by decide +kernel)), (big_t 12 (by decide +kernel) (by decide +kernel)), (big_t 1035 (by decide +kernel) (by decide +kernel)), ⟨rfl, by decide, by decide, by decide +kernel⟩⟩
theorem k_R_222 : CallV "PackLanesModel" 222 y_R_addPack prog_12_method_34_code 3 none 1 := ⟨(big_t 1024 (by decide +kernel) (by decide +kernel)), (big_t 1026 (by decide +kernel) (by decide +kernel)), (big_p 47 (by decide +kernel) (by decide +kernel)), (big_t 12 (by decide +kernel) (by decide +kernel)), (big_t 1027 (by decide +kernel) (by decide +kernel)), ⟨rfl, by decide, by decide, by decide +kernel⟩⟩
theorem k_R_226 : CallV "PackLanesModel" 226 y_R_waitBoth prog_12_method_35_code 10 none 1 := ⟨(big_t 1036 (by decide +kernel) (by decide +kernel)), (big_t 1038 (by decide +kernel) (by decide +kernel)), (big_p 50 (by decide +kernel) (by decide +kernel)), (big_t 12 (by decide +kernel) (by decide +kernel)), (big_t 1039 (by decide +kernel) (by decide +kernel)), ⟨rfl, by decide, by decide, by decide +kernel⟩⟩
theorem k_R_229 : CallV "PackLanesModel" 229 y_R_isTreePack prog_12_method_36_code 5 (some .boolean) 1 := ⟨(big_t 1040 (by decide +kernel) (by decide +kernel)), (big_t 1042 (by decide +kernel) (by decide +kernel)), (big_p 51 (by decide +kernel) (by decide +kernel)), (big_t 12 (by decide +kernel) (by decide +kernel)), (big_t 1043 (by decide +kernel) (by decide +kernel)), ⟨rfl, by decide, by decide, by decide +kernel⟩⟩
theorem k_R_235 : CallV "PackLanesModel" 235 y_R_costOf prog_12_method_37_code 5 (some .int) 1 := ⟨(big_t 1044 (by decide +kernel) (by decide +kernel)), (big_t 1046 (by decide +kernel) (by decide +kernel)), (big_p 52 (by decide +kernel) (by decide +kernel)), (big_t 12 (by decide +kernel) (by decide +kernel)), (big_t 1047 (by decide +kernel) (by decide +kernel)), ⟨rfl, by decide, by decide, by decide +kernel⟩⟩
theorem k_R_241 : CallV "PackLanesModel" 241 y_R_look prog_12_method_38_code 3 none 1 := ⟨(big_t 1028 (by decide +kernel) (by decide +kernel)), (big_t 1030 (by decide +kernel) (by decide +kernel)), (big_p 48 (by decide +kernel) (by decide +kernel)), (big_t 12 (by decide +kernel) (by decide +kernel)), (big_t 1031 (by decide +kernel) (by decide +kernel)), ⟨rfl, by decide, by decide, by decide +kernel⟩⟩
theorem k_R_244 : CallV "PackLanesModel" 244 y_R_isUsedOutside prog_12_method_40_code 4 (some .boolean) 1 := ⟨(big_t 1052 (by decide +kernel) (by decide +kernel)), (big_t 1054 (by decide +kernel) (by decide +kernel)), (big_p 54 (by decide +kernel) (by decide +kernel)), (big_t 12 (by decide +kernel) (by decide +kernel)), (big_t 1055 (by decide +kernel) (by decide +kernel)), ⟨rfl, by decide, by decide, by decide +kernel⟩⟩
theorem k_R_247 : CallV "PackLanesModel" 247 y_R_nodeOf prog_12_method_43_code 6 (some .int) 1 := ⟨(big_t 1060 (by decide +kernel) (by decide +kernel)), (big_t 1062 (by decide +kernel) (by decide +kernel)), (big_p 56 (by decide +kernel) (by decide +kernel)), (big_t 12 (by decide +kernel) (by decide +kernel)), (big_t 1063 (by decide +kernel) (by decide +kernel)), ⟨rfl, by decide, by decide, by decide +kernel⟩⟩
theorem k_R_250 : CallV "PackLanesModel" 250 y_R_isReady prog_12_method_44_code 5 (some .boolean) 2 := ⟨(big_t 1064 (by decide +kernel) (by decide +kernel)), (big_t 1066 (by decide +kernel) (by decide +kernel)), (big_p 57 (by decide +kernel) (by decide +kernel)), (big_t 12 (by decide +kernel) (by decide +kernel)), (big_t 1067 (by decide +kernel) (by decide +kernel)), ⟨rfl, by decide, by decide, by decide +kernel⟩⟩
theorem k_R_262 : CallV "PackLanesModel" 262 y_R_layFollows prog_12_method_31_code 4 none 1 := ⟨(big_t 980 (by decide +kernel) (by decide +kernel)), (big_t 982 (by decide +kernel) (by decide +kernel)), (big_p 38 (by decide +kernel) (by decide +kernel)), (big_t 12 (by decide +kernel) (by decide +kernel)), (big_t 983 (by decide +kernel) (by decide +kernel)), ⟨rfl, by decide, by decide, by decide +kernel⟩⟩
theorem k_R_265 : CallV "PackLanesModel" 265 y_R_nothingKept prog_12_method_48_code 4 none 2 := ⟨(big_t 976 (by decide +kernel) (by decide +kernel)), (big_t 978 (by decide +kernel) (by decide +kernel)), (big_p 37 (by decide +kernel) (by decide +kernel)), (big_t 12 (by decide +kernel) (by decide +kernel)), (big_t 979 (by decide +kernel) (by decide +kernel)), ⟨rfl, by decide, by decide, by decide +kernel⟩⟩
theorem k_R_269 : CallV "PackLanesModel" 269 y_R_laySeed prog_12_method_42_code 8 (some .boolean) 2 := ⟨(big_t 1012 (by decide +kernel) (by decide +kernel)), (big_t 1014 (by decide +kernel) (by decide +kernel)), (big_p 44 (by decide +kernel) (by decide +kernel)), (big_t 12 (by decide +kernel) (by decide +kernel)), (big_t 1015 (by decide +kernel) (by decide +kernel)), ⟨rfl, by decide, by decide, by decide +kernel⟩⟩
theorem k_R_272 : CallV "PackLanesModel" 272 y_R_grow prog_12_method_39_code 2 none 0 := ⟨(big_t 1020 (by decide +kernel) (by decide +kernel)), (big_t 1022 (by decide +kernel) (by decide +kernel)), (big_p 46 (by decide +kernel) (by decide +kernel)), (big_t 12 (by decide +kernel) (by decide +kernel)), (big_t 1023 (by decide +kernel) (by decide +kernel)), ⟨rfl, by decide, by decide, by decide +kernel⟩⟩
theorem k_R_275 : CallV "PackLanesModel" 275 y_R_gainOfTree prog_12_method_41_code 3 (some .int) 0 := ⟨(big_t 1048 (by decide +kernel) (by decide +kernel)), (big_t 1050 (by decide +kernel) (by decide +kernel)), (big_p 53 (by decide +kernel) (by decide +kernel)), (big_t 12 (by decide +kernel) (by decide +kernel)), (big_t 1051 (by decide +kernel) (by decide +kernel)), ⟨rfl, by decide, by decide, by decide +kernel⟩⟩
theorem k_R_278 : CallV "PackLanesModel" 278 y_R_setInOrder prog_12_method_45_code 7 (some .boolean) 0 := ⟨(big_t 1056 (by decide +kernel) (by decide +kernel)), (big_t 1058 (by decide +kernel) (by decide +kernel)), (big_p 55 (by decide +kernel) (by decide +kernel)), (big_t 12 (by decide +kernel) (by decide +kernel)), (big_t 1059 (by decide +kernel) (by decide +kernel)), ⟨rfl, by decide, by decide, by decide +kernel⟩⟩
theorem k_R_281 : CallV "PackLanesModel" 281 y_R_keepTree prog_12_method_47_code 3 none 1 := ⟨(big_t 1068 (by decide +kernel) (by decide +kernel)), (big_t 1070 (by decide +kernel) (by decide +kernel)), (big_p 58 (by decide +kernel) (by decide +kernel)), (big_t 12 (by decide +kernel) (by decide +kernel)), (big_t 1071 (by decide +kernel) (by decide +kernel)), ⟨rfl, by decide, by decide, by decide +kernel⟩⟩
theorem k_R_284 : CallV "PackLanesModel" 284 y_R_noTree prog_12_method_46_code 2 none 0 := ⟨(big_t 1072 (by decide +kernel) (by decide +kernel)), (big_t 1074 (by decide +kernel) (by decide +kernel)), (big_p 59 (by decide +kernel) (by decide +kernel)), (big_t 12 (by decide +kernel) (by decide +kernel)), (big_t 1075 (by decide +kernel) (by decide +kernel)), ⟨rfl, by decide, by decide, by decide +kernel⟩⟩
theorem k_R_287 : CallV "PackLanesModel" 287 y_R_pack prog_12_method_49_code 5 none 2 := ⟨(big_t 972 (by decide +kernel) (by decide +kernel)), (big_t 974 (by decide +kernel) (by decide +kernel)), (big_p 36 (by decide +kernel) (by decide +kernel)), (big_t 12 (by decide +kernel) (by decide +kernel)), (big_t 975 (by decide +kernel) (by decide +kernel)), ⟨rfl, by decide, by decide, by decide +kernel⟩⟩
theorem k_R_290 : CallV "PackLanesModel" 290 y_R_costNow prog_12_method_50_code 3 (some .int) 0 := ⟨(big_t 960 (by decide +kernel) (by decide +kernel)), (big_t 962 (by decide +kernel) (by decide +kernel)), (big_p 33 (by decide +kernel) (by decide +kernel)), (big_t 12 (by decide +kernel) (by decide +kernel)), (big_t 963 (by decide +kernel) (by decide +kernel)), ⟨rfl, by decide, by decide, by decide +kernel⟩⟩
theorem k_R_296 : CallV "PackLanesModel" 296 y_R_beginRun prog_12_method_52_code 3 none 1 := ⟨(big_t 1076 (by decide +kernel) (by decide +kernel)), (big_t 1078 (by decide +kernel) (by decide +kernel)), (big_p 60 (by decide +kernel) (by decide +kernel)), (big_t 12 (by decide +kernel) (by decide +kernel)), (big_t 1079 (by decide +kernel) (by decide +kernel)), ⟨rfl, by decide, by decide, by decide +kernel⟩⟩
theorem k_R_299 : CallV "PackLanesModel" 299 y_R_doOne prog_12_method_53_code 5 none 2 := ⟨(big_t 1080 (by decide +kernel) (by decide +kernel)), (big_t 1082 (by decide +kernel) (by decide +kernel)), (big_p 61 (by decide +kernel) (by decide +kernel)), (big_t 12 (by decide +kernel) (by decide +kernel)), (big_t 1083 (by decide +kernel) (by decide +kernel)), ⟨rfl, by decide, by decide, by decide +kernel⟩⟩
theorem k_R_306 : CallV "PackLanesModel" 306 y_R_packedCost prog_12_method_51_code 2 (some .int) 1 := ⟨(big_t 1095 (by decide +kernel) (by decide +kernel)), (big_t 1097 (by decide +kernel) (by decide +kernel)), (big_p 64 (by decide +kernel) (by decide +kernel)), (big_t 12 (by decide +kernel) (by decide +kernel)), (big_t 1098 (by decide +kernel) (by decide +kernel)), ⟨rfl, by decide, by decide, by decide +kernel⟩⟩
theorem k_R_310 : CallV "PackLanesModel" 310 y_R_packed prog_12_method_57_code 3 (some .int) 0 := ⟨(big_t 1103 (by decide +kernel) (by decide +kernel)), (big_t 1105 (by decide +kernel) (by decide +kernel)), (big_p 66 (by decide +kernel) (by decide +kernel)), (big_t 12 (by decide +kernel) (by decide +kernel)), (big_t 1106 (by decide +kernel) (by decide +kernel)), ⟨rfl, by decide, by decide, by decide +kernel⟩⟩
theorem k_R_313 : CallV "PackLanesModel" 313 y_R_packedRun prog_12_method_55_code 4 none 1 := ⟨(big_t 968 (by decide +kernel) (by decide +kernel)), (big_t 970 (by decide +kernel) (by decide +kernel)), (big_p 35 (by decide +kernel) (by decide +kernel)), (big_t 12 (by decide +kernel) (by decide +kernel)), (big_t 971 (by decide +kernel) (by decide +kernel)), ⟨rfl, by decide, by decide, by decide +kernel⟩⟩
theorem k_R_316 : CallV "PackLanesModel" 316 y_R_run prog_12_method_54_code 4 none 2 := ⟨(big_t 1084 (by decide +kernel) (by decide +kernel)), (big_t 1086 (by decide +kernel) (by decide +kernel)), (big_p 62 (by decide +kernel) (by decide +kernel)), (big_t 12 (by decide +kernel) (by decide +kernel)), (big_t 1087 (by decide +kernel) (by decide +kernel)), ⟨rfl, by decide, by decide, by decide +kernel⟩⟩
theorem k_R_319 : CallV "PackLanesModel" 319 y_R_runFaults prog_12_method_59_code 2 (some .int) 1 := ⟨(big_t 964 (by decide +kernel) (by decide +kernel)), (big_t 966 (by decide +kernel) (by decide +kernel)), (big_p 34 (by decide +kernel) (by decide +kernel)), (big_t 12 (by decide +kernel) (by decide +kernel)), (big_t 967 (by decide +kernel) (by decide +kernel)), ⟨rfl, by decide, by decide, by decide +kernel⟩⟩
theorem k_R_323 : CallV "PackLanesModel" 323 y_R_bestWidth prog_12_method_56_code 2 (some .int) 0 := ⟨(big_t 1088 (by decide +kernel) (by decide +kernel)), (big_t 1090 (by decide +kernel) (by decide +kernel)), (big_p 63 (by decide +kernel) (by decide +kernel)), (big_t 12 (by decide +kernel) (by decide +kernel)), (big_t 1091 (by decide +kernel) (by decide +kernel)), ⟨rfl, by decide, by decide, by decide +kernel⟩⟩
theorem k_R_329 : CallV "PackLanesModel" 329 y_R_found prog_12_method_58_code 2 (some .int) 1 := ⟨(big_t 1099 (by decide +kernel) (by decide +kernel)), (big_t 1101 (by decide +kernel) (by decide +kernel)), (big_p 65 (by decide +kernel) (by decide +kernel)), (big_t 12 (by decide +kernel) (by decide +kernel)), (big_t 1102 (by decide +kernel) (by decide +kernel)), ⟨rfl, by decide, by decide, by decide +kernel⟩⟩
theorem k_R_332 : CallV "PackLanesModel" 332 y_R_isThere prog_12_method_11_code 2 (some .boolean) 1 := ⟨(big_t 1111 (by decide +kernel) (by decide +kernel)), (big_t 1113 (by decide +kernel) (by decide +kernel)), (big_p 67 (by decide +kernel) (by decide +kernel)), (big_t 12 (by decide +kernel) (by decide +kernel)), (big_t 1114 (by decide +kernel) (by decide +kernel)), ⟨rfl, by decide, by decide, by decide +kernel⟩⟩
theorem k_R_348 : CallV "PackLanesModel" 348 y_R_note prog_12_method_64_code 2 none 0 := ⟨(big_t 1136 (by decide +kernel) (by decide +kernel)), (big_t 1138 (by decide +kernel) (by decide +kernel)), (big_p 68 (by decide +kernel) (by decide +kernel)), (big_t 12 (by decide +kernel) (by decide +kernel)), (big_t 1139 (by decide +kernel) (by decide +kernel)), ⟨rfl, by decide, by decide, by decide +kernel⟩⟩
theorem k_R_354 : CallV "PackLanesModel" 354 y_R_isDependent prog_12_method_70_code 3 (some .boolean) 2 := ⟨(big_t 1168 (by decide +kernel) (by decide +kernel)), (big_t 1170 (by decide +kernel) (by decide +kernel)), (big_p 70 (by decide +kernel) (by decide +kernel)), (big_t 12 (by decide +kernel) (by decide +kernel)), (big_t 1171 (by decide +kernel) (by decide +kernel)), ⟨rfl, by decide, by decide, by decide +kernel⟩⟩
theorem k_R_357 : CallV "PackLanesModel" 357 y_R_isPackedAs prog_12_method_71_code 3 (some .boolean) 2 := ⟨(big_t 1172 (by decide +kernel) (by decide +kernel)), (big_t 1174 (by decide +kernel) (by decide +kernel)), (big_p 71 (by decide +kernel) (by decide +kernel)), (big_t 12 (by decide +kernel) (by decide +kernel)), (big_t 1175 (by decide +kernel) (by decide +kernel)), ⟨rfl, by decide, by decide, by decide +kernel⟩⟩
theorem k_R_368 : CallV "PackLanesModel" 368 y_R_judged prog_12_method_72_code 3 (some .boolean) 2 := ⟨(big_t 1164 (by decide +kernel) (by decide +kernel)), (big_t 1166 (by decide +kernel) (by decide +kernel)), (big_p 69 (by decide +kernel) (by decide +kernel)), (big_t 12 (by decide +kernel) (by decide +kernel)), (big_t 1167 (by decide +kernel) (by decide +kernel)), ⟨rfl, by decide, by decide, by decide +kernel⟩⟩
theorem k_R_371 : CallV "PackLanesModel" 371 y_R_layStores prog_12_method_78_code 3 (some .int) 0 := ⟨(big_t 1192 (by decide +kernel) (by decide +kernel)), (big_t 1194 (by decide +kernel) (by decide +kernel)), (big_p 72 (by decide +kernel) (by decide +kernel)), (big_t 12 (by decide +kernel) (by decide +kernel)), (big_t 1195 (by decide +kernel) (by decide +kernel)), ⟨rfl, by decide, by decide, by decide +kernel⟩⟩
theorem k_R_374 : CallV "PackLanesModel" 374 y_R_gainsBy prog_12_method_79_code 5 (some .int) 2 := ⟨(big_t 1196 (by decide +kernel) (by decide +kernel)), (big_t 1198 (by decide +kernel) (by decide +kernel)), (big_p 73 (by decide +kernel) (by decide +kernel)), (big_t 12 (by decide +kernel) (by decide +kernel)), (big_t 1199 (by decide +kernel) (by decide +kernel)), ⟨rfl, by decide, by decide, by decide +kernel⟩⟩
theorem w_ac_Acts_22 : Cond.methodLink "PackLanes$Acts" 22 arraycopyName ∈ BIG := (big_t 614 (by decide +kernel) (by decide +kernel))
theorem w_ac_Mach_50 : Cond.methodLink "PackLanes$Machine" 50 arraycopyName ∈ BIG := (big_t 574 (by decide +kernel) (by decide +kernel))
theorem w_ac_Slots_20 : Cond.methodLink "PackLanes$Slots" 20 arraycopyName ∈ BIG := (big_t 730 (by decide +kernel) (by decide +kernel))
theorem w_ac_PL_210 : Cond.methodLink "PackLanes" 210 arraycopyName ∈ BIG := (big_t 590 (by decide +kernel) (by decide +kernel))
theorem w_c_Int_265 : Cond.constant "java/lang/Integer" 265 1431655765 ∈ BIG := (big_t 368 (by decide +kernel) (by decide +kernel))
theorem w_c_Int_266 : Cond.constant "java/lang/Integer" 266 858993459 ∈ BIG := (big_t 369 (by decide +kernel) (by decide +kernel))
theorem w_c_Int_267 : Cond.constant "java/lang/Integer" 267 252645135 ∈ BIG := (big_t 370 (by decide +kernel) (by decide +kernel))
theorem w_cl_PL_204 : Cond.constantLong "PackLanes" 204 100000 ∈ BIG := (big_t 644 (by decide +kernel) (by decide +kernel))
theorem w_cl_PL_244 : Cond.constantLong "PackLanes" 244 10 ∈ BIG := (big_t 707 (by decide +kernel) (by decide +kernel))
theorem w_cl_PL_266 : Cond.constantLong "PackLanes" 266 6364136223846793005 ∈ BIG := (big_t 720 (by decide +kernel) (by decide +kernel))
theorem w_cl_PL_268 : Cond.constantLong "PackLanes" 268 1442695040888963407 ∈ BIG := (big_t 721 (by decide +kernel) (by decide +kernel))
theorem w_cl_R_107 : Cond.constantLong "PackLanesModel" 107 15 ∈ BIG := (big_t 1125 (by decide +kernel) (by decide +kernel))
theorem w_cl_R_109 : Cond.constantLong "PackLanesModel" 109 255 ∈ BIG := (big_t 903 (by decide +kernel) (by decide +kernel))
theorem w_cl_R_123 : Cond.constantLong "PackLanesModel" 123 8 ∈ BIG := (big_t 923 (by decide +kernel) (by decide +kernel))
theorem w_cl_R_142 : Cond.constantLong "PackLanesModel" 142 48 ∈ BIG := (big_t 939 (by decide +kernel) (by decide +kernel))
theorem w_cl_R_144 : Cond.constantLong "PackLanesModel" 144 57 ∈ BIG := (big_t 940 (by decide +kernel) (by decide +kernel))
theorem w_cl_R_150 : Cond.constantLong "PackLanesModel" 150 65 ∈ BIG := (big_t 945 (by decide +kernel) (by decide +kernel))
theorem w_cl_R_152 : Cond.constantLong "PackLanesModel" 152 66 ∈ BIG := (big_t 946 (by decide +kernel) (by decide +kernel))
theorem w_cl_R_154 : Cond.constantLong "PackLanesModel" 154 55 ∈ BIG := (big_t 947 (by decide +kernel) (by decide +kernel))
theorem w_cl_R_176 : Cond.constantLong "PackLanesModel" 176 2 ∈ BIG := (big_t 1010 (by decide +kernel) (by decide +kernel))
theorem w_cl_R_178 : Cond.constantLong "PackLanesModel" 178 5 ∈ BIG := (big_t 1011 (by decide +kernel) (by decide +kernel))
theorem w_cl_R_344 : Cond.constantLong "PackLanesModel" 344 (-99) ∈ BIG := (big_t 1134 (by decide +kernel) (by decide +kernel))
theorem w_cl_R_346 : Cond.constantLong "PackLanesModel" 346 99 ∈ BIG := (big_t 1135 (by decide +kernel) (by decide +kernel))
theorem w_cl_R_360 : Cond.constantLong "PackLanesModel" 360 100000 ∈ BIG := (big_t 1163 (by decide +kernel) (by decide +kernel))
theorem w_cl_R_362 : Cond.constantLong "PackLanesModel" 362 3 ∈ BIG := (big_t 1159 (by decide +kernel) (by decide +kernel))
theorem w_cl_R_385 : Cond.constantLong "PackLanesModel" 385 10 ∈ BIG := (big_t 1210 (by decide +kernel) (by decide +kernel))
theorem w_cl_R_394 : Cond.constantLong "PackLanesModel" 394 6364136223846793005 ∈ BIG := (big_t 1222 (by decide +kernel) (by decide +kernel))
theorem w_cl_R_396 : Cond.constantLong "PackLanesModel" 396 1442695040888963407 ∈ BIG := (big_t 1223 (by decide +kernel) (by decide +kernel))
theorem f_Acts_15 : FldOK "PackLanes$Acts" 15 0 1 (.array .int) 1 := ⟨KR0, KT0, 3, Kt0, by decide, rfl, by decide, Ki0, Kp0, Kn0, (big_t 95 (by decide +kernel) (by decide +kernel)), by decide +kernel, (fun h => absurd h (by decide)), (fun _ => ⟨rfl, rfl⟩)⟩
theorem f_Acts_18 : FldOK "PackLanes$Acts" 18 0 2 .int 0 := ⟨KR0, KT0, 3, Kt0, by decide, rfl, by decide, Ki0, Kp0, Kn0, (big_t 96 (by decide +kernel) (by decide +kernel)), by decide +kernel, (fun _ => rfl), (fun h => absurd h (by decide))⟩
theorem f_Acts_9 : FldOK "PackLanes$Acts" 9 0 0 (.array .int) 1 := ⟨KR0, KT0, 3, Kt0, by decide, rfl, by decide, Ki0, Kp0, Kn0, (big_t 94 (by decide +kernel) (by decide +kernel)), by decide +kernel, (fun h => absurd h (by decide)), (fun _ => ⟨rfl, rfl⟩)⟩
theorem f_Code_15 : FldOK "PackLanes$Code" 15 1 1 (.array .int) 1 := ⟨KR1, KT1, 7, Kt1, by decide, rfl, by decide, Ki1, Kp1, Kn1, (big_t 53 (by decide +kernel) (by decide +kernel)), by decide +kernel, (fun h => absurd h (by decide)), (fun _ => ⟨rfl, rfl⟩)⟩
theorem f_Code_18 : FldOK "PackLanes$Code" 18 1 2 (.array .int) 1 := ⟨KR1, KT1, 7, Kt1, by decide, rfl, by decide, Ki1, Kp1, Kn1, (big_t 56 (by decide +kernel) (by decide +kernel)), by decide +kernel, (fun h => absurd h (by decide)), (fun _ => ⟨rfl, rfl⟩)⟩
theorem f_Code_21 : FldOK "PackLanes$Code" 21 1 3 (.array .int) 1 := ⟨KR1, KT1, 7, Kt1, by decide, rfl, by decide, Ki1, Kp1, Kn1, (big_t 59 (by decide +kernel) (by decide +kernel)), by decide +kernel, (fun h => absurd h (by decide)), (fun _ => ⟨rfl, rfl⟩)⟩
theorem f_Code_24 : FldOK "PackLanes$Code" 24 1 4 (.array .int) 1 := ⟨KR1, KT1, 7, Kt1, by decide, rfl, by decide, Ki1, Kp1, Kn1, (big_t 61 (by decide +kernel) (by decide +kernel)), by decide +kernel, (fun h => absurd h (by decide)), (fun _ => ⟨rfl, rfl⟩)⟩
theorem f_Code_27 : FldOK "PackLanes$Code" 27 1 5 (.array .int) 1 := ⟨KR1, KT1, 7, Kt1, by decide, rfl, by decide, Ki1, Kp1, Kn1, (big_t 64 (by decide +kernel) (by decide +kernel)), by decide +kernel, (fun h => absurd h (by decide)), (fun _ => ⟨rfl, rfl⟩)⟩
theorem f_Code_30 : FldOK "PackLanes$Code" 30 1 6 .int 0 := ⟨KR1, KT1, 7, Kt1, by decide, rfl, by decide, Ki1, Kp1, Kn1, (big_t 67 (by decide +kernel) (by decide +kernel)), by decide +kernel, (fun _ => rfl), (fun h => absurd h (by decide))⟩
theorem f_Code_9 : FldOK "PackLanes$Code" 9 1 0 (.array .int) 1 := ⟨KR1, KT1, 7, Kt1, by decide, rfl, by decide, Ki1, Kp1, Kn1, (big_t 47 (by decide +kernel) (by decide +kernel)), by decide +kernel, (fun h => absurd h (by decide)), (fun _ => ⟨rfl, rfl⟩)⟩
theorem f_Links_15 : FldOK "PackLanes$Links" 15 2 2 (.array .int) 1 := ⟨KR2, KT2, 5, Kt2, by decide, rfl, by decide, Ki2, Kp2, Kn2, (big_t 154 (by decide +kernel) (by decide +kernel)), by decide +kernel, (fun h => absurd h (by decide)), (fun _ => ⟨rfl, rfl⟩)⟩
theorem f_Links_18 : FldOK "PackLanes$Links" 18 2 3 (.array .int) 1 := ⟨KR2, KT2, 5, Kt2, by decide, rfl, by decide, Ki2, Kp2, Kn2, (big_t 156 (by decide +kernel) (by decide +kernel)), by decide +kernel, (fun h => absurd h (by decide)), (fun _ => ⟨rfl, rfl⟩)⟩
theorem f_Links_21 : FldOK "PackLanes$Links" 21 2 4 .int 0 := ⟨KR2, KT2, 5, Kt2, by decide, rfl, by decide, Ki2, Kp2, Kn2, (big_t 158 (by decide +kernel) (by decide +kernel)), by decide +kernel, (fun _ => rfl), (fun h => absurd h (by decide))⟩
theorem f_Links_25 : FldOK "PackLanes$Links" 25 2 0 (.object "PackLanes$Code") 1 := ⟨KR2, KT2, 5, Kt2, by decide, rfl, by decide, Ki2, Kp2, Kn2, (big_t 151 (by decide +kernel) (by decide +kernel)), by decide +kernel, (fun h => absurd h (by decide)), (fun _ => ⟨rfl, rfl⟩)⟩
theorem f_Links_29 : FldOK "PackLanes$Links" 29 1 6 .int 0 := ⟨KR1, KT1, 7, Kt1, by decide, rfl, by decide, Ki1, Kp1, Kn1, (big_t 69 (by decide +kernel) (by decide +kernel)), by decide +kernel, (fun _ => rfl), (fun h => absurd h (by decide))⟩
theorem f_Links_57 : FldOK "PackLanes$Links" 57 1 0 (.array .int) 2 := ⟨KR1, KT1, 7, Kt1, by decide, rfl, by decide, Ki1, Kp1, Kn1, (big_t 49 (by decide +kernel) (by decide +kernel)), by decide +kernel, (fun h => absurd h (by decide)), (fun h => absurd h (by decide))⟩
theorem f_Links_60 : FldOK "PackLanes$Links" 60 1 1 (.array .int) 2 := ⟨KR1, KT1, 7, Kt1, by decide, rfl, by decide, Ki1, Kp1, Kn1, (big_t 54 (by decide +kernel) (by decide +kernel)), by decide +kernel, (fun h => absurd h (by decide)), (fun h => absurd h (by decide))⟩
theorem f_Links_63 : FldOK "PackLanes$Links" 63 1 2 (.array .int) 2 := ⟨KR1, KT1, 7, Kt1, by decide, rfl, by decide, Ki1, Kp1, Kn1, (big_t 57 (by decide +kernel) (by decide +kernel)), by decide +kernel, (fun h => absurd h (by decide)), (fun h => absurd h (by decide))⟩
theorem f_Links_9 : FldOK "PackLanes$Links" 9 2 1 (.array .int) 1 := ⟨KR2, KT2, 5, Kt2, by decide, rfl, by decide, Ki2, Kp2, Kn2, (big_t 152 (by decide +kernel) (by decide +kernel)), by decide +kernel, (fun h => absurd h (by decide)), (fun _ => ⟨rfl, rfl⟩)⟩
theorem f_Mach_15 : FldOK "PackLanes$Machine" 15 3 2 (.array .int) 1 := ⟨KR3, KT3, 5, Kt3, by decide, rfl, by decide, Ki3, Kp3, Kn3, (big_t 276 (by decide +kernel) (by decide +kernel)), by decide +kernel, (fun h => absurd h (by decide)), (fun _ => ⟨rfl, rfl⟩)⟩
theorem f_Mach_18 : FldOK "PackLanes$Machine" 18 3 3 .int 0 := ⟨KR3, KT3, 5, Kt3, by decide, rfl, by decide, Ki3, Kp3, Kn3, (big_t 278 (by decide +kernel) (by decide +kernel)), by decide +kernel, (fun _ => rfl), (fun h => absurd h (by decide))⟩
theorem f_Mach_22 : FldOK "PackLanes$Machine" 22 3 4 .int 0 := ⟨KR3, KT3, 5, Kt3, by decide, rfl, by decide, Ki3, Kp3, Kn3, (big_t 280 (by decide +kernel) (by decide +kernel)), by decide +kernel, (fun _ => rfl), (fun h => absurd h (by decide))⟩
theorem f_Mach_25 : FldOK "PackLanes$Machine" 25 3 0 (.object "PackLanes$Code") 1 := ⟨KR3, KT3, 5, Kt3, by decide, rfl, by decide, Ki3, Kp3, Kn3, (big_t 273 (by decide +kernel) (by decide +kernel)), by decide +kernel, (fun h => absurd h (by decide)), (fun _ => ⟨rfl, rfl⟩)⟩
theorem f_Mach_33 : FldOK "PackLanes$Machine" 33 1 6 .int 0 := ⟨KR1, KT1, 7, Kt1, by decide, rfl, by decide, Ki1, Kp1, Kn1, (big_t 68 (by decide +kernel) (by decide +kernel)), by decide +kernel, (fun _ => rfl), (fun h => absurd h (by decide))⟩
theorem f_Mach_42 : FldOK "PackLanes$Machine" 42 4 9 .int 0 := ⟨KR4, KT4, 14, Kt4, by decide, rfl, by decide, Ki4, Kp4, Kn4, (big_t 229 (by decide +kernel) (by decide +kernel)), by decide +kernel, (fun _ => rfl), (fun h => absurd h (by decide))⟩
theorem f_Mach_47 : FldOK "PackLanes$Machine" 47 4 8 (.array .int) 2 := ⟨KR4, KT4, 14, Kt4, by decide, rfl, by decide, Ki4, Kp4, Kn4, (big_t 227 (by decide +kernel) (by decide +kernel)), by decide +kernel, (fun h => absurd h (by decide)), (fun h => absurd h (by decide))⟩
theorem f_Mach_56 : FldOK "PackLanes$Machine" 56 1 4 (.array .int) 2 := ⟨KR1, KT1, 7, Kt1, by decide, rfl, by decide, Ki1, Kp1, Kn1, (big_t 62 (by decide +kernel) (by decide +kernel)), by decide +kernel, (fun h => absurd h (by decide)), (fun h => absurd h (by decide))⟩
theorem f_Mach_59 : FldOK "PackLanes$Machine" 59 1 5 (.array .int) 2 := ⟨KR1, KT1, 7, Kt1, by decide, rfl, by decide, Ki1, Kp1, Kn1, (big_t 65 (by decide +kernel) (by decide +kernel)), by decide +kernel, (fun h => absurd h (by decide)), (fun h => absurd h (by decide))⟩
theorem f_Mach_62 : FldOK "PackLanes$Machine" 62 1 0 (.array .int) 2 := ⟨KR1, KT1, 7, Kt1, by decide, rfl, by decide, Ki1, Kp1, Kn1, (big_t 50 (by decide +kernel) (by decide +kernel)), by decide +kernel, (fun h => absurd h (by decide)), (fun h => absurd h (by decide))⟩
theorem f_Mach_69 : FldOK "PackLanes$Machine" 69 1 3 (.array .int) 2 := ⟨KR1, KT1, 7, Kt1, by decide, rfl, by decide, Ki1, Kp1, Kn1, (big_t 60 (by decide +kernel) (by decide +kernel)), by decide +kernel, (fun h => absurd h (by decide)), (fun h => absurd h (by decide))⟩
theorem f_Mach_9 : FldOK "PackLanes$Machine" 9 3 1 (.array .int) 1 := ⟨KR3, KT3, 5, Kt3, by decide, rfl, by decide, Ki3, Kp3, Kn3, (big_t 274 (by decide +kernel) (by decide +kernel)), by decide +kernel, (fun h => absurd h (by decide)), (fun _ => ⟨rfl, rfl⟩)⟩
theorem f_Pack_106 : FldOK "PackLanes$Packer" 106 1 6 .int 0 := ⟨KR1, KT1, 7, Kt1, by decide, rfl, by decide, Ki1, Kp1, Kn1, (big_t 72 (by decide +kernel) (by decide +kernel)), by decide +kernel, (fun _ => rfl), (fun h => absurd h (by decide))⟩
theorem f_Pack_111 : FldOK "PackLanes$Packer" 111 1 0 (.array .int) 2 := ⟨KR1, KT1, 7, Kt1, by decide, rfl, by decide, Ki1, Kp1, Kn1, (big_t 51 (by decide +kernel) (by decide +kernel)), by decide +kernel, (fun h => absurd h (by decide)), (fun h => absurd h (by decide))⟩
theorem f_Pack_114 : FldOK "PackLanes$Packer" 114 1 1 (.array .int) 2 := ⟨KR1, KT1, 7, Kt1, by decide, rfl, by decide, Ki1, Kp1, Kn1, (big_t 55 (by decide +kernel) (by decide +kernel)), by decide +kernel, (fun h => absurd h (by decide)), (fun h => absurd h (by decide))⟩
theorem f_Pack_117 : FldOK "PackLanes$Packer" 117 1 2 (.array .int) 2 := ⟨KR1, KT1, 7, Kt1, by decide, rfl, by decide, Ki1, Kp1, Kn1, (big_t 58 (by decide +kernel) (by decide +kernel)), by decide +kernel, (fun h => absurd h (by decide)), (fun h => absurd h (by decide))⟩
theorem f_Pack_120 : FldOK "PackLanes$Packer" 120 2 4 .int 0 := ⟨KR2, KT2, 5, Kt2, by decide, rfl, by decide, Ki2, Kp2, Kn2, (big_t 159 (by decide +kernel) (by decide +kernel)), by decide +kernel, (fun _ => rfl), (fun h => absurd h (by decide))⟩
theorem f_Pack_130 : FldOK "PackLanes$Packer" 130 8 3 .int 0 := ⟨KR8, KT8, 11, Kt8, by decide, rfl, by decide, Ki8, Kp8, Kn8, (big_t 182 (by decide +kernel) (by decide +kernel)), by decide +kernel, (fun _ => rfl), (fun h => absurd h (by decide))⟩
theorem f_Pack_133 : FldOK "PackLanes$Packer" 133 8 2 (.array .int) 2 := ⟨KR8, KT8, 11, Kt8, by decide, rfl, by decide, Ki8, Kp8, Kn8, (big_t 180 (by decide +kernel) (by decide +kernel)), by decide +kernel, (fun h => absurd h (by decide)), (fun h => absurd h (by decide))⟩
theorem f_Pack_138 : FldOK "PackLanes$Packer" 138 8 4 .int 0 := ⟨KR8, KT8, 11, Kt8, by decide, rfl, by decide, Ki8, Kp8, Kn8, (big_t 184 (by decide +kernel) (by decide +kernel)), by decide +kernel, (fun _ => rfl), (fun h => absurd h (by decide))⟩
theorem f_Pack_15 : FldOK "PackLanes$Packer" 15 4 4 (.array .int) 1 := ⟨KR4, KT4, 14, Kt4, by decide, rfl, by decide, Ki4, Kp4, Kn4, (big_t 219 (by decide +kernel) (by decide +kernel)), by decide +kernel, (fun h => absurd h (by decide)), (fun _ => ⟨rfl, rfl⟩)⟩
theorem f_Pack_153 : FldOK "PackLanes$Packer" 153 2 1 (.array .int) 2 := ⟨KR2, KT2, 5, Kt2, by decide, rfl, by decide, Ki2, Kp2, Kn2, (big_t 153 (by decide +kernel) (by decide +kernel)), by decide +kernel, (fun h => absurd h (by decide)), (fun h => absurd h (by decide))⟩
theorem f_Pack_19 : FldOK "PackLanes$Packer" 19 4 5 (.array .int) 1 := ⟨KR4, KT4, 14, Kt4, by decide, rfl, by decide, Ki4, Kp4, Kn4, (big_t 220 (by decide +kernel) (by decide +kernel)), by decide +kernel, (fun h => absurd h (by decide)), (fun _ => ⟨rfl, rfl⟩)⟩
theorem f_Pack_22 : FldOK "PackLanes$Packer" 22 4 6 (.array .int) 1 := ⟨KR4, KT4, 14, Kt4, by decide, rfl, by decide, Ki4, Kp4, Kn4, (big_t 222 (by decide +kernel) (by decide +kernel)), by decide +kernel, (fun h => absurd h (by decide)), (fun _ => ⟨rfl, rfl⟩)⟩
theorem f_Pack_25 : FldOK "PackLanes$Packer" 25 4 7 (.array .int) 1 := ⟨KR4, KT4, 14, Kt4, by decide, rfl, by decide, Ki4, Kp4, Kn4, (big_t 224 (by decide +kernel) (by decide +kernel)), by decide +kernel, (fun h => absurd h (by decide)), (fun _ => ⟨rfl, rfl⟩)⟩
theorem f_Pack_28 : FldOK "PackLanes$Packer" 28 4 8 (.array .int) 1 := ⟨KR4, KT4, 14, Kt4, by decide, rfl, by decide, Ki4, Kp4, Kn4, (big_t 226 (by decide +kernel) (by decide +kernel)), by decide +kernel, (fun h => absurd h (by decide)), (fun _ => ⟨rfl, rfl⟩)⟩
theorem f_Pack_31 : FldOK "PackLanes$Packer" 31 4 9 .int 0 := ⟨KR4, KT4, 14, Kt4, by decide, rfl, by decide, Ki4, Kp4, Kn4, (big_t 228 (by decide +kernel) (by decide +kernel)), by decide +kernel, (fun _ => rfl), (fun h => absurd h (by decide))⟩
theorem f_Pack_34 : FldOK "PackLanes$Packer" 34 4 10 .int 0 := ⟨KR4, KT4, 14, Kt4, by decide, rfl, by decide, Ki4, Kp4, Kn4, (big_t 230 (by decide +kernel) (by decide +kernel)), by decide +kernel, (fun _ => rfl), (fun h => absurd h (by decide))⟩
theorem f_Pack_37 : FldOK "PackLanes$Packer" 37 4 11 .int 0 := ⟨KR4, KT4, 14, Kt4, by decide, rfl, by decide, Ki4, Kp4, Kn4, (big_t 232 (by decide +kernel) (by decide +kernel)), by decide +kernel, (fun _ => rfl), (fun h => absurd h (by decide))⟩
theorem f_Pack_40 : FldOK "PackLanes$Packer" 40 4 12 .int 0 := ⟨KR4, KT4, 14, Kt4, by decide, rfl, by decide, Ki4, Kp4, Kn4, (big_t 234 (by decide +kernel) (by decide +kernel)), by decide +kernel, (fun _ => rfl), (fun h => absurd h (by decide))⟩
theorem f_Pack_43 : FldOK "PackLanes$Packer" 43 4 13 .int 0 := ⟨KR4, KT4, 14, Kt4, by decide, rfl, by decide, Ki4, Kp4, Kn4, (big_t 236 (by decide +kernel) (by decide +kernel)), by decide +kernel, (fun _ => rfl), (fun h => absurd h (by decide))⟩
theorem f_Pack_46 : FldOK "PackLanes$Packer" 46 4 0 (.object "PackLanes$Code") 1 := ⟨KR4, KT4, 14, Kt4, by decide, rfl, by decide, Ki4, Kp4, Kn4, (big_t 214 (by decide +kernel) (by decide +kernel)), by decide +kernel, (fun h => absurd h (by decide)), (fun _ => ⟨rfl, rfl⟩)⟩
theorem f_Pack_55 : FldOK "PackLanes$Packer" 55 4 1 (.object "PackLanes$Links") 1 := ⟨KR4, KT4, 14, Kt4, by decide, rfl, by decide, Ki4, Kp4, Kn4, (big_t 215 (by decide +kernel) (by decide +kernel)), by decide +kernel, (fun h => absurd h (by decide)), (fun _ => ⟨rfl, rfl⟩)⟩
theorem f_Pack_64 : FldOK "PackLanes$Packer" 64 4 2 (.object "PackLanes$Tree") 1 := ⟨KR4, KT4, 14, Kt4, by decide, rfl, by decide, Ki4, Kp4, Kn4, (big_t 217 (by decide +kernel) (by decide +kernel)), by decide +kernel, (fun h => absurd h (by decide)), (fun _ => ⟨rfl, rfl⟩)⟩
theorem f_Pack_9 : FldOK "PackLanes$Packer" 9 4 3 .int 0 := ⟨KR4, KT4, 14, Kt4, by decide, rfl, by decide, Ki4, Kp4, Kn4, (big_t 218 (by decide +kernel) (by decide +kernel)), by decide +kernel, (fun _ => rfl), (fun h => absurd h (by decide))⟩
theorem f_Sights_15 : FldOK "PackLanes$Sights" 15 5 1 (.array .int) 1 := ⟨KR5, KT5, 3, Kt5, by decide, rfl, by decide, Ki5, Kp5, Kn5, (big_t 129 (by decide +kernel) (by decide +kernel)), by decide +kernel, (fun h => absurd h (by decide)), (fun _ => ⟨rfl, rfl⟩)⟩
theorem f_Sights_18 : FldOK "PackLanes$Sights" 18 5 2 .int 0 := ⟨KR5, KT5, 3, Kt5, by decide, rfl, by decide, Ki5, Kp5, Kn5, (big_t 130 (by decide +kernel) (by decide +kernel)), by decide +kernel, (fun _ => rfl), (fun h => absurd h (by decide))⟩
theorem f_Sights_9 : FldOK "PackLanes$Sights" 9 5 0 (.array .int) 1 := ⟨KR5, KT5, 3, Kt5, by decide, rfl, by decide, Ki5, Kp5, Kn5, (big_t 128 (by decide +kernel) (by decide +kernel)), by decide +kernel, (fun h => absurd h (by decide)), (fun _ => ⟨rfl, rfl⟩)⟩
theorem f_Slots_17 : FldOK "PackLanes$Slots" 17 6 1 (.array (.array .int)) 1 := ⟨KR6, KT6, 2, Kt6, by decide, rfl, by decide, Ki6, Kp6, Kn6, (big_t 115 (by decide +kernel) (by decide +kernel)), by decide +kernel, (fun h => absurd h (by decide)), (fun _ => ⟨rfl, rfl⟩)⟩
theorem f_Slots_9 : FldOK "PackLanes$Slots" 9 6 0 (.array .boolean) 1 := ⟨KR6, KT6, 2, Kt6, by decide, rfl, by decide, Ki6, Kp6, Kn6, (big_t 113 (by decide +kernel) (by decide +kernel)), by decide +kernel, (fun h => absurd h (by decide)), (fun _ => ⟨rfl, rfl⟩)⟩
theorem f_Src_15 : FldOK "PackLanes$Source" 15 7 1 (.array .int) 1 := ⟨KR7, KT7, 3, Kt7, by decide, rfl, by decide, Ki7, Kp7, Kn7, (big_t 30 (by decide +kernel) (by decide +kernel)), by decide +kernel, (fun h => absurd h (by decide)), (fun _ => ⟨rfl, rfl⟩)⟩
theorem f_Src_18 : FldOK "PackLanes$Source" 18 7 2 .int 0 := ⟨KR7, KT7, 3, Kt7, by decide, rfl, by decide, Ki7, Kp7, Kn7, (big_t 31 (by decide +kernel) (by decide +kernel)), by decide +kernel, (fun _ => rfl), (fun h => absurd h (by decide))⟩
theorem f_Src_9 : FldOK "PackLanes$Source" 9 7 0 (.array .int) 1 := ⟨KR7, KT7, 3, Kt7, by decide, rfl, by decide, Ki7, Kp7, Kn7, (big_t 29 (by decide +kernel) (by decide +kernel)), by decide +kernel, (fun h => absurd h (by decide)), (fun _ => ⟨rfl, rfl⟩)⟩
theorem f_Tree_107 : FldOK "PackLanes$Tree" 107 1 5 (.array .int) 2 := ⟨KR1, KT1, 7, Kt1, by decide, rfl, by decide, Ki1, Kp1, Kn1, (big_t 66 (by decide +kernel) (by decide +kernel)), by decide +kernel, (fun h => absurd h (by decide)), (fun h => absurd h (by decide))⟩
theorem f_Tree_11 : FldOK "PackLanes$Tree" 11 8 2 (.array .int) 1 := ⟨KR8, KT8, 11, Kt8, by decide, rfl, by decide, Ki8, Kp8, Kn8, (big_t 179 (by decide +kernel) (by decide +kernel)), by decide +kernel, (fun h => absurd h (by decide)), (fun _ => ⟨rfl, rfl⟩)⟩
theorem f_Tree_110 : FldOK "PackLanes$Tree" 110 1 4 (.array .int) 2 := ⟨KR1, KT1, 7, Kt1, by decide, rfl, by decide, Ki1, Kp1, Kn1, (big_t 63 (by decide +kernel) (by decide +kernel)), by decide +kernel, (fun h => absurd h (by decide)), (fun h => absurd h (by decide))⟩
theorem f_Tree_15 : FldOK "PackLanes$Tree" 15 8 3 .int 0 := ⟨KR8, KT8, 11, Kt8, by decide, rfl, by decide, Ki8, Kp8, Kn8, (big_t 181 (by decide +kernel) (by decide +kernel)), by decide +kernel, (fun _ => rfl), (fun h => absurd h (by decide))⟩
theorem f_Tree_19 : FldOK "PackLanes$Tree" 19 8 4 .int 0 := ⟨KR8, KT8, 11, Kt8, by decide, rfl, by decide, Ki8, Kp8, Kn8, (big_t 183 (by decide +kernel) (by decide +kernel)), by decide +kernel, (fun _ => rfl), (fun h => absurd h (by decide))⟩
theorem f_Tree_22 : FldOK "PackLanes$Tree" 22 8 5 (.array .int) 1 := ⟨KR8, KT8, 11, Kt8, by decide, rfl, by decide, Ki8, Kp8, Kn8, (big_t 185 (by decide +kernel) (by decide +kernel)), by decide +kernel, (fun h => absurd h (by decide)), (fun _ => ⟨rfl, rfl⟩)⟩
theorem f_Tree_25 : FldOK "PackLanes$Tree" 25 8 6 .int 0 := ⟨KR8, KT8, 11, Kt8, by decide, rfl, by decide, Ki8, Kp8, Kn8, (big_t 186 (by decide +kernel) (by decide +kernel)), by decide +kernel, (fun _ => rfl), (fun h => absurd h (by decide))⟩
theorem f_Tree_28 : FldOK "PackLanes$Tree" 28 8 7 .int 0 := ⟨KR8, KT8, 11, Kt8, by decide, rfl, by decide, Ki8, Kp8, Kn8, (big_t 187 (by decide +kernel) (by decide +kernel)), by decide +kernel, (fun _ => rfl), (fun h => absurd h (by decide))⟩
theorem f_Tree_31 : FldOK "PackLanes$Tree" 31 8 8 .int 0 := ⟨KR8, KT8, 11, Kt8, by decide, rfl, by decide, Ki8, Kp8, Kn8, (big_t 188 (by decide +kernel) (by decide +kernel)), by decide +kernel, (fun _ => rfl), (fun h => absurd h (by decide))⟩
theorem f_Tree_34 : FldOK "PackLanes$Tree" 34 8 9 .int 0 := ⟨KR8, KT8, 11, Kt8, by decide, rfl, by decide, Ki8, Kp8, Kn8, (big_t 189 (by decide +kernel) (by decide +kernel)), by decide +kernel, (fun _ => rfl), (fun h => absurd h (by decide))⟩
theorem f_Tree_37 : FldOK "PackLanes$Tree" 37 8 10 .int 0 := ⟨KR8, KT8, 11, Kt8, by decide, rfl, by decide, Ki8, Kp8, Kn8, (big_t 190 (by decide +kernel) (by decide +kernel)), by decide +kernel, (fun _ => rfl), (fun h => absurd h (by decide))⟩
theorem f_Tree_40 : FldOK "PackLanes$Tree" 40 8 0 (.object "PackLanes$Code") 1 := ⟨KR8, KT8, 11, Kt8, by decide, rfl, by decide, Ki8, Kp8, Kn8, (big_t 177 (by decide +kernel) (by decide +kernel)), by decide +kernel, (fun h => absurd h (by decide)), (fun _ => ⟨rfl, rfl⟩)⟩
theorem f_Tree_44 : FldOK "PackLanes$Tree" 44 8 1 (.object "PackLanes$Links") 1 := ⟨KR8, KT8, 11, Kt8, by decide, rfl, by decide, Ki8, Kp8, Kn8, (big_t 178 (by decide +kernel) (by decide +kernel)), by decide +kernel, (fun h => absurd h (by decide)), (fun _ => ⟨rfl, rfl⟩)⟩
theorem f_Tree_62 : FldOK "PackLanes$Tree" 62 1 6 .int 0 := ⟨KR1, KT1, 7, Kt1, by decide, rfl, by decide, Ki1, Kp1, Kn1, (big_t 70 (by decide +kernel) (by decide +kernel)), by decide +kernel, (fun _ => rfl), (fun h => absurd h (by decide))⟩
theorem f_Tree_71 : FldOK "PackLanes$Tree" 71 1 0 (.array .int) 2 := ⟨KR1, KT1, 7, Kt1, by decide, rfl, by decide, Ki1, Kp1, Kn1, (big_t 48 (by decide +kernel) (by decide +kernel)), by decide +kernel, (fun h => absurd h (by decide)), (fun h => absurd h (by decide))⟩
theorem f_Tree_78 : FldOK "PackLanes$Tree" 78 2 3 (.array .int) 2 := ⟨KR2, KT2, 5, Kt2, by decide, rfl, by decide, Ki2, Kp2, Kn2, (big_t 157 (by decide +kernel) (by decide +kernel)), by decide +kernel, (fun h => absurd h (by decide)), (fun h => absurd h (by decide))⟩
theorem f_PL_10 : FldOK "PackLanes" 10 9 0 (.object "PackLanes$Source") 1 := ⟨KR9, KT9, 14, Kt9, by decide, rfl, by decide, Ki9, Kp9, Kn9, (big_t 443 (by decide +kernel) (by decide +kernel)), by decide +kernel, (fun h => absurd h (by decide)), (fun _ => ⟨rfl, rfl⟩)⟩
theorem f_PL_106 : FldOK "PackLanes" 106 1 6 .int 0 := ⟨KR1, KT1, 7, Kt1, by decide, rfl, by decide, Ki1, Kp1, Kn1, (big_t 71 (by decide +kernel) (by decide +kernel)), by decide +kernel, (fun _ => rfl), (fun h => absurd h (by decide))⟩
theorem f_PL_113 : FldOK "PackLanes" 113 4 13 .int 0 := ⟨KR4, KT4, 14, Kt4, by decide, rfl, by decide, Ki4, Kp4, Kn4, (big_t 237 (by decide +kernel) (by decide +kernel)), by decide +kernel, (fun _ => rfl), (fun h => absurd h (by decide))⟩
theorem f_PL_116 : FldOK "PackLanes" 116 4 10 .int 0 := ⟨KR4, KT4, 14, Kt4, by decide, rfl, by decide, Ki4, Kp4, Kn4, (big_t 231 (by decide +kernel) (by decide +kernel)), by decide +kernel, (fun _ => rfl), (fun h => absurd h (by decide))⟩
theorem f_PL_119 : FldOK "PackLanes" 119 4 11 .int 0 := ⟨KR4, KT4, 14, Kt4, by decide, rfl, by decide, Ki4, Kp4, Kn4, (big_t 233 (by decide +kernel) (by decide +kernel)), by decide +kernel, (fun _ => rfl), (fun h => absurd h (by decide))⟩
theorem f_PL_122 : FldOK "PackLanes" 122 4 12 .int 0 := ⟨KR4, KT4, 14, Kt4, by decide, rfl, by decide, Ki4, Kp4, Kn4, (big_t 235 (by decide +kernel) (by decide +kernel)), by decide +kernel, (fun _ => rfl), (fun h => absurd h (by decide))⟩
theorem f_PL_128 : FldOK "PackLanes" 128 3 3 .int 0 := ⟨KR3, KT3, 5, Kt3, by decide, rfl, by decide, Ki3, Kp3, Kn3, (big_t 279 (by decide +kernel) (by decide +kernel)), by decide +kernel, (fun _ => rfl), (fun h => absurd h (by decide))⟩
theorem f_PL_138 : FldOK "PackLanes" 138 0 2 .int 0 := ⟨KR0, KT0, 3, Kt0, by decide, rfl, by decide, Ki0, Kp0, Kn0, (big_t 97 (by decide +kernel) (by decide +kernel)), by decide +kernel, (fun _ => rfl), (fun h => absurd h (by decide))⟩
theorem f_PL_139 : FldOK "PackLanes" 139 5 2 .int 0 := ⟨KR5, KT5, 3, Kt5, by decide, rfl, by decide, Ki5, Kp5, Kn5, (big_t 131 (by decide +kernel) (by decide +kernel)), by decide +kernel, (fun _ => rfl), (fun h => absurd h (by decide))⟩
theorem f_PL_147 : FldOK "PackLanes" 147 1 0 (.array .int) 2 := ⟨KR1, KT1, 7, Kt1, by decide, rfl, by decide, Ki1, Kp1, Kn1, (big_t 52 (by decide +kernel) (by decide +kernel)), by decide +kernel, (fun h => absurd h (by decide)), (fun h => absurd h (by decide))⟩
theorem f_PL_150 : FldOK "PackLanes" 150 4 5 (.array .int) 2 := ⟨KR4, KT4, 14, Kt4, by decide, rfl, by decide, Ki4, Kp4, Kn4, (big_t 221 (by decide +kernel) (by decide +kernel)), by decide +kernel, (fun h => absurd h (by decide)), (fun h => absurd h (by decide))⟩
theorem f_PL_153 : FldOK "PackLanes" 153 4 6 (.array .int) 2 := ⟨KR4, KT4, 14, Kt4, by decide, rfl, by decide, Ki4, Kp4, Kn4, (big_t 223 (by decide +kernel) (by decide +kernel)), by decide +kernel, (fun h => absurd h (by decide)), (fun h => absurd h (by decide))⟩
theorem f_PL_156 : FldOK "PackLanes" 156 4 7 (.array .int) 2 := ⟨KR4, KT4, 14, Kt4, by decide, rfl, by decide, Ki4, Kp4, Kn4, (big_t 225 (by decide +kernel) (by decide +kernel)), by decide +kernel, (fun h => absurd h (by decide)), (fun h => absurd h (by decide))⟩
theorem f_PL_159 : FldOK "PackLanes" 159 4 1 (.object "PackLanes$Links") 2 := ⟨KR4, KT4, 14, Kt4, by decide, rfl, by decide, Ki4, Kp4, Kn4, (big_t 216 (by decide +kernel) (by decide +kernel)), by decide +kernel, (fun h => absurd h (by decide)), (fun h => absurd h (by decide))⟩
theorem f_PL_163 : FldOK "PackLanes" 163 2 2 (.array .int) 2 := ⟨KR2, KT2, 5, Kt2, by decide, rfl, by decide, Ki2, Kp2, Kn2, (big_t 155 (by decide +kernel) (by decide +kernel)), by decide +kernel, (fun h => absurd h (by decide)), (fun h => absurd h (by decide))⟩
theorem f_PL_173 : FldOK "PackLanes" 173 3 2 (.array .int) 2 := ⟨KR3, KT3, 5, Kt3, by decide, rfl, by decide, Ki3, Kp3, Kn3, (big_t 277 (by decide +kernel) (by decide +kernel)), by decide +kernel, (fun h => absurd h (by decide)), (fun h => absurd h (by decide))⟩
theorem f_PL_176 : FldOK "PackLanes" 176 3 1 (.array .int) 2 := ⟨KR3, KT3, 5, Kt3, by decide, rfl, by decide, Ki3, Kp3, Kn3, (big_t 275 (by decide +kernel) (by decide +kernel)), by decide +kernel, (fun h => absurd h (by decide)), (fun h => absurd h (by decide))⟩
theorem f_PL_19 : FldOK "PackLanes" 19 9 1 (.object "PackLanes$Code") 1 := ⟨KR9, KT9, 14, Kt9, by decide, rfl, by decide, Ki9, Kp9, Kn9, (big_t 444 (by decide +kernel) (by decide +kernel)), by decide +kernel, (fun h => absurd h (by decide)), (fun _ => ⟨rfl, rfl⟩)⟩
theorem f_PL_23 : FldOK "PackLanes" 23 9 2 (.object "PackLanes$Code") 1 := ⟨KR9, KT9, 14, Kt9, by decide, rfl, by decide, Ki9, Kp9, Kn9, (big_t 445 (by decide +kernel) (by decide +kernel)), by decide +kernel, (fun h => absurd h (by decide)), (fun _ => ⟨rfl, rfl⟩)⟩
theorem f_PL_253 : FldOK "PackLanes" 253 6 0 (.array .boolean) 2 := ⟨KR6, KT6, 2, Kt6, by decide, rfl, by decide, Ki6, Kp6, Kn6, (big_t 114 (by decide +kernel) (by decide +kernel)), by decide +kernel, (fun h => absurd h (by decide)), (fun h => absurd h (by decide))⟩
theorem f_PL_26 : FldOK "PackLanes" 26 9 3 (.array .int) 1 := ⟨KR9, KT9, 14, Kt9, by decide, rfl, by decide, Ki9, Kp9, Kn9, (big_t 446 (by decide +kernel) (by decide +kernel)), by decide +kernel, (fun h => absurd h (by decide)), (fun _ => ⟨rfl, rfl⟩)⟩
theorem f_PL_30 : FldOK "PackLanes" 30 9 4 (.array .int) 1 := ⟨KR9, KT9, 14, Kt9, by decide, rfl, by decide, Ki9, Kp9, Kn9, (big_t 447 (by decide +kernel) (by decide +kernel)), by decide +kernel, (fun h => absurd h (by decide)), (fun _ => ⟨rfl, rfl⟩)⟩
theorem f_PL_33 : FldOK "PackLanes" 33 9 5 (.array .int) 1 := ⟨KR9, KT9, 14, Kt9, by decide, rfl, by decide, Ki9, Kp9, Kn9, (big_t 448 (by decide +kernel) (by decide +kernel)), by decide +kernel, (fun h => absurd h (by decide)), (fun _ => ⟨rfl, rfl⟩)⟩
theorem f_PL_39 : FldOK "PackLanes" 39 9 6 (.object "PackLanes$Acts") 1 := ⟨KR9, KT9, 14, Kt9, by decide, rfl, by decide, Ki9, Kp9, Kn9, (big_t 449 (by decide +kernel) (by decide +kernel)), by decide +kernel, (fun h => absurd h (by decide)), (fun _ => ⟨rfl, rfl⟩)⟩
theorem f_PL_46 : FldOK "PackLanes" 46 9 7 (.object "PackLanes$Slots") 1 := ⟨KR9, KT9, 14, Kt9, by decide, rfl, by decide, Ki9, Kp9, Kn9, (big_t 450 (by decide +kernel) (by decide +kernel)), by decide +kernel, (fun h => absurd h (by decide)), (fun _ => ⟨rfl, rfl⟩)⟩
theorem f_PL_53 : FldOK "PackLanes" 53 9 8 (.object "PackLanes$Sights") 1 := ⟨KR9, KT9, 14, Kt9, by decide, rfl, by decide, Ki9, Kp9, Kn9, (big_t 451 (by decide +kernel) (by decide +kernel)), by decide +kernel, (fun h => absurd h (by decide)), (fun _ => ⟨rfl, rfl⟩)⟩
theorem f_PL_62 : FldOK "PackLanes" 62 9 9 (.object "PackLanes$Packer") 1 := ⟨KR9, KT9, 14, Kt9, by decide, rfl, by decide, Ki9, Kp9, Kn9, (big_t 452 (by decide +kernel) (by decide +kernel)), by decide +kernel, (fun h => absurd h (by decide)), (fun _ => ⟨rfl, rfl⟩)⟩
theorem f_PL_66 : FldOK "PackLanes" 66 9 10 (.object "PackLanes$Packer") 1 := ⟨KR9, KT9, 14, Kt9, by decide, rfl, by decide, Ki9, Kp9, Kn9, (big_t 453 (by decide +kernel) (by decide +kernel)), by decide +kernel, (fun h => absurd h (by decide)), (fun _ => ⟨rfl, rfl⟩)⟩
theorem f_PL_72 : FldOK "PackLanes" 72 9 11 (.object "PackLanes$Machine") 1 := ⟨KR9, KT9, 14, Kt9, by decide, rfl, by decide, Ki9, Kp9, Kn9, (big_t 454 (by decide +kernel) (by decide +kernel)), by decide +kernel, (fun h => absurd h (by decide)), (fun _ => ⟨rfl, rfl⟩)⟩
theorem f_PL_76 : FldOK "PackLanes" 76 9 12 (.array .int) 1 := ⟨KR9, KT9, 14, Kt9, by decide, rfl, by decide, Ki9, Kp9, Kn9, (big_t 455 (by decide +kernel) (by decide +kernel)), by decide +kernel, (fun h => absurd h (by decide)), (fun _ => ⟨rfl, rfl⟩)⟩
theorem f_PL_79 : FldOK "PackLanes" 79 9 13 .long 0 := ⟨KR9, KT9, 14, Kt9, by decide, rfl, by decide, Ki9, Kp9, Kn9, (big_t 456 (by decide +kernel) (by decide +kernel)), by decide +kernel, (fun _ => rfl), (fun h => absurd h (by decide))⟩
theorem f_R_111 : FldOK "PackLanesModel" 111 10 1 .int 0 := ⟨KR10, KT10, 50, Kt10, by decide, rfl, by decide, Ki10, Kp10, Kn10, (big_t 749 (by decide +kernel) (by decide +kernel)), by decide +kernel, (fun _ => rfl), (fun h => absurd h (by decide))⟩
theorem f_R_114 : FldOK "PackLanesModel" 114 10 43 .int 0 := ⟨KR10, KT10, 50, Kt10, by decide, rfl, by decide, Ki10, Kp10, Kn10, (big_t 791 (by decide +kernel) (by decide +kernel)), by decide +kernel, (fun _ => rfl), (fun h => absurd h (by decide))⟩
theorem f_R_117 : FldOK "PackLanesModel" 117 10 49 .int 0 := ⟨KR10, KT10, 50, Kt10, by decide, rfl, by decide, Ki10, Kp10, Kn10, (big_t 797 (by decide +kernel) (by decide +kernel)), by decide +kernel, (fun _ => rfl), (fun h => absurd h (by decide))⟩
theorem f_R_120 : FldOK "PackLanesModel" 120 10 40 .int 0 := ⟨KR10, KT10, 50, Kt10, by decide, rfl, by decide, Ki10, Kp10, Kn10, (big_t 788 (by decide +kernel) (by decide +kernel)), by decide +kernel, (fun _ => rfl), (fun h => absurd h (by decide))⟩
theorem f_R_125 : FldOK "PackLanesModel" 125 10 41 .int 0 := ⟨KR10, KT10, 50, Kt10, by decide, rfl, by decide, Ki10, Kp10, Kn10, (big_t 789 (by decide +kernel) (by decide +kernel)), by decide +kernel, (fun _ => rfl), (fun h => absurd h (by decide))⟩
theorem f_R_128 : FldOK "PackLanesModel" 128 10 42 .int 0 := ⟨KR10, KT10, 50, Kt10, by decide, rfl, by decide, Ki10, Kp10, Kn10, (big_t 790 (by decide +kernel) (by decide +kernel)), by decide +kernel, (fun _ => rfl), (fun h => absurd h (by decide))⟩
theorem f_R_13 : FldOK "PackLanesModel" 13 10 3 (.array .int) 1 := ⟨KR10, KT10, 50, Kt10, by decide, rfl, by decide, Ki10, Kp10, Kn10, (big_t 751 (by decide +kernel) (by decide +kernel)), by decide +kernel, (fun h => absurd h (by decide)), (fun _ => ⟨rfl, rfl⟩)⟩
theorem f_R_131 : FldOK "PackLanesModel" 131 10 48 .int 0 := ⟨KR10, KT10, 50, Kt10, by decide, rfl, by decide, Ki10, Kp10, Kn10, (big_t 796 (by decide +kernel) (by decide +kernel)), by decide +kernel, (fun _ => rfl), (fun h => absurd h (by decide))⟩
theorem f_R_16 : FldOK "PackLanesModel" 16 10 4 (.array .int) 1 := ⟨KR10, KT10, 50, Kt10, by decide, rfl, by decide, Ki10, Kp10, Kn10, (big_t 752 (by decide +kernel) (by decide +kernel)), by decide +kernel, (fun h => absurd h (by decide)), (fun _ => ⟨rfl, rfl⟩)⟩
theorem f_R_173 : FldOK "PackLanesModel" 173 10 10 .int 0 := ⟨KR10, KT10, 50, Kt10, by decide, rfl, by decide, Ki10, Kp10, Kn10, (big_t 758 (by decide +kernel) (by decide +kernel)), by decide +kernel, (fun _ => rfl), (fun h => absurd h (by decide))⟩
theorem f_R_187 : FldOK "PackLanesModel" 187 10 18 .int 0 := ⟨KR10, KT10, 50, Kt10, by decide, rfl, by decide, Ki10, Kp10, Kn10, (big_t 766 (by decide +kernel) (by decide +kernel)), by decide +kernel, (fun _ => rfl), (fun h => absurd h (by decide))⟩
theorem f_R_19 : FldOK "PackLanesModel" 19 10 5 (.array .int) 1 := ⟨KR10, KT10, 50, Kt10, by decide, rfl, by decide, Ki10, Kp10, Kn10, (big_t 753 (by decide +kernel) (by decide +kernel)), by decide +kernel, (fun h => absurd h (by decide)), (fun _ => ⟨rfl, rfl⟩)⟩
theorem f_R_207 : FldOK "PackLanesModel" 207 10 19 .int 0 := ⟨KR10, KT10, 50, Kt10, by decide, rfl, by decide, Ki10, Kp10, Kn10, (big_t 767 (by decide +kernel) (by decide +kernel)), by decide +kernel, (fun _ => rfl), (fun h => absurd h (by decide))⟩
theorem f_R_210 : FldOK "PackLanesModel" 210 10 29 .int 0 := ⟨KR10, KT10, 50, Kt10, by decide, rfl, by decide, Ki10, Kp10, Kn10, (big_t 777 (by decide +kernel) (by decide +kernel)), by decide +kernel, (fun _ => rfl), (fun h => absurd h (by decide))⟩
theorem f_R_213 : FldOK "PackLanesModel" 213 10 31 .int 0 := ⟨KR10, KT10, 50, Kt10, by decide, rfl, by decide, Ki10, Kp10, Kn10, (big_t 779 (by decide +kernel) (by decide +kernel)), by decide +kernel, (fun _ => rfl), (fun h => absurd h (by decide))⟩
theorem f_R_22 : FldOK "PackLanesModel" 22 10 6 (.array .int) 1 := ⟨KR10, KT10, 50, Kt10, by decide, rfl, by decide, Ki10, Kp10, Kn10, (big_t 754 (by decide +kernel) (by decide +kernel)), by decide +kernel, (fun h => absurd h (by decide)), (fun _ => ⟨rfl, rfl⟩)⟩
theorem f_R_232 : FldOK "PackLanesModel" 232 10 33 .int 0 := ⟨KR10, KT10, 50, Kt10, by decide, rfl, by decide, Ki10, Kp10, Kn10, (big_t 781 (by decide +kernel) (by decide +kernel)), by decide +kernel, (fun _ => rfl), (fun h => absurd h (by decide))⟩
theorem f_R_238 : FldOK "PackLanesModel" 238 10 32 .int 0 := ⟨KR10, KT10, 50, Kt10, by decide, rfl, by decide, Ki10, Kp10, Kn10, (big_t 780 (by decide +kernel) (by decide +kernel)), by decide +kernel, (fun _ => rfl), (fun h => absurd h (by decide))⟩
theorem f_R_25 : FldOK "PackLanesModel" 25 10 7 (.array .int) 1 := ⟨KR10, KT10, 50, Kt10, by decide, rfl, by decide, Ki10, Kp10, Kn10, (big_t 755 (by decide +kernel) (by decide +kernel)), by decide +kernel, (fun h => absurd h (by decide)), (fun _ => ⟨rfl, rfl⟩)⟩
theorem f_R_253 : FldOK "PackLanesModel" 253 10 24 .int 0 := ⟨KR10, KT10, 50, Kt10, by decide, rfl, by decide, Ki10, Kp10, Kn10, (big_t 772 (by decide +kernel) (by decide +kernel)), by decide +kernel, (fun _ => rfl), (fun h => absurd h (by decide))⟩
theorem f_R_256 : FldOK "PackLanesModel" 256 10 25 .int 0 := ⟨KR10, KT10, 50, Kt10, by decide, rfl, by decide, Ki10, Kp10, Kn10, (big_t 773 (by decide +kernel) (by decide +kernel)), by decide +kernel, (fun _ => rfl), (fun h => absurd h (by decide))⟩
theorem f_R_259 : FldOK "PackLanesModel" 259 10 26 .int 0 := ⟨KR10, KT10, 50, Kt10, by decide, rfl, by decide, Ki10, Kp10, Kn10, (big_t 774 (by decide +kernel) (by decide +kernel)), by decide +kernel, (fun _ => rfl), (fun h => absurd h (by decide))⟩
theorem f_R_28 : FldOK "PackLanesModel" 28 10 8 (.array .int) 1 := ⟨KR10, KT10, 50, Kt10, by decide, rfl, by decide, Ki10, Kp10, Kn10, (big_t 756 (by decide +kernel) (by decide +kernel)), by decide +kernel, (fun h => absurd h (by decide)), (fun _ => ⟨rfl, rfl⟩)⟩
theorem f_R_293 : FldOK "PackLanesModel" 293 10 37 .int 0 := ⟨KR10, KT10, 50, Kt10, by decide, rfl, by decide, Ki10, Kp10, Kn10, (big_t 785 (by decide +kernel) (by decide +kernel)), by decide +kernel, (fun _ => rfl), (fun h => absurd h (by decide))⟩
theorem f_R_31 : FldOK "PackLanesModel" 31 10 9 (.array .int) 1 := ⟨KR10, KT10, 50, Kt10, by decide, rfl, by decide, Ki10, Kp10, Kn10, (big_t 757 (by decide +kernel) (by decide +kernel)), by decide +kernel, (fun h => absurd h (by decide)), (fun _ => ⟨rfl, rfl⟩)⟩
theorem f_R_326 : FldOK "PackLanesModel" 326 10 16 .int 0 := ⟨KR10, KT10, 50, Kt10, by decide, rfl, by decide, Ki10, Kp10, Kn10, (big_t 764 (by decide +kernel) (by decide +kernel)), by decide +kernel, (fun _ => rfl), (fun h => absurd h (by decide))⟩
theorem f_R_34 : FldOK "PackLanesModel" 34 10 12 (.array .int) 1 := ⟨KR10, KT10, 50, Kt10, by decide, rfl, by decide, Ki10, Kp10, Kn10, (big_t 760 (by decide +kernel) (by decide +kernel)), by decide +kernel, (fun h => absurd h (by decide)), (fun _ => ⟨rfl, rfl⟩)⟩
theorem f_R_341 : FldOK "PackLanesModel" 341 10 11 .int 0 := ⟨KR10, KT10, 50, Kt10, by decide, rfl, by decide, Ki10, Kp10, Kn10, (big_t 759 (by decide +kernel) (by decide +kernel)), by decide +kernel, (fun _ => rfl), (fun h => absurd h (by decide))⟩
theorem f_R_37 : FldOK "PackLanesModel" 37 10 13 (.array .boolean) 1 := ⟨KR10, KT10, 50, Kt10, by decide, rfl, by decide, Ki10, Kp10, Kn10, (big_t 761 (by decide +kernel) (by decide +kernel)), by decide +kernel, (fun h => absurd h (by decide)), (fun _ => ⟨rfl, rfl⟩)⟩
theorem f_R_390 : FldOK "PackLanesModel" 390 10 17 .long 0 := ⟨KR10, KT10, 50, Kt10, by decide, rfl, by decide, Ki10, Kp10, Kn10, (big_t 765 (by decide +kernel) (by decide +kernel)), by decide +kernel, (fun _ => rfl), (fun h => absurd h (by decide))⟩
theorem f_R_41 : FldOK "PackLanesModel" 41 10 14 (.array .int) 1 := ⟨KR10, KT10, 50, Kt10, by decide, rfl, by decide, Ki10, Kp10, Kn10, (big_t 762 (by decide +kernel) (by decide +kernel)), by decide +kernel, (fun h => absurd h (by decide)), (fun _ => ⟨rfl, rfl⟩)⟩
theorem f_R_44 : FldOK "PackLanesModel" 44 10 15 (.array .int) 1 := ⟨KR10, KT10, 50, Kt10, by decide, rfl, by decide, Ki10, Kp10, Kn10, (big_t 763 (by decide +kernel) (by decide +kernel)), by decide +kernel, (fun h => absurd h (by decide)), (fun _ => ⟨rfl, rfl⟩)⟩
theorem f_R_47 : FldOK "PackLanesModel" 47 10 20 (.array .int) 1 := ⟨KR10, KT10, 50, Kt10, by decide, rfl, by decide, Ki10, Kp10, Kn10, (big_t 768 (by decide +kernel) (by decide +kernel)), by decide +kernel, (fun h => absurd h (by decide)), (fun _ => ⟨rfl, rfl⟩)⟩
theorem f_R_50 : FldOK "PackLanesModel" 50 10 21 (.array .int) 1 := ⟨KR10, KT10, 50, Kt10, by decide, rfl, by decide, Ki10, Kp10, Kn10, (big_t 769 (by decide +kernel) (by decide +kernel)), by decide +kernel, (fun h => absurd h (by decide)), (fun _ => ⟨rfl, rfl⟩)⟩
theorem f_R_53 : FldOK "PackLanesModel" 53 10 22 (.array .int) 1 := ⟨KR10, KT10, 50, Kt10, by decide, rfl, by decide, Ki10, Kp10, Kn10, (big_t 770 (by decide +kernel) (by decide +kernel)), by decide +kernel, (fun h => absurd h (by decide)), (fun _ => ⟨rfl, rfl⟩)⟩
theorem f_R_56 : FldOK "PackLanesModel" 56 10 23 (.array .int) 1 := ⟨KR10, KT10, 50, Kt10, by decide, rfl, by decide, Ki10, Kp10, Kn10, (big_t 771 (by decide +kernel) (by decide +kernel)), by decide +kernel, (fun h => absurd h (by decide)), (fun _ => ⟨rfl, rfl⟩)⟩
theorem f_R_59 : FldOK "PackLanesModel" 59 10 27 (.array .int) 1 := ⟨KR10, KT10, 50, Kt10, by decide, rfl, by decide, Ki10, Kp10, Kn10, (big_t 775 (by decide +kernel) (by decide +kernel)), by decide +kernel, (fun h => absurd h (by decide)), (fun _ => ⟨rfl, rfl⟩)⟩
theorem f_R_62 : FldOK "PackLanesModel" 62 10 28 (.array .int) 1 := ⟨KR10, KT10, 50, Kt10, by decide, rfl, by decide, Ki10, Kp10, Kn10, (big_t 776 (by decide +kernel) (by decide +kernel)), by decide +kernel, (fun h => absurd h (by decide)), (fun _ => ⟨rfl, rfl⟩)⟩
theorem f_R_65 : FldOK "PackLanesModel" 65 10 30 (.array .int) 1 := ⟨KR10, KT10, 50, Kt10, by decide, rfl, by decide, Ki10, Kp10, Kn10, (big_t 778 (by decide +kernel) (by decide +kernel)), by decide +kernel, (fun h => absurd h (by decide)), (fun _ => ⟨rfl, rfl⟩)⟩
theorem f_R_68 : FldOK "PackLanesModel" 68 10 34 (.array .int) 1 := ⟨KR10, KT10, 50, Kt10, by decide, rfl, by decide, Ki10, Kp10, Kn10, (big_t 782 (by decide +kernel) (by decide +kernel)), by decide +kernel, (fun h => absurd h (by decide)), (fun _ => ⟨rfl, rfl⟩)⟩
theorem f_R_7 : FldOK "PackLanesModel" 7 10 0 (.array .int) 1 := ⟨KR10, KT10, 50, Kt10, by decide, rfl, by decide, Ki10, Kp10, Kn10, (big_t 748 (by decide +kernel) (by decide +kernel)), by decide +kernel, (fun h => absurd h (by decide)), (fun _ => ⟨rfl, rfl⟩)⟩
theorem f_R_71 : FldOK "PackLanesModel" 71 10 35 (.array .int) 1 := ⟨KR10, KT10, 50, Kt10, by decide, rfl, by decide, Ki10, Kp10, Kn10, (big_t 783 (by decide +kernel) (by decide +kernel)), by decide +kernel, (fun h => absurd h (by decide)), (fun _ => ⟨rfl, rfl⟩)⟩
theorem f_R_74 : FldOK "PackLanesModel" 74 10 36 (.array .int) 1 := ⟨KR10, KT10, 50, Kt10, by decide, rfl, by decide, Ki10, Kp10, Kn10, (big_t 784 (by decide +kernel) (by decide +kernel)), by decide +kernel, (fun h => absurd h (by decide)), (fun _ => ⟨rfl, rfl⟩)⟩
theorem f_R_77 : FldOK "PackLanesModel" 77 10 38 (.array .int) 1 := ⟨KR10, KT10, 50, Kt10, by decide, rfl, by decide, Ki10, Kp10, Kn10, (big_t 786 (by decide +kernel) (by decide +kernel)), by decide +kernel, (fun h => absurd h (by decide)), (fun _ => ⟨rfl, rfl⟩)⟩
theorem f_R_80 : FldOK "PackLanesModel" 80 10 39 (.array .int) 1 := ⟨KR10, KT10, 50, Kt10, by decide, rfl, by decide, Ki10, Kp10, Kn10, (big_t 787 (by decide +kernel) (by decide +kernel)), by decide +kernel, (fun h => absurd h (by decide)), (fun _ => ⟨rfl, rfl⟩)⟩
theorem f_R_83 : FldOK "PackLanesModel" 83 10 44 (.array .int) 1 := ⟨KR10, KT10, 50, Kt10, by decide, rfl, by decide, Ki10, Kp10, Kn10, (big_t 792 (by decide +kernel) (by decide +kernel)), by decide +kernel, (fun h => absurd h (by decide)), (fun _ => ⟨rfl, rfl⟩)⟩
theorem f_R_86 : FldOK "PackLanesModel" 86 10 45 (.array .int) 1 := ⟨KR10, KT10, 50, Kt10, by decide, rfl, by decide, Ki10, Kp10, Kn10, (big_t 793 (by decide +kernel) (by decide +kernel)), by decide +kernel, (fun h => absurd h (by decide)), (fun _ => ⟨rfl, rfl⟩)⟩
theorem f_R_89 : FldOK "PackLanesModel" 89 10 46 (.array .int) 1 := ⟨KR10, KT10, 50, Kt10, by decide, rfl, by decide, Ki10, Kp10, Kn10, (big_t 794 (by decide +kernel) (by decide +kernel)), by decide +kernel, (fun h => absurd h (by decide)), (fun _ => ⟨rfl, rfl⟩)⟩
theorem f_R_92 : FldOK "PackLanesModel" 92 10 47 (.array .int) 1 := ⟨KR10, KT10, 50, Kt10, by decide, rfl, by decide, Ki10, Kp10, Kn10, (big_t 795 (by decide +kernel) (by decide +kernel)), by decide +kernel, (fun h => absurd h (by decide)), (fun _ => ⟨rfl, rfl⟩)⟩
theorem f_R_99 : FldOK "PackLanesModel" 99 10 2 .int 0 := ⟨KR10, KT10, 50, Kt10, by decide, rfl, by decide, Ki10, Kp10, Kn10, (big_t 750 (by decide +kernel) (by decide +kernel)), by decide +kernel, (fun _ => rfl), (fun h => absurd h (by decide))⟩
theorem w_k_Slots_15 : Cond.classLink "PackLanes$Slots" 15 "[[I" ∈ BIG := (big_t 111 (by decide +kernel) (by decide +kernel))
theorem n_Pack_50 : NewOK "PackLanes$Packer" 50 2 [.null, .null, .null, .null, .int 0] := ⟨KR2, KT2, 5, Kt2, by decide, rfl, Ki2, Kp2, (big_t 145 (by decide +kernel) (by decide +kernel)), (big_t 146 (by decide +kernel) (by decide +kernel)), (big_t 8 (by decide +kernel) (by decide +kernel)), fun _ => rfl, rfl, by decide +kernel⟩
theorem n_Pack_59 : NewOK "PackLanes$Packer" 59 8 [.null, .null, .null, .int 0, .int 0, .null, .int 0, .int 0, .int 0, .int 0, .int 0] := ⟨KR8, KT8, 11, Kt8, by decide, rfl, Ki8, Kp8, (big_t 171 (by decide +kernel) (by decide +kernel)), (big_t 172 (by decide +kernel) (by decide +kernel)), (big_t 9 (by decide +kernel) (by decide +kernel)), fun _ => rfl, rfl, by decide +kernel⟩
theorem n_PL_16 : NewOK "PackLanes" 16 1 [.null, .null, .null, .null, .null, .null, .int 0] := ⟨KR1, KT1, 7, Kt1, by decide, rfl, Ki1, Kp1, (big_t 41 (by decide +kernel) (by decide +kernel)), (big_t 42 (by decide +kernel) (by decide +kernel)), (big_t 3 (by decide +kernel) (by decide +kernel)), fun _ => rfl, rfl, by decide +kernel⟩
theorem n_PL_36 : NewOK "PackLanes" 36 0 [.null, .null, .int 0] := ⟨KR0, KT0, 3, Kt0, by decide, rfl, Ki0, Kp0, (big_t 88 (by decide +kernel) (by decide +kernel)), (big_t 89 (by decide +kernel) (by decide +kernel)), (big_t 4 (by decide +kernel) (by decide +kernel)), fun _ => rfl, rfl, by decide +kernel⟩
theorem n_PL_43 : NewOK "PackLanes" 43 6 [.null, .null] := ⟨KR6, KT6, 2, Kt6, by decide, rfl, Ki6, Kp6, (big_t 105 (by decide +kernel) (by decide +kernel)), (big_t 106 (by decide +kernel) (by decide +kernel)), (big_t 5 (by decide +kernel) (by decide +kernel)), fun _ => rfl, rfl, by decide +kernel⟩
theorem n_PL_50 : NewOK "PackLanes" 50 5 [.null, .null, .int 0] := ⟨KR5, KT5, 3, Kt5, by decide, rfl, Ki5, Kp5, (big_t 122 (by decide +kernel) (by decide +kernel)), (big_t 123 (by decide +kernel) (by decide +kernel)), (big_t 6 (by decide +kernel) (by decide +kernel)), fun _ => rfl, rfl, by decide +kernel⟩
theorem n_PL_57 : NewOK "PackLanes" 57 4 [.null, .null, .null, .int 0, .null, .null, .null, .null, .null, .int 0, .int 0, .int 0, .int 0, .int 0] := ⟨KR4, KT4, 14, Kt4, by decide, rfl, Ki4, Kp4, (big_t 139 (by decide +kernel) (by decide +kernel)), (big_t 140 (by decide +kernel) (by decide +kernel)), (big_t 7 (by decide +kernel) (by decide +kernel)), fun _ => rfl, rfl, by decide +kernel⟩
theorem n_PL_69 : NewOK "PackLanes" 69 3 [.null, .null, .null, .int 0, .int 0] := ⟨KR3, KT3, 5, Kt3, by decide, rfl, Ki3, Kp3, (big_t 267 (by decide +kernel) (by decide +kernel)), (big_t 268 (by decide +kernel) (by decide +kernel)), (big_t 10 (by decide +kernel) (by decide +kernel)), fun _ => rfl, rfl, by decide +kernel⟩
theorem n_PL_7 : NewOK "PackLanes" 7 7 [.null, .null, .int 0] := ⟨KR7, KT7, 3, Kt7, by decide, rfl, Ki7, Kp7, (big_t 23 (by decide +kernel) (by decide +kernel)), (big_t 24 (by decide +kernel) (by decide +kernel)), (big_t 2 (by decide +kernel) (by decide +kernel)), fun _ => rfl, rfl, by decide +kernel⟩
theorem w_o_Acts_3 : Cond.methodLink "PackLanes$Acts" 3 Lib.objectInit ∈ BIG := (big_t 93 (by decide +kernel) (by decide +kernel))
theorem w_o_Code_3 : Cond.methodLink "PackLanes$Code" 3 Lib.objectInit ∈ BIG := (big_t 46 (by decide +kernel) (by decide +kernel))
theorem w_o_Links_3 : Cond.methodLink "PackLanes$Links" 3 Lib.objectInit ∈ BIG := (big_t 150 (by decide +kernel) (by decide +kernel))
theorem w_o_Mach_3 : Cond.methodLink "PackLanes$Machine" 3 Lib.objectInit ∈ BIG := (big_t 272 (by decide +kernel) (by decide +kernel))
theorem w_o_Pack_3 : Cond.methodLink "PackLanes$Packer" 3 Lib.objectInit ∈ BIG := (big_t 144 (by decide +kernel) (by decide +kernel))
theorem w_o_Sights_3 : Cond.methodLink "PackLanes$Sights" 3 Lib.objectInit ∈ BIG := (big_t 127 (by decide +kernel) (by decide +kernel))
theorem w_o_Slots_3 : Cond.methodLink "PackLanes$Slots" 3 Lib.objectInit ∈ BIG := (big_t 110 (by decide +kernel) (by decide +kernel))
theorem w_o_Src_3 : Cond.methodLink "PackLanes$Source" 3 Lib.objectInit ∈ BIG := (big_t 28 (by decide +kernel) (by decide +kernel))
theorem w_o_Tree_3 : Cond.methodLink "PackLanes$Tree" 3 Lib.objectInit ∈ BIG := (big_t 176 (by decide +kernel) (by decide +kernel))
theorem w_o_PL_1 : Cond.methodLink "PackLanes" 1 Lib.objectInit ∈ BIG := (big_t 20 (by decide +kernel) (by decide +kernel))
theorem w_o_R_1 : Cond.methodLink "PackLanesModel" 1 Lib.objectInit ∈ BIG := (big_t 744 (by decide +kernel) (by decide +kernel))
theorem w_s_PL_237 : Cond.fieldLink "PackLanes" 237 "PackLanes" "FACTORIALS" "[I" ∈ BIG := (big_t 692 (by decide +kernel) (by decide +kernel))
theorem w_fn_PL_140 : Cond.fieldLinkNest "PackLanes" 140 (KT7 2).1 (KT7 2).2.1 (KT7 2).2.2.1 "PackLanes" ∈ BIGN := (big_n 32 (by decide +kernel) (by decide +kernel))
end
section
/-! methods: the decoded rows, the meaning (B, X), the contract (v) -/
theorem d_Slots_clear_0 : decode prog_8_method_2_code 0 = .ok (.iconst 0, 1) := by decide +kernel
theorem d_Slots_clear_1 : decode prog_8_method_2_code 1 = .ok (.istore_n 1, 1) := by decide +kernel
theorem d_Slots_clear_2 : decode prog_8_method_2_code 2 = .ok (.iload_n 1, 1) := by decide +kernel
theorem d_Slots_clear_3 : decode prog_8_method_2_code 3 = .ok (.iconst 2, 1) := by decide +kernel
theorem d_Slots_clear_4 : decode prog_8_method_2_code 4 = .ok (.if_icmp .ge 16, 3) := by decide +kernel
theorem d_Slots_clear_7 : decode prog_8_method_2_code 7 = .ok (.aload_n 0, 1) := by decide +kernel
theorem d_Slots_clear_8 : decode prog_8_method_2_code 8 = .ok (.getfield 9, 3) := by decide +kernel
theorem d_Slots_clear_11 : decode prog_8_method_2_code 11 = .ok (.iload_n 1, 1) := by decide +kernel
theorem d_Slots_clear_12 : decode prog_8_method_2_code 12 = .ok (.iconst 0, 1) := by decide +kernel
theorem d_Slots_clear_13 : decode prog_8_method_2_code 13 = .ok (.bastore, 1) := by decide +kernel
theorem d_Slots_clear_14 : decode prog_8_method_2_code 14 = .ok (.iinc 1 1, 3) := by decide +kernel
theorem d_Slots_clear_17 : decode prog_8_method_2_code 17 = .ok (.goto (-15), 3) := by decide +kernel
theorem d_Slots_clear_20 : decode prog_8_method_2_code 20 = .ok (.return_, 1) := by decide +kernel
def B_Slots_clear (_ : Nat × Nat) : PS :=
  (sSq (sCut 1 (sSq (sI 1 (eV (0 : Int32)))
    (sLp 2 (e2 (fun x y : Int32 => decide (x < y)) (eI 1) (eV (2 : Int32)))
    (sAZ (eFR 6 0 (eR 0)) (eI 1) (eV (0 : Int32)))
    (sInc 1 (1)))))
    sRv)
def X_Slots_clear : PM := fun vs h Q => (lx vs).length ≤ 2 ∧ B_Slots_clear (h.length + 0, hsz h + 0) (fun _ _ => False) (fun _ _ => False) (fun _ _ => False) Q (lini 2 vs) h
theorem v_Slots_clear (l : Launch) : Ctr l y_Slots_clear prog_8_method_2_code 2 none rm_Slots_clear X_Slots_clear := by
  refine Ctr_of (own := "PackLanes$Slots") (B := B_Slots_clear) (KR := fun _ Q => Q) (by decide) rfl (fun _ _ _ z => z) (fun _ _ _ _ z => ⟨Or.inl ⟨rfl, rfl⟩, z⟩) (Or.inl rfl) (fun κ hl ho hR hrt hn0 => ?_)
  subst hl
  unfold B_Slots_clear
  exact (S_sq (pc1 := 20) (S_cut (S_sq (pc1 := 2) (S_In (pc1 := 1) (E_ic d_Slots_clear_0 rfl) d_Slots_clear_1 rfl)
    (S_lp (pT := 7) (pF := 20) (pS := 14) (pG := 17) (J2_lt (pF := 20) (pc1 := 3) (pc2 := 4) (E_iln d_Slots_clear_2 rfl) (E_ic d_Slots_clear_3 rfl) d_Slots_clear_4 rfl)
    (S_AZ (pc1 := 11) (pc2 := 12) (pc3 := 13) (E_fR f_Slots_9 ho (pc1 := 8) (E_aln d_Slots_clear_7 rfl) d_Slots_clear_8) (E_iln d_Slots_clear_11 rfl) (E_ic d_Slots_clear_12 rfl) d_Slots_clear_13)
    (S_Inc d_Slots_clear_14 rfl) d_Slots_clear_17 rfl)))
    (S_rv hrt d_Slots_clear_20))
theorem d_Acts_clear_0 : decode prog_2_method_2_code 0 = .ok (.aload_n 0, 1) := by decide +kernel
theorem d_Acts_clear_1 : decode prog_2_method_2_code 1 = .ok (.iconst 0, 1) := by decide +kernel
theorem d_Acts_clear_2 : decode prog_2_method_2_code 2 = .ok (.putfield 18, 3) := by decide +kernel
theorem d_Acts_clear_5 : decode prog_2_method_2_code 5 = .ok (.return_, 1) := by decide +kernel
def B_Acts_clear (_ : Nat × Nat) : PS :=
  (sSq (sF .int 0 2 (eR 0) (eV (0 : Int32)))
    sRv)
def X_Acts_clear : PM := fun vs h Q => (lx vs).length ≤ 1 ∧ B_Acts_clear (h.length + 0, hsz h + 0) (fun _ _ => False) (fun _ _ => False) (fun _ _ => False) Q (lini 1 vs) h
theorem v_Acts_clear (l : Launch) : Ctr l y_Acts_clear prog_2_method_2_code 1 none rm_Acts_clear X_Acts_clear := by
  refine Ctr_of (own := "PackLanes$Acts") (B := B_Acts_clear) (KR := fun _ Q => Q) (by decide) rfl (fun _ _ _ z => z) (fun _ _ _ _ z => ⟨Or.inl ⟨rfl, rfl⟩, z⟩) (Or.inl rfl) (fun κ hl ho hR hrt hn0 => ?_)
  subst hl
  unfold B_Acts_clear
  exact (S_sq (pc1 := 5) (S_FI f_Acts_18 ho (pc1 := 1) (pc2 := 2) (E_aln d_Acts_clear_0 rfl) (E_ic d_Acts_clear_1 rfl) d_Acts_clear_2)
    (S_rv hrt d_Acts_clear_5))
theorem d_PL_restart_0 : decode prog_1_method_24_code 0 = .ok (.iconst 0, 1) := by decide +kernel
theorem d_PL_restart_1 : decode prog_1_method_24_code 1 = .ok (.istore 4, 2) := by decide +kernel
theorem d_PL_restart_3 : decode prog_1_method_24_code 3 = .ok (.iload 4, 2) := by decide +kernel
theorem d_PL_restart_5 : decode prog_1_method_24_code 5 = .ok (.bipush 16, 2) := by decide +kernel
theorem d_PL_restart_7 : decode prog_1_method_24_code 7 = .ok (.if_icmp .ge 20, 3) := by decide +kernel
theorem d_PL_restart_10 : decode prog_1_method_24_code 10 = .ok (.aload_n 0, 1) := by decide +kernel
theorem d_PL_restart_11 : decode prog_1_method_24_code 11 = .ok (.getfield 26, 3) := by decide +kernel
theorem d_PL_restart_14 : decode prog_1_method_24_code 14 = .ok (.iload 4, 2) := by decide +kernel
theorem d_PL_restart_16 : decode prog_1_method_24_code 16 = .ok (.iload 4, 2) := by decide +kernel
theorem d_PL_restart_18 : decode prog_1_method_24_code 18 = .ok (.iconst 1, 1) := by decide +kernel
theorem d_PL_restart_19 : decode prog_1_method_24_code 19 = .ok (.iadd, 1) := by decide +kernel
theorem d_PL_restart_20 : decode prog_1_method_24_code 20 = .ok (.iastore, 1) := by decide +kernel
theorem d_PL_restart_21 : decode prog_1_method_24_code 21 = .ok (.iinc 4 1, 3) := by decide +kernel
theorem d_PL_restart_24 : decode prog_1_method_24_code 24 = .ok (.goto (-21), 3) := by decide +kernel
theorem d_PL_restart_27 : decode prog_1_method_24_code 27 = .ok (.aload_n 0, 1) := by decide +kernel
theorem d_PL_restart_28 : decode prog_1_method_24_code 28 = .ok (.getfield 26, 3) := by decide +kernel
theorem d_PL_restart_31 : decode prog_1_method_24_code 31 = .ok (.bipush 16, 2) := by decide +kernel
theorem d_PL_restart_33 : decode prog_1_method_24_code 33 = .ok (.iload_n 1, 1) := by decide +kernel
theorem d_PL_restart_34 : decode prog_1_method_24_code 34 = .ok (.iastore, 1) := by decide +kernel
theorem d_PL_restart_35 : decode prog_1_method_24_code 35 = .ok (.aload_n 0, 1) := by decide +kernel
theorem d_PL_restart_36 : decode prog_1_method_24_code 36 = .ok (.getfield 26, 3) := by decide +kernel
theorem d_PL_restart_39 : decode prog_1_method_24_code 39 = .ok (.bipush 17, 2) := by decide +kernel
theorem d_PL_restart_41 : decode prog_1_method_24_code 41 = .ok (.iload_n 2, 1) := by decide +kernel
theorem d_PL_restart_42 : decode prog_1_method_24_code 42 = .ok (.iastore, 1) := by decide +kernel
theorem d_PL_restart_43 : decode prog_1_method_24_code 43 = .ok (.aload_n 0, 1) := by decide +kernel
theorem d_PL_restart_44 : decode prog_1_method_24_code 44 = .ok (.getfield 26, 3) := by decide +kernel
theorem d_PL_restart_47 : decode prog_1_method_24_code 47 = .ok (.bipush 18, 2) := by decide +kernel
theorem d_PL_restart_49 : decode prog_1_method_24_code 49 = .ok (.iload_n 3, 1) := by decide +kernel
theorem d_PL_restart_50 : decode prog_1_method_24_code 50 = .ok (.iastore, 1) := by decide +kernel
theorem d_PL_restart_51 : decode prog_1_method_24_code 51 = .ok (.aload_n 0, 1) := by decide +kernel
theorem d_PL_restart_52 : decode prog_1_method_24_code 52 = .ok (.getfield 39, 3) := by decide +kernel
theorem d_PL_restart_55 : decode prog_1_method_24_code 55 = .ok (.invokevirtual 260, 3) := by decide +kernel
theorem d_PL_restart_58 : decode prog_1_method_24_code 58 = .ok (.aload_n 0, 1) := by decide +kernel
theorem d_PL_restart_59 : decode prog_1_method_24_code 59 = .ok (.getfield 46, 3) := by decide +kernel
theorem d_PL_restart_62 : decode prog_1_method_24_code 62 = .ok (.invokevirtual 262, 3) := by decide +kernel
theorem d_PL_restart_65 : decode prog_1_method_24_code 65 = .ok (.return_, 1) := by decide +kernel
def B_PL_restart (_ : Nat × Nat) : PS :=
  (sSq (sCut 4 (sSq (sI 4 (eV (0 : Int32)))
    (sLp 5 (e2 (fun x y : Int32 => decide (x < y)) (eI 4) (eV (16 : Int32)))
    (sAI (eFR 9 3 (eR 0)) (eI 4) (e2 (fun x y : Int32 => x + y) (eI 4) (eV (1 : Int32))))
    (sInc 4 (1)))))
    (sSq (sAI (eFR 9 3 (eR 0)) (eV (16 : Int32)) (eI 1))
    (sSq (sAI (eFR 9 3 (eR 0)) (eV (17 : Int32)) (eI 2))
    (sSq (sAI (eFR 9 3 (eR 0)) (eV (18 : Int32)) (eI 3))
    (sSq (sX (xV 0 0 X_Acts_clear (eFR 9 6 (eR 0)) aN))
    (sSq (sX (xV 6 0 X_Slots_clear (eFR 9 7 (eR 0)) aN))
    sRv))))))
def X_PL_restart : PM := fun vs h Q => (lx vs).length ≤ 5 ∧ B_PL_restart (h.length + 0, hsz h + 0) (fun _ _ => False) (fun _ _ => False) (fun _ _ => False) Q (lini 5 vs) h
theorem v_PL_restart (l : Launch) : Ctr l y_PL_restart prog_1_method_24_code 5 none rm_PL_restart X_PL_restart := by
  refine Ctr_of (own := "PackLanes") (B := B_PL_restart) (KR := fun _ Q => Q) (by decide) rfl (fun _ _ _ z => z) (fun _ _ _ _ z => ⟨Or.inl ⟨rfl, rfl⟩, z⟩) (Or.inl rfl) (fun κ hl ho hR hrt hn0 => ?_)
  subst hl
  unfold B_PL_restart
  exact (S_sq (pc1 := 27) (S_cut (S_sq (pc1 := 3) (S_I (pc1 := 1) (E_ic d_PL_restart_0 rfl) d_PL_restart_1)
    (S_lp (pT := 10) (pF := 27) (pS := 21) (pG := 24) (J2_lt (pF := 27) (pc1 := 5) (pc2 := 7) (E_il d_PL_restart_3) (E_bi d_PL_restart_5 rfl) d_PL_restart_7 rfl)
    (S_AI (pc1 := 14) (pc2 := 16) (pc3 := 20) (E_fR f_PL_26 ho (pc1 := 11) (E_aln d_PL_restart_10 rfl) d_PL_restart_11) (E_il d_PL_restart_14) (E_iadd (pc1 := 18) (pc2 := 19) (E_il d_PL_restart_16) (E_ic d_PL_restart_18 rfl) d_PL_restart_19) d_PL_restart_20)
    (S_Inc d_PL_restart_21 rfl) d_PL_restart_24 rfl)))
    (S_sq (pc1 := 35) (S_AI (pc1 := 31) (pc2 := 33) (pc3 := 34) (E_fR f_PL_26 ho (pc1 := 28) (E_aln d_PL_restart_27 rfl) d_PL_restart_28) (E_bi d_PL_restart_31 rfl) (E_iln d_PL_restart_33 rfl) d_PL_restart_34)
    (S_sq (pc1 := 43) (S_AI (pc1 := 39) (pc2 := 41) (pc3 := 42) (E_fR f_PL_26 ho (pc1 := 36) (E_aln d_PL_restart_35 rfl) d_PL_restart_36) (E_bi d_PL_restart_39 rfl) (E_iln d_PL_restart_41 rfl) d_PL_restart_42)
    (S_sq (pc1 := 51) (S_AI (pc1 := 47) (pc2 := 49) (pc3 := 50) (E_fR f_PL_26 ho (pc1 := 44) (E_aln d_PL_restart_43 rfl) d_PL_restart_44) (E_bi d_PL_restart_47 rfl) (E_iln d_PL_restart_49 rfl) d_PL_restart_50)
    (S_sq (pc1 := 58) (S_X (O_V k_PL_260 (v_Acts_clear _) ⟨rfl, rfl⟩ ho (rk hR rfl) (by decide) (T := KT0) (N := 3) rfl (by decide) (pc1 := 55) (pc2 := 55) (E_fR f_PL_39 ho (pc1 := 52) (E_aln d_PL_restart_51 rfl) d_PL_restart_52) A_n d_PL_restart_55))
    (S_sq (pc1 := 65) (S_X (O_V k_PL_262 (v_Slots_clear _) ⟨rfl, rfl⟩ ho (rk hR rfl) (by decide) (T := KT6) (N := 2) rfl (by decide) (pc1 := 62) (pc2 := 62) (E_fR f_PL_46 ho (pc1 := 59) (E_aln d_PL_restart_58 rfl) d_PL_restart_59) A_n d_PL_restart_62))
    (S_rv hrt d_PL_restart_65)))))))
theorem d_Src_init_0 : decode prog_9_method_1_code 0 = .ok (.aload_n 0, 1) := by decide +kernel
theorem d_Src_init_1 : decode prog_9_method_1_code 1 = .ok (.invokespecial 3, 3) := by decide +kernel
theorem d_Src_init_4 : decode prog_9_method_1_code 4 = .ok (.aload_n 0, 1) := by decide +kernel
theorem d_Src_init_5 : decode prog_9_method_1_code 5 = .ok (.bipush 80, 2) := by decide +kernel
theorem d_Src_init_7 : decode prog_9_method_1_code 7 = .ok (.newarray .int, 2) := by decide +kernel
theorem d_Src_init_9 : decode prog_9_method_1_code 9 = .ok (.putfield 9, 3) := by decide +kernel
theorem d_Src_init_12 : decode prog_9_method_1_code 12 = .ok (.aload_n 0, 1) := by decide +kernel
theorem d_Src_init_13 : decode prog_9_method_1_code 13 = .ok (.iconst 4, 1) := by decide +kernel
theorem d_Src_init_14 : decode prog_9_method_1_code 14 = .ok (.newarray .int, 2) := by decide +kernel
theorem d_Src_init_16 : decode prog_9_method_1_code 16 = .ok (.putfield 15, 3) := by decide +kernel
theorem d_Src_init_19 : decode prog_9_method_1_code 19 = .ok (.aload_n 0, 1) := by decide +kernel
theorem d_Src_init_20 : decode prog_9_method_1_code 20 = .ok (.iconst 0, 1) := by decide +kernel
theorem d_Src_init_21 : decode prog_9_method_1_code 21 = .ok (.putfield 18, 3) := by decide +kernel
theorem d_Src_init_24 : decode prog_9_method_1_code 24 = .ok (.return_, 1) := by decide +kernel
def B_Src_init (g : Nat × Nat) : PS :=
  (sSq sSO
    (sSq (sF .ref 7 0 (eR 0) (eNA g 20 (eV (80 : Int32))))
    (sSq (sF .ref 7 1 (eR 0) (eNA g 20 (eV (4 : Int32))))
    (sSq (sF .int 7 2 (eR 0) (eV (0 : Int32)))
    sRv))))
def X_Src_init : PM := fun vs h Q => (lx vs).length ≤ 1 ∧ B_Src_init (h.length + 2, hsz h + 84) (fun _ _ => False) (fun _ _ => False) (fun _ _ => False) (fun o h' => (h'.length = h.length + 2 ∧ hsz h' = hsz h + 84) ∧ Q o h') (lini 1 vs) h
theorem v_Src_init (l : Launch) : Ctr l y_Src_init prog_9_method_1_code 1 none rm_Src_init X_Src_init := by
  refine Ctr_of (own := "PackLanes$Source") (B := B_Src_init) (KR := fun h Q o h' => (h'.length = h.length + 2 ∧ hsz h' = hsz h + 84) ∧ Q o h') (by decide) rfl (fun _ _ _ z => z) (fun _ _ _ _ z => ⟨Or.inr z.1, z.2⟩) (Or.inl rfl) (fun κ hl ho hR hrt hn0 => ?_)
  subst hl
  have hn : KO prog_9_method_1_code κ → (k_me κ).name = "<init>" := fun _ => hn0
  unfold B_Src_init
  exact (S_sq (pc1 := 4) (S_so w_o_Src_3 w_oi w_oc ho (rk2 hR rfl) d_Src_init_0 d_Src_init_1)
    (S_sq (pc1 := 12) (S_FR f_Src_9 ho hn (fun _ => ⟨rfl, rfl⟩) (pc1 := 5) (pc2 := 9) (E_aln d_Src_init_4 rfl) (E_NI rfl w_arrI (pc1 := 7) (E_bi d_Src_init_5 rfl) d_Src_init_7) d_Src_init_9)
    (S_sq (pc1 := 19) (S_FR f_Src_15 ho hn (fun _ => ⟨rfl, rfl⟩) (pc1 := 13) (pc2 := 16) (E_aln d_Src_init_12 rfl) (E_NI rfl w_arrI (pc1 := 14) (E_ic d_Src_init_13 rfl) d_Src_init_14) d_Src_init_16)
    (S_sq (pc1 := 24) (S_FI f_Src_18 ho (pc1 := 20) (pc2 := 21) (E_aln d_Src_init_19 rfl) (E_ic d_Src_init_20 rfl) d_Src_init_21)
    (S_rv hrt d_Src_init_24)))))
theorem d_Code_init_0 : decode prog_3_method_1_code 0 = .ok (.aload_n 0, 1) := by decide +kernel
theorem d_Code_init_1 : decode prog_3_method_1_code 1 = .ok (.invokespecial 3, 3) := by decide +kernel
theorem d_Code_init_4 : decode prog_3_method_1_code 4 = .ok (.aload_n 0, 1) := by decide +kernel
theorem d_Code_init_5 : decode prog_3_method_1_code 5 = .ok (.bipush 16, 2) := by decide +kernel
theorem d_Code_init_7 : decode prog_3_method_1_code 7 = .ok (.newarray .int, 2) := by decide +kernel
theorem d_Code_init_9 : decode prog_3_method_1_code 9 = .ok (.putfield 9, 3) := by decide +kernel
theorem d_Code_init_12 : decode prog_3_method_1_code 12 = .ok (.aload_n 0, 1) := by decide +kernel
theorem d_Code_init_13 : decode prog_3_method_1_code 13 = .ok (.bipush 16, 2) := by decide +kernel
theorem d_Code_init_15 : decode prog_3_method_1_code 15 = .ok (.newarray .int, 2) := by decide +kernel
theorem d_Code_init_17 : decode prog_3_method_1_code 17 = .ok (.putfield 15, 3) := by decide +kernel
theorem d_Code_init_20 : decode prog_3_method_1_code 20 = .ok (.aload_n 0, 1) := by decide +kernel
theorem d_Code_init_21 : decode prog_3_method_1_code 21 = .ok (.bipush 16, 2) := by decide +kernel
theorem d_Code_init_23 : decode prog_3_method_1_code 23 = .ok (.newarray .int, 2) := by decide +kernel
theorem d_Code_init_25 : decode prog_3_method_1_code 25 = .ok (.putfield 18, 3) := by decide +kernel
theorem d_Code_init_28 : decode prog_3_method_1_code 28 = .ok (.aload_n 0, 1) := by decide +kernel
theorem d_Code_init_29 : decode prog_3_method_1_code 29 = .ok (.bipush 16, 2) := by decide +kernel
theorem d_Code_init_31 : decode prog_3_method_1_code 31 = .ok (.newarray .int, 2) := by decide +kernel
theorem d_Code_init_33 : decode prog_3_method_1_code 33 = .ok (.putfield 21, 3) := by decide +kernel
theorem d_Code_init_36 : decode prog_3_method_1_code 36 = .ok (.aload_n 0, 1) := by decide +kernel
theorem d_Code_init_37 : decode prog_3_method_1_code 37 = .ok (.bipush 16, 2) := by decide +kernel
theorem d_Code_init_39 : decode prog_3_method_1_code 39 = .ok (.newarray .int, 2) := by decide +kernel
theorem d_Code_init_41 : decode prog_3_method_1_code 41 = .ok (.putfield 24, 3) := by decide +kernel
theorem d_Code_init_44 : decode prog_3_method_1_code 44 = .ok (.aload_n 0, 1) := by decide +kernel
theorem d_Code_init_45 : decode prog_3_method_1_code 45 = .ok (.bipush 16, 2) := by decide +kernel
theorem d_Code_init_47 : decode prog_3_method_1_code 47 = .ok (.newarray .int, 2) := by decide +kernel
theorem d_Code_init_49 : decode prog_3_method_1_code 49 = .ok (.putfield 27, 3) := by decide +kernel
theorem d_Code_init_52 : decode prog_3_method_1_code 52 = .ok (.aload_n 0, 1) := by decide +kernel
theorem d_Code_init_53 : decode prog_3_method_1_code 53 = .ok (.iconst 0, 1) := by decide +kernel
theorem d_Code_init_54 : decode prog_3_method_1_code 54 = .ok (.putfield 30, 3) := by decide +kernel
theorem d_Code_init_57 : decode prog_3_method_1_code 57 = .ok (.return_, 1) := by decide +kernel
def B_Code_init (g : Nat × Nat) : PS :=
  (sSq sSO
    (sSq (sF .ref 1 0 (eR 0) (eNA g 20 (eV (16 : Int32))))
    (sSq (sF .ref 1 1 (eR 0) (eNA g 20 (eV (16 : Int32))))
    (sSq (sF .ref 1 2 (eR 0) (eNA g 20 (eV (16 : Int32))))
    (sSq (sF .ref 1 3 (eR 0) (eNA g 20 (eV (16 : Int32))))
    (sSq (sF .ref 1 4 (eR 0) (eNA g 20 (eV (16 : Int32))))
    (sSq (sF .ref 1 5 (eR 0) (eNA g 20 (eV (16 : Int32))))
    (sSq (sF .int 1 6 (eR 0) (eV (0 : Int32)))
    sRv))))))))
def X_Code_init : PM := fun vs h Q => (lx vs).length ≤ 1 ∧ B_Code_init (h.length + 6, hsz h + 96) (fun _ _ => False) (fun _ _ => False) (fun _ _ => False) (fun o h' => (h'.length = h.length + 6 ∧ hsz h' = hsz h + 96) ∧ Q o h') (lini 1 vs) h
theorem v_Code_init (l : Launch) : Ctr l y_Code_init prog_3_method_1_code 1 none rm_Code_init X_Code_init := by
  refine Ctr_of (own := "PackLanes$Code") (B := B_Code_init) (KR := fun h Q o h' => (h'.length = h.length + 6 ∧ hsz h' = hsz h + 96) ∧ Q o h') (by decide) rfl (fun _ _ _ z => z) (fun _ _ _ _ z => ⟨Or.inr z.1, z.2⟩) (Or.inl rfl) (fun κ hl ho hR hrt hn0 => ?_)
  subst hl
  have hn : KO prog_3_method_1_code κ → (k_me κ).name = "<init>" := fun _ => hn0
  unfold B_Code_init
  exact (S_sq (pc1 := 4) (S_so w_o_Code_3 w_oi w_oc ho (rk2 hR rfl) d_Code_init_0 d_Code_init_1)
    (S_sq (pc1 := 12) (S_FR f_Code_9 ho hn (fun _ => ⟨rfl, rfl⟩) (pc1 := 5) (pc2 := 9) (E_aln d_Code_init_4 rfl) (E_NI rfl w_arrI (pc1 := 7) (E_bi d_Code_init_5 rfl) d_Code_init_7) d_Code_init_9)
    (S_sq (pc1 := 20) (S_FR f_Code_15 ho hn (fun _ => ⟨rfl, rfl⟩) (pc1 := 13) (pc2 := 17) (E_aln d_Code_init_12 rfl) (E_NI rfl w_arrI (pc1 := 15) (E_bi d_Code_init_13 rfl) d_Code_init_15) d_Code_init_17)
    (S_sq (pc1 := 28) (S_FR f_Code_18 ho hn (fun _ => ⟨rfl, rfl⟩) (pc1 := 21) (pc2 := 25) (E_aln d_Code_init_20 rfl) (E_NI rfl w_arrI (pc1 := 23) (E_bi d_Code_init_21 rfl) d_Code_init_23) d_Code_init_25)
    (S_sq (pc1 := 36) (S_FR f_Code_21 ho hn (fun _ => ⟨rfl, rfl⟩) (pc1 := 29) (pc2 := 33) (E_aln d_Code_init_28 rfl) (E_NI rfl w_arrI (pc1 := 31) (E_bi d_Code_init_29 rfl) d_Code_init_31) d_Code_init_33)
    (S_sq (pc1 := 44) (S_FR f_Code_24 ho hn (fun _ => ⟨rfl, rfl⟩) (pc1 := 37) (pc2 := 41) (E_aln d_Code_init_36 rfl) (E_NI rfl w_arrI (pc1 := 39) (E_bi d_Code_init_37 rfl) d_Code_init_39) d_Code_init_41)
    (S_sq (pc1 := 52) (S_FR f_Code_27 ho hn (fun _ => ⟨rfl, rfl⟩) (pc1 := 45) (pc2 := 49) (E_aln d_Code_init_44 rfl) (E_NI rfl w_arrI (pc1 := 47) (E_bi d_Code_init_45 rfl) d_Code_init_47) d_Code_init_49)
    (S_sq (pc1 := 57) (S_FI f_Code_30 ho (pc1 := 53) (pc2 := 54) (E_aln d_Code_init_52 rfl) (E_ic d_Code_init_53 rfl) d_Code_init_54)
    (S_rv hrt d_Code_init_57)))))))))
theorem d_Acts_init_0 : decode prog_2_method_1_code 0 = .ok (.aload_n 0, 1) := by decide +kernel
theorem d_Acts_init_1 : decode prog_2_method_1_code 1 = .ok (.invokespecial 3, 3) := by decide +kernel
theorem d_Acts_init_4 : decode prog_2_method_1_code 4 = .ok (.aload_n 0, 1) := by decide +kernel
theorem d_Acts_init_5 : decode prog_2_method_1_code 5 = .ok (.bipush 14, 2) := by decide +kernel
theorem d_Acts_init_7 : decode prog_2_method_1_code 7 = .ok (.newarray .int, 2) := by decide +kernel
theorem d_Acts_init_9 : decode prog_2_method_1_code 9 = .ok (.putfield 9, 3) := by decide +kernel
theorem d_Acts_init_12 : decode prog_2_method_1_code 12 = .ok (.aload_n 0, 1) := by decide +kernel
theorem d_Acts_init_13 : decode prog_2_method_1_code 13 = .ok (.bipush 14, 2) := by decide +kernel
theorem d_Acts_init_15 : decode prog_2_method_1_code 15 = .ok (.newarray .int, 2) := by decide +kernel
theorem d_Acts_init_17 : decode prog_2_method_1_code 17 = .ok (.putfield 15, 3) := by decide +kernel
theorem d_Acts_init_20 : decode prog_2_method_1_code 20 = .ok (.aload_n 0, 1) := by decide +kernel
theorem d_Acts_init_21 : decode prog_2_method_1_code 21 = .ok (.iconst 0, 1) := by decide +kernel
theorem d_Acts_init_22 : decode prog_2_method_1_code 22 = .ok (.putfield 18, 3) := by decide +kernel
theorem d_Acts_init_25 : decode prog_2_method_1_code 25 = .ok (.return_, 1) := by decide +kernel
def B_Acts_init (g : Nat × Nat) : PS :=
  (sSq sSO
    (sSq (sF .ref 0 0 (eR 0) (eNA g 20 (eV (14 : Int32))))
    (sSq (sF .ref 0 1 (eR 0) (eNA g 20 (eV (14 : Int32))))
    (sSq (sF .int 0 2 (eR 0) (eV (0 : Int32)))
    sRv))))
def X_Acts_init : PM := fun vs h Q => (lx vs).length ≤ 1 ∧ B_Acts_init (h.length + 2, hsz h + 28) (fun _ _ => False) (fun _ _ => False) (fun _ _ => False) (fun o h' => (h'.length = h.length + 2 ∧ hsz h' = hsz h + 28) ∧ Q o h') (lini 1 vs) h
theorem v_Acts_init (l : Launch) : Ctr l y_Acts_init prog_2_method_1_code 1 none rm_Acts_init X_Acts_init := by
  refine Ctr_of (own := "PackLanes$Acts") (B := B_Acts_init) (KR := fun h Q o h' => (h'.length = h.length + 2 ∧ hsz h' = hsz h + 28) ∧ Q o h') (by decide) rfl (fun _ _ _ z => z) (fun _ _ _ _ z => ⟨Or.inr z.1, z.2⟩) (Or.inl rfl) (fun κ hl ho hR hrt hn0 => ?_)
  subst hl
  have hn : KO prog_2_method_1_code κ → (k_me κ).name = "<init>" := fun _ => hn0
  unfold B_Acts_init
  exact (S_sq (pc1 := 4) (S_so w_o_Acts_3 w_oi w_oc ho (rk2 hR rfl) d_Acts_init_0 d_Acts_init_1)
    (S_sq (pc1 := 12) (S_FR f_Acts_9 ho hn (fun _ => ⟨rfl, rfl⟩) (pc1 := 5) (pc2 := 9) (E_aln d_Acts_init_4 rfl) (E_NI rfl w_arrI (pc1 := 7) (E_bi d_Acts_init_5 rfl) d_Acts_init_7) d_Acts_init_9)
    (S_sq (pc1 := 20) (S_FR f_Acts_15 ho hn (fun _ => ⟨rfl, rfl⟩) (pc1 := 13) (pc2 := 17) (E_aln d_Acts_init_12 rfl) (E_NI rfl w_arrI (pc1 := 15) (E_bi d_Acts_init_13 rfl) d_Acts_init_15) d_Acts_init_17)
    (S_sq (pc1 := 25) (S_FI f_Acts_18 ho (pc1 := 21) (pc2 := 22) (E_aln d_Acts_init_20 rfl) (E_ic d_Acts_init_21 rfl) d_Acts_init_22)
    (S_rv hrt d_Acts_init_25)))))
theorem d_Slots_init_0 : decode prog_8_method_1_code 0 = .ok (.aload_n 0, 1) := by decide +kernel
theorem d_Slots_init_1 : decode prog_8_method_1_code 1 = .ok (.invokespecial 3, 3) := by decide +kernel
theorem d_Slots_init_4 : decode prog_8_method_1_code 4 = .ok (.aload_n 0, 1) := by decide +kernel
theorem d_Slots_init_5 : decode prog_8_method_1_code 5 = .ok (.iconst 2, 1) := by decide +kernel
theorem d_Slots_init_6 : decode prog_8_method_1_code 6 = .ok (.newarray .boolean, 2) := by decide +kernel
theorem d_Slots_init_8 : decode prog_8_method_1_code 8 = .ok (.putfield 9, 3) := by decide +kernel
theorem d_Slots_init_11 : decode prog_8_method_1_code 11 = .ok (.aload_n 0, 1) := by decide +kernel
theorem d_Slots_init_12 : decode prog_8_method_1_code 12 = .ok (.iconst 2, 1) := by decide +kernel
theorem d_Slots_init_13 : decode prog_8_method_1_code 13 = .ok (.bipush 19, 2) := by decide +kernel
theorem d_Slots_init_15 : decode prog_8_method_1_code 15 = .ok (.multianewarray 15 2, 4) := by decide +kernel
theorem d_Slots_init_19 : decode prog_8_method_1_code 19 = .ok (.putfield 17, 3) := by decide +kernel
theorem d_Slots_init_22 : decode prog_8_method_1_code 22 = .ok (.return_, 1) := by decide +kernel
def B_Slots_init (g : Nat × Nat) : PS :=
  (sSq sSO
    (sSq (sF .ref 6 0 (eR 0) (eNA g 21 (eV (2 : Int32))))
    (sSq (sF .ref 6 1 (eR 0) (eNM g (eV (19 : Int32))))
    sRv)))
def X_Slots_init : PM := fun vs h Q => (lx vs).length ≤ 1 ∧ B_Slots_init (h.length + 4, hsz h + 42) (fun _ _ => False) (fun _ _ => False) (fun _ _ => False) (fun o h' => (h'.length = h.length + 4 ∧ hsz h' = hsz h + 42) ∧ Q o h') (lini 1 vs) h
theorem v_Slots_init (l : Launch) : Ctr l y_Slots_init prog_8_method_1_code 1 none rm_Slots_init X_Slots_init := by
  refine Ctr_of (own := "PackLanes$Slots") (B := B_Slots_init) (KR := fun h Q o h' => (h'.length = h.length + 4 ∧ hsz h' = hsz h + 42) ∧ Q o h') (by decide) rfl (fun _ _ _ z => z) (fun _ _ _ _ z => ⟨Or.inr z.1, z.2⟩) (Or.inl rfl) (fun κ hl ho hR hrt hn0 => ?_)
  subst hl
  have hn : KO prog_8_method_1_code κ → (k_me κ).name = "<init>" := fun _ => hn0
  unfold B_Slots_init
  exact (S_sq (pc1 := 4) (S_so w_o_Slots_3 w_oi w_oc ho (rk2 hR rfl) d_Slots_init_0 d_Slots_init_1)
    (S_sq (pc1 := 11) (S_FR f_Slots_9 ho hn (fun _ => ⟨rfl, rfl⟩) (pc1 := 5) (pc2 := 8) (E_aln d_Slots_init_4 rfl) (E_NZ rfl w_arrZ (pc1 := 6) (E_ic d_Slots_init_5 rfl) d_Slots_init_6) d_Slots_init_8)
    (S_sq (pc1 := 22) (S_FR f_Slots_17 ho hn (fun _ => ⟨rfl, rfl⟩) (pc1 := 12) (pc2 := 19) (E_aln d_Slots_init_11 rfl) (E_NM rfl w_k_Slots_15 w_arrI ho d_Slots_init_12 (pc1 := 15) (E_bi d_Slots_init_13 rfl) d_Slots_init_15) d_Slots_init_19)
    (S_rv hrt d_Slots_init_22))))
theorem d_Sights_init_0 : decode prog_7_method_1_code 0 = .ok (.aload_n 0, 1) := by decide +kernel
theorem d_Sights_init_1 : decode prog_7_method_1_code 1 = .ok (.invokespecial 3, 3) := by decide +kernel
theorem d_Sights_init_4 : decode prog_7_method_1_code 4 = .ok (.aload_n 0, 1) := by decide +kernel
theorem d_Sights_init_5 : decode prog_7_method_1_code 5 = .ok (.bipush 6, 2) := by decide +kernel
theorem d_Sights_init_7 : decode prog_7_method_1_code 7 = .ok (.newarray .int, 2) := by decide +kernel
theorem d_Sights_init_9 : decode prog_7_method_1_code 9 = .ok (.putfield 9, 3) := by decide +kernel
theorem d_Sights_init_12 : decode prog_7_method_1_code 12 = .ok (.aload_n 0, 1) := by decide +kernel
theorem d_Sights_init_13 : decode prog_7_method_1_code 13 = .ok (.bipush 6, 2) := by decide +kernel
theorem d_Sights_init_15 : decode prog_7_method_1_code 15 = .ok (.newarray .int, 2) := by decide +kernel
theorem d_Sights_init_17 : decode prog_7_method_1_code 17 = .ok (.putfield 15, 3) := by decide +kernel
theorem d_Sights_init_20 : decode prog_7_method_1_code 20 = .ok (.aload_n 0, 1) := by decide +kernel
theorem d_Sights_init_21 : decode prog_7_method_1_code 21 = .ok (.iconst 0, 1) := by decide +kernel
theorem d_Sights_init_22 : decode prog_7_method_1_code 22 = .ok (.putfield 18, 3) := by decide +kernel
theorem d_Sights_init_25 : decode prog_7_method_1_code 25 = .ok (.return_, 1) := by decide +kernel
def B_Sights_init (g : Nat × Nat) : PS :=
  (sSq sSO
    (sSq (sF .ref 5 0 (eR 0) (eNA g 20 (eV (6 : Int32))))
    (sSq (sF .ref 5 1 (eR 0) (eNA g 20 (eV (6 : Int32))))
    (sSq (sF .int 5 2 (eR 0) (eV (0 : Int32)))
    sRv))))
def X_Sights_init : PM := fun vs h Q => (lx vs).length ≤ 1 ∧ B_Sights_init (h.length + 2, hsz h + 12) (fun _ _ => False) (fun _ _ => False) (fun _ _ => False) (fun o h' => (h'.length = h.length + 2 ∧ hsz h' = hsz h + 12) ∧ Q o h') (lini 1 vs) h
theorem v_Sights_init (l : Launch) : Ctr l y_Sights_init prog_7_method_1_code 1 none rm_Sights_init X_Sights_init := by
  refine Ctr_of (own := "PackLanes$Sights") (B := B_Sights_init) (KR := fun h Q o h' => (h'.length = h.length + 2 ∧ hsz h' = hsz h + 12) ∧ Q o h') (by decide) rfl (fun _ _ _ z => z) (fun _ _ _ _ z => ⟨Or.inr z.1, z.2⟩) (Or.inl rfl) (fun κ hl ho hR hrt hn0 => ?_)
  subst hl
  have hn : KO prog_7_method_1_code κ → (k_me κ).name = "<init>" := fun _ => hn0
  unfold B_Sights_init
  exact (S_sq (pc1 := 4) (S_so w_o_Sights_3 w_oi w_oc ho (rk2 hR rfl) d_Sights_init_0 d_Sights_init_1)
    (S_sq (pc1 := 12) (S_FR f_Sights_9 ho hn (fun _ => ⟨rfl, rfl⟩) (pc1 := 5) (pc2 := 9) (E_aln d_Sights_init_4 rfl) (E_NI rfl w_arrI (pc1 := 7) (E_bi d_Sights_init_5 rfl) d_Sights_init_7) d_Sights_init_9)
    (S_sq (pc1 := 20) (S_FR f_Sights_15 ho hn (fun _ => ⟨rfl, rfl⟩) (pc1 := 13) (pc2 := 17) (E_aln d_Sights_init_12 rfl) (E_NI rfl w_arrI (pc1 := 15) (E_bi d_Sights_init_13 rfl) d_Sights_init_15) d_Sights_init_17)
    (S_sq (pc1 := 25) (S_FI f_Sights_18 ho (pc1 := 21) (pc2 := 22) (E_aln d_Sights_init_20 rfl) (E_ic d_Sights_init_21 rfl) d_Sights_init_22)
    (S_rv hrt d_Sights_init_25)))))
theorem d_Links_init_0 : decode prog_4_method_1_code 0 = .ok (.aload_n 0, 1) := by decide +kernel
theorem d_Links_init_1 : decode prog_4_method_1_code 1 = .ok (.invokespecial 3, 3) := by decide +kernel
theorem d_Links_init_4 : decode prog_4_method_1_code 4 = .ok (.aload_n 0, 1) := by decide +kernel
theorem d_Links_init_5 : decode prog_4_method_1_code 5 = .ok (.bipush 16, 2) := by decide +kernel
theorem d_Links_init_7 : decode prog_4_method_1_code 7 = .ok (.newarray .int, 2) := by decide +kernel
theorem d_Links_init_9 : decode prog_4_method_1_code 9 = .ok (.putfield 9, 3) := by decide +kernel
theorem d_Links_init_12 : decode prog_4_method_1_code 12 = .ok (.aload_n 0, 1) := by decide +kernel
theorem d_Links_init_13 : decode prog_4_method_1_code 13 = .ok (.bipush 16, 2) := by decide +kernel
theorem d_Links_init_15 : decode prog_4_method_1_code 15 = .ok (.newarray .int, 2) := by decide +kernel
theorem d_Links_init_17 : decode prog_4_method_1_code 17 = .ok (.putfield 15, 3) := by decide +kernel
theorem d_Links_init_20 : decode prog_4_method_1_code 20 = .ok (.aload_n 0, 1) := by decide +kernel
theorem d_Links_init_21 : decode prog_4_method_1_code 21 = .ok (.bipush 16, 2) := by decide +kernel
theorem d_Links_init_23 : decode prog_4_method_1_code 23 = .ok (.newarray .int, 2) := by decide +kernel
theorem d_Links_init_25 : decode prog_4_method_1_code 25 = .ok (.putfield 18, 3) := by decide +kernel
theorem d_Links_init_28 : decode prog_4_method_1_code 28 = .ok (.aload_n 0, 1) := by decide +kernel
theorem d_Links_init_29 : decode prog_4_method_1_code 29 = .ok (.iconst 0, 1) := by decide +kernel
theorem d_Links_init_30 : decode prog_4_method_1_code 30 = .ok (.putfield 21, 3) := by decide +kernel
theorem d_Links_init_33 : decode prog_4_method_1_code 33 = .ok (.aload_n 0, 1) := by decide +kernel
theorem d_Links_init_34 : decode prog_4_method_1_code 34 = .ok (.aload_n 1, 1) := by decide +kernel
theorem d_Links_init_35 : decode prog_4_method_1_code 35 = .ok (.putfield 25, 3) := by decide +kernel
theorem d_Links_init_38 : decode prog_4_method_1_code 38 = .ok (.return_, 1) := by decide +kernel
def B_Links_init (g : Nat × Nat) : PS :=
  (sSq sSO
    (sSq (sF .ref 2 1 (eR 0) (eNA g 20 (eV (16 : Int32))))
    (sSq (sF .ref 2 2 (eR 0) (eNA g 20 (eV (16 : Int32))))
    (sSq (sF .ref 2 3 (eR 0) (eNA g 20 (eV (16 : Int32))))
    (sSq (sF .int 2 4 (eR 0) (eV (0 : Int32)))
    (sSq (sF .ref 2 0 (eR 0) (eR 1))
    sRv))))))
def X_Links_init : PM := fun vs h Q => (lx vs).length ≤ 2 ∧ B_Links_init (h.length + 3, hsz h + 48) (fun _ _ => False) (fun _ _ => False) (fun _ _ => False) (fun o h' => (h'.length = h.length + 3 ∧ hsz h' = hsz h + 48) ∧ Q o h') (lini 2 vs) h
theorem v_Links_init (l : Launch) : Ctr l y_Links_init prog_4_method_1_code 2 none rm_Links_init X_Links_init := by
  refine Ctr_of (own := "PackLanes$Links") (B := B_Links_init) (KR := fun h Q o h' => (h'.length = h.length + 3 ∧ hsz h' = hsz h + 48) ∧ Q o h') (by decide) rfl (fun _ _ _ z => z) (fun _ _ _ _ z => ⟨Or.inr z.1, z.2⟩) (Or.inl rfl) (fun κ hl ho hR hrt hn0 => ?_)
  subst hl
  have hn : KO prog_4_method_1_code κ → (k_me κ).name = "<init>" := fun _ => hn0
  unfold B_Links_init
  exact (S_sq (pc1 := 4) (S_so w_o_Links_3 w_oi w_oc ho (rk2 hR rfl) d_Links_init_0 d_Links_init_1)
    (S_sq (pc1 := 12) (S_FR f_Links_9 ho hn (fun _ => ⟨rfl, rfl⟩) (pc1 := 5) (pc2 := 9) (E_aln d_Links_init_4 rfl) (E_NI rfl w_arrI (pc1 := 7) (E_bi d_Links_init_5 rfl) d_Links_init_7) d_Links_init_9)
    (S_sq (pc1 := 20) (S_FR f_Links_15 ho hn (fun _ => ⟨rfl, rfl⟩) (pc1 := 13) (pc2 := 17) (E_aln d_Links_init_12 rfl) (E_NI rfl w_arrI (pc1 := 15) (E_bi d_Links_init_13 rfl) d_Links_init_15) d_Links_init_17)
    (S_sq (pc1 := 28) (S_FR f_Links_18 ho hn (fun _ => ⟨rfl, rfl⟩) (pc1 := 21) (pc2 := 25) (E_aln d_Links_init_20 rfl) (E_NI rfl w_arrI (pc1 := 23) (E_bi d_Links_init_21 rfl) d_Links_init_23) d_Links_init_25)
    (S_sq (pc1 := 33) (S_FI f_Links_21 ho (pc1 := 29) (pc2 := 30) (E_aln d_Links_init_28 rfl) (E_ic d_Links_init_29 rfl) d_Links_init_30)
    (S_sq (pc1 := 38) (S_FR f_Links_25 ho hn (fun _ => ⟨rfl, rfl⟩) (pc1 := 34) (pc2 := 35) (E_aln d_Links_init_33 rfl) (E_aln d_Links_init_34 rfl) d_Links_init_35)
    (S_rv hrt d_Links_init_38)))))))
theorem d_Tree_init_0 : decode prog_10_method_1_code 0 = .ok (.aload_n 0, 1) := by decide +kernel
theorem d_Tree_init_1 : decode prog_10_method_1_code 1 = .ok (.invokespecial 3, 3) := by decide +kernel
theorem d_Tree_init_4 : decode prog_10_method_1_code 4 = .ok (.aload_n 0, 1) := by decide +kernel
theorem d_Tree_init_5 : decode prog_10_method_1_code 5 = .ok (.bipush 8, 2) := by decide +kernel
theorem d_Tree_init_7 : decode prog_10_method_1_code 7 = .ok (.newarray .int, 2) := by decide +kernel
theorem d_Tree_init_9 : decode prog_10_method_1_code 9 = .ok (.putfield 11, 3) := by decide +kernel
theorem d_Tree_init_12 : decode prog_10_method_1_code 12 = .ok (.aload_n 0, 1) := by decide +kernel
theorem d_Tree_init_13 : decode prog_10_method_1_code 13 = .ok (.iconst 0, 1) := by decide +kernel
theorem d_Tree_init_14 : decode prog_10_method_1_code 14 = .ok (.putfield 15, 3) := by decide +kernel
theorem d_Tree_init_17 : decode prog_10_method_1_code 17 = .ok (.aload_n 0, 1) := by decide +kernel
theorem d_Tree_init_18 : decode prog_10_method_1_code 18 = .ok (.iconst 0, 1) := by decide +kernel
theorem d_Tree_init_19 : decode prog_10_method_1_code 19 = .ok (.putfield 19, 3) := by decide +kernel
theorem d_Tree_init_22 : decode prog_10_method_1_code 22 = .ok (.aload_n 0, 1) := by decide +kernel
theorem d_Tree_init_23 : decode prog_10_method_1_code 23 = .ok (.bipush 16, 2) := by decide +kernel
theorem d_Tree_init_25 : decode prog_10_method_1_code 25 = .ok (.newarray .int, 2) := by decide +kernel
theorem d_Tree_init_27 : decode prog_10_method_1_code 27 = .ok (.putfield 22, 3) := by decide +kernel
theorem d_Tree_init_30 : decode prog_10_method_1_code 30 = .ok (.aload_n 0, 1) := by decide +kernel
theorem d_Tree_init_31 : decode prog_10_method_1_code 31 = .ok (.iconst 0, 1) := by decide +kernel
theorem d_Tree_init_32 : decode prog_10_method_1_code 32 = .ok (.putfield 25, 3) := by decide +kernel
theorem d_Tree_init_35 : decode prog_10_method_1_code 35 = .ok (.aload_n 0, 1) := by decide +kernel
theorem d_Tree_init_36 : decode prog_10_method_1_code 36 = .ok (.iconst 2, 1) := by decide +kernel
theorem d_Tree_init_37 : decode prog_10_method_1_code 37 = .ok (.putfield 28, 3) := by decide +kernel
theorem d_Tree_init_40 : decode prog_10_method_1_code 40 = .ok (.aload_n 0, 1) := by decide +kernel
theorem d_Tree_init_41 : decode prog_10_method_1_code 41 = .ok (.iconst 0, 1) := by decide +kernel
theorem d_Tree_init_42 : decode prog_10_method_1_code 42 = .ok (.putfield 31, 3) := by decide +kernel
theorem d_Tree_init_45 : decode prog_10_method_1_code 45 = .ok (.aload_n 0, 1) := by decide +kernel
theorem d_Tree_init_46 : decode prog_10_method_1_code 46 = .ok (.iconst 0, 1) := by decide +kernel
theorem d_Tree_init_47 : decode prog_10_method_1_code 47 = .ok (.putfield 34, 3) := by decide +kernel
theorem d_Tree_init_50 : decode prog_10_method_1_code 50 = .ok (.aload_n 0, 1) := by decide +kernel
theorem d_Tree_init_51 : decode prog_10_method_1_code 51 = .ok (.iconst 0, 1) := by decide +kernel
theorem d_Tree_init_52 : decode prog_10_method_1_code 52 = .ok (.putfield 37, 3) := by decide +kernel
theorem d_Tree_init_55 : decode prog_10_method_1_code 55 = .ok (.aload_n 0, 1) := by decide +kernel
theorem d_Tree_init_56 : decode prog_10_method_1_code 56 = .ok (.aload_n 1, 1) := by decide +kernel
theorem d_Tree_init_57 : decode prog_10_method_1_code 57 = .ok (.putfield 40, 3) := by decide +kernel
theorem d_Tree_init_60 : decode prog_10_method_1_code 60 = .ok (.aload_n 0, 1) := by decide +kernel
theorem d_Tree_init_61 : decode prog_10_method_1_code 61 = .ok (.aload_n 2, 1) := by decide +kernel
theorem d_Tree_init_62 : decode prog_10_method_1_code 62 = .ok (.putfield 44, 3) := by decide +kernel
theorem d_Tree_init_65 : decode prog_10_method_1_code 65 = .ok (.return_, 1) := by decide +kernel
def B_Tree_init (g : Nat × Nat) : PS :=
  (sSq sSO
    (sSq (sF .ref 8 2 (eR 0) (eNA g 20 (eV (8 : Int32))))
    (sSq (sF .int 8 3 (eR 0) (eV (0 : Int32)))
    (sSq (sF .int 8 4 (eR 0) (eV (0 : Int32)))
    (sSq (sF .ref 8 5 (eR 0) (eNA g 20 (eV (16 : Int32))))
    (sSq (sF .int 8 6 (eR 0) (eV (0 : Int32)))
    (sSq (sF .int 8 7 (eR 0) (eV (2 : Int32)))
    (sSq (sF .int 8 8 (eR 0) (eV (0 : Int32)))
    (sSq (sF .int 8 9 (eR 0) (eV (0 : Int32)))
    (sSq (sF .int 8 10 (eR 0) (eV (0 : Int32)))
    (sSq (sF .ref 8 0 (eR 0) (eR 1))
    (sSq (sF .ref 8 1 (eR 0) (eR 2))
    sRv))))))))))))
def X_Tree_init : PM := fun vs h Q => (lx vs).length ≤ 3 ∧ B_Tree_init (h.length + 2, hsz h + 24) (fun _ _ => False) (fun _ _ => False) (fun _ _ => False) (fun o h' => (h'.length = h.length + 2 ∧ hsz h' = hsz h + 24) ∧ Q o h') (lini 3 vs) h
theorem v_Tree_init (l : Launch) : Ctr l y_Tree_init prog_10_method_1_code 3 none rm_Tree_init X_Tree_init := by
  refine Ctr_of (own := "PackLanes$Tree") (B := B_Tree_init) (KR := fun h Q o h' => (h'.length = h.length + 2 ∧ hsz h' = hsz h + 24) ∧ Q o h') (by decide) rfl (fun _ _ _ z => z) (fun _ _ _ _ z => ⟨Or.inr z.1, z.2⟩) (Or.inl rfl) (fun κ hl ho hR hrt hn0 => ?_)
  subst hl
  have hn : KO prog_10_method_1_code κ → (k_me κ).name = "<init>" := fun _ => hn0
  unfold B_Tree_init
  exact (S_sq (pc1 := 4) (S_so w_o_Tree_3 w_oi w_oc ho (rk2 hR rfl) d_Tree_init_0 d_Tree_init_1)
    (S_sq (pc1 := 12) (S_FR f_Tree_11 ho hn (fun _ => ⟨rfl, rfl⟩) (pc1 := 5) (pc2 := 9) (E_aln d_Tree_init_4 rfl) (E_NI rfl w_arrI (pc1 := 7) (E_bi d_Tree_init_5 rfl) d_Tree_init_7) d_Tree_init_9)
    (S_sq (pc1 := 17) (S_FI f_Tree_15 ho (pc1 := 13) (pc2 := 14) (E_aln d_Tree_init_12 rfl) (E_ic d_Tree_init_13 rfl) d_Tree_init_14)
    (S_sq (pc1 := 22) (S_FI f_Tree_19 ho (pc1 := 18) (pc2 := 19) (E_aln d_Tree_init_17 rfl) (E_ic d_Tree_init_18 rfl) d_Tree_init_19)
    (S_sq (pc1 := 30) (S_FR f_Tree_22 ho hn (fun _ => ⟨rfl, rfl⟩) (pc1 := 23) (pc2 := 27) (E_aln d_Tree_init_22 rfl) (E_NI rfl w_arrI (pc1 := 25) (E_bi d_Tree_init_23 rfl) d_Tree_init_25) d_Tree_init_27)
    (S_sq (pc1 := 35) (S_FI f_Tree_25 ho (pc1 := 31) (pc2 := 32) (E_aln d_Tree_init_30 rfl) (E_ic d_Tree_init_31 rfl) d_Tree_init_32)
    (S_sq (pc1 := 40) (S_FI f_Tree_28 ho (pc1 := 36) (pc2 := 37) (E_aln d_Tree_init_35 rfl) (E_ic d_Tree_init_36 rfl) d_Tree_init_37)
    (S_sq (pc1 := 45) (S_FI f_Tree_31 ho (pc1 := 41) (pc2 := 42) (E_aln d_Tree_init_40 rfl) (E_ic d_Tree_init_41 rfl) d_Tree_init_42)
    (S_sq (pc1 := 50) (S_FI f_Tree_34 ho (pc1 := 46) (pc2 := 47) (E_aln d_Tree_init_45 rfl) (E_ic d_Tree_init_46 rfl) d_Tree_init_47)
    (S_sq (pc1 := 55) (S_FI f_Tree_37 ho (pc1 := 51) (pc2 := 52) (E_aln d_Tree_init_50 rfl) (E_ic d_Tree_init_51 rfl) d_Tree_init_52)
    (S_sq (pc1 := 60) (S_FR f_Tree_40 ho hn (fun _ => ⟨rfl, rfl⟩) (pc1 := 56) (pc2 := 57) (E_aln d_Tree_init_55 rfl) (E_aln d_Tree_init_56 rfl) d_Tree_init_57)
    (S_sq (pc1 := 65) (S_FR f_Tree_44 ho hn (fun _ => ⟨rfl, rfl⟩) (pc1 := 61) (pc2 := 62) (E_aln d_Tree_init_60 rfl) (E_aln d_Tree_init_61 rfl) d_Tree_init_62)
    (S_rv hrt d_Tree_init_65)))))))))))))
theorem d_Pack_init_0 : decode prog_6_method_1_code 0 = .ok (.aload_n 0, 1) := by decide +kernel
theorem d_Pack_init_1 : decode prog_6_method_1_code 1 = .ok (.invokespecial 3, 3) := by decide +kernel
theorem d_Pack_init_4 : decode prog_6_method_1_code 4 = .ok (.aload_n 0, 1) := by decide +kernel
theorem d_Pack_init_5 : decode prog_6_method_1_code 5 = .ok (.iconst 2, 1) := by decide +kernel
theorem d_Pack_init_6 : decode prog_6_method_1_code 6 = .ok (.putfield 9, 3) := by decide +kernel
theorem d_Pack_init_9 : decode prog_6_method_1_code 9 = .ok (.aload_n 0, 1) := by decide +kernel
theorem d_Pack_init_10 : decode prog_6_method_1_code 10 = .ok (.bipush 16, 2) := by decide +kernel
theorem d_Pack_init_12 : decode prog_6_method_1_code 12 = .ok (.newarray .int, 2) := by decide +kernel
theorem d_Pack_init_14 : decode prog_6_method_1_code 14 = .ok (.putfield 15, 3) := by decide +kernel
theorem d_Pack_init_17 : decode prog_6_method_1_code 17 = .ok (.aload_n 0, 1) := by decide +kernel
theorem d_Pack_init_18 : decode prog_6_method_1_code 18 = .ok (.bipush 16, 2) := by decide +kernel
theorem d_Pack_init_20 : decode prog_6_method_1_code 20 = .ok (.newarray .int, 2) := by decide +kernel
theorem d_Pack_init_22 : decode prog_6_method_1_code 22 = .ok (.putfield 19, 3) := by decide +kernel
theorem d_Pack_init_25 : decode prog_6_method_1_code 25 = .ok (.aload_n 0, 1) := by decide +kernel
theorem d_Pack_init_26 : decode prog_6_method_1_code 26 = .ok (.bipush 16, 2) := by decide +kernel
theorem d_Pack_init_28 : decode prog_6_method_1_code 28 = .ok (.newarray .int, 2) := by decide +kernel
theorem d_Pack_init_30 : decode prog_6_method_1_code 30 = .ok (.putfield 22, 3) := by decide +kernel
theorem d_Pack_init_33 : decode prog_6_method_1_code 33 = .ok (.aload_n 0, 1) := by decide +kernel
theorem d_Pack_init_34 : decode prog_6_method_1_code 34 = .ok (.bipush 16, 2) := by decide +kernel
theorem d_Pack_init_36 : decode prog_6_method_1_code 36 = .ok (.newarray .int, 2) := by decide +kernel
theorem d_Pack_init_38 : decode prog_6_method_1_code 38 = .ok (.putfield 25, 3) := by decide +kernel
theorem d_Pack_init_41 : decode prog_6_method_1_code 41 = .ok (.aload_n 0, 1) := by decide +kernel
theorem d_Pack_init_42 : decode prog_6_method_1_code 42 = .ok (.bipush 16, 2) := by decide +kernel
theorem d_Pack_init_44 : decode prog_6_method_1_code 44 = .ok (.newarray .int, 2) := by decide +kernel
theorem d_Pack_init_46 : decode prog_6_method_1_code 46 = .ok (.putfield 28, 3) := by decide +kernel
theorem d_Pack_init_49 : decode prog_6_method_1_code 49 = .ok (.aload_n 0, 1) := by decide +kernel
theorem d_Pack_init_50 : decode prog_6_method_1_code 50 = .ok (.iconst 0, 1) := by decide +kernel
theorem d_Pack_init_51 : decode prog_6_method_1_code 51 = .ok (.putfield 31, 3) := by decide +kernel
theorem d_Pack_init_54 : decode prog_6_method_1_code 54 = .ok (.aload_n 0, 1) := by decide +kernel
theorem d_Pack_init_55 : decode prog_6_method_1_code 55 = .ok (.iconst 0, 1) := by decide +kernel
theorem d_Pack_init_56 : decode prog_6_method_1_code 56 = .ok (.putfield 34, 3) := by decide +kernel
theorem d_Pack_init_59 : decode prog_6_method_1_code 59 = .ok (.aload_n 0, 1) := by decide +kernel
theorem d_Pack_init_60 : decode prog_6_method_1_code 60 = .ok (.iconst 0, 1) := by decide +kernel
theorem d_Pack_init_61 : decode prog_6_method_1_code 61 = .ok (.putfield 37, 3) := by decide +kernel
theorem d_Pack_init_64 : decode prog_6_method_1_code 64 = .ok (.aload_n 0, 1) := by decide +kernel
theorem d_Pack_init_65 : decode prog_6_method_1_code 65 = .ok (.iconst 0, 1) := by decide +kernel
theorem d_Pack_init_66 : decode prog_6_method_1_code 66 = .ok (.putfield 40, 3) := by decide +kernel
theorem d_Pack_init_69 : decode prog_6_method_1_code 69 = .ok (.aload_n 0, 1) := by decide +kernel
theorem d_Pack_init_70 : decode prog_6_method_1_code 70 = .ok (.iconst 0, 1) := by decide +kernel
theorem d_Pack_init_71 : decode prog_6_method_1_code 71 = .ok (.putfield 43, 3) := by decide +kernel
theorem d_Pack_init_74 : decode prog_6_method_1_code 74 = .ok (.aload_n 0, 1) := by decide +kernel
theorem d_Pack_init_75 : decode prog_6_method_1_code 75 = .ok (.aload_n 1, 1) := by decide +kernel
theorem d_Pack_init_76 : decode prog_6_method_1_code 76 = .ok (.putfield 46, 3) := by decide +kernel
theorem d_Pack_init_79 : decode prog_6_method_1_code 79 = .ok (.aload_n 0, 1) := by decide +kernel
theorem d_Pack_init_80 : decode prog_6_method_1_code 80 = .ok (.new 50, 3) := by decide +kernel
theorem d_Pack_init_83 : decode prog_6_method_1_code 83 = .ok (.dup, 1) := by decide +kernel
theorem d_Pack_init_84 : decode prog_6_method_1_code 84 = .ok (.aload_n 1, 1) := by decide +kernel
theorem d_Pack_init_85 : decode prog_6_method_1_code 85 = .ok (.invokespecial 52, 3) := by decide +kernel
theorem d_Pack_init_88 : decode prog_6_method_1_code 88 = .ok (.putfield 55, 3) := by decide +kernel
theorem d_Pack_init_91 : decode prog_6_method_1_code 91 = .ok (.aload_n 0, 1) := by decide +kernel
theorem d_Pack_init_92 : decode prog_6_method_1_code 92 = .ok (.new 59, 3) := by decide +kernel
theorem d_Pack_init_95 : decode prog_6_method_1_code 95 = .ok (.dup, 1) := by decide +kernel
theorem d_Pack_init_96 : decode prog_6_method_1_code 96 = .ok (.aload_n 1, 1) := by decide +kernel
theorem d_Pack_init_97 : decode prog_6_method_1_code 97 = .ok (.aload_n 0, 1) := by decide +kernel
theorem d_Pack_init_98 : decode prog_6_method_1_code 98 = .ok (.getfield 55, 3) := by decide +kernel
theorem d_Pack_init_101 : decode prog_6_method_1_code 101 = .ok (.invokespecial 61, 3) := by decide +kernel
theorem d_Pack_init_104 : decode prog_6_method_1_code 104 = .ok (.putfield 64, 3) := by decide +kernel
theorem d_Pack_init_107 : decode prog_6_method_1_code 107 = .ok (.return_, 1) := by decide +kernel
def B_Pack_init (g : Nat × Nat) : PS :=
  (sSq sSO
    (sSq (sF .int 4 3 (eR 0) (eV (2 : Int32)))
    (sSq (sF .ref 4 4 (eR 0) (eNA g 20 (eV (16 : Int32))))
    (sSq (sF .ref 4 5 (eR 0) (eNA g 20 (eV (16 : Int32))))
    (sSq (sF .ref 4 6 (eR 0) (eNA g 20 (eV (16 : Int32))))
    (sSq (sF .ref 4 7 (eR 0) (eNA g 20 (eV (16 : Int32))))
    (sSq (sF .ref 4 8 (eR 0) (eNA g 20 (eV (16 : Int32))))
    (sSq (sF .int 4 9 (eR 0) (eV (0 : Int32)))
    (sSq (sF .int 4 10 (eR 0) (eV (0 : Int32)))
    (sSq (sF .int 4 11 (eR 0) (eV (0 : Int32)))
    (sSq (sF .int 4 12 (eR 0) (eV (0 : Int32)))
    (sSq (sF .int 4 13 (eR 0) (eV (0 : Int32)))
    (sSq (sF .ref 4 0 (eR 0) (eR 1))
    (sSq (sF .ref 4 1 (eR 0) (eNew g 2 [.null, .null, .null, .null, .int 0] rm_Links_init 1 X_Links_init (aC .ref (eR 1) aN)))
    (sSq (sF .ref 4 2 (eR 0) (eNew g 8 [.null, .null, .null, .int 0, .int 0, .null, .int 0, .int 0, .int 0, .int 0, .int 0] rm_Tree_init 2 X_Tree_init (aC .ref (eR 1) (aC .ref (eFR 4 1 (eR 0)) aN))))
    sRv)))))))))))))))
def X_Pack_init : PM := fun vs h Q => (lx vs).length ≤ 2 ∧ B_Pack_init (h.length + 12, hsz h + 168) (fun _ _ => False) (fun _ _ => False) (fun _ _ => False) (fun o h' => (h'.length = h.length + 12 ∧ hsz h' = hsz h + 168) ∧ Q o h') (lini 2 vs) h
theorem v_Pack_init (l : Launch) : Ctr l y_Pack_init prog_6_method_1_code 2 none rm_Pack_init X_Pack_init := by
  refine Ctr_of (own := "PackLanes$Packer") (B := B_Pack_init) (KR := fun h Q o h' => (h'.length = h.length + 12 ∧ hsz h' = hsz h + 168) ∧ Q o h') (by decide) rfl (fun _ _ _ z => z) (fun _ _ _ _ z => ⟨Or.inr z.1, z.2⟩) (Or.inl rfl) (fun κ hl ho hR hrt hn0 => ?_)
  subst hl
  have hn : KO prog_6_method_1_code κ → (k_me κ).name = "<init>" := fun _ => hn0
  unfold B_Pack_init
  exact (S_sq (pc1 := 4) (S_so w_o_Pack_3 w_oi w_oc ho (rk2 hR rfl) d_Pack_init_0 d_Pack_init_1)
    (S_sq (pc1 := 9) (S_FI f_Pack_9 ho (pc1 := 5) (pc2 := 6) (E_aln d_Pack_init_4 rfl) (E_ic d_Pack_init_5 rfl) d_Pack_init_6)
    (S_sq (pc1 := 17) (S_FR f_Pack_15 ho hn (fun _ => ⟨rfl, rfl⟩) (pc1 := 10) (pc2 := 14) (E_aln d_Pack_init_9 rfl) (E_NI rfl w_arrI (pc1 := 12) (E_bi d_Pack_init_10 rfl) d_Pack_init_12) d_Pack_init_14)
    (S_sq (pc1 := 25) (S_FR f_Pack_19 ho hn (fun _ => ⟨rfl, rfl⟩) (pc1 := 18) (pc2 := 22) (E_aln d_Pack_init_17 rfl) (E_NI rfl w_arrI (pc1 := 20) (E_bi d_Pack_init_18 rfl) d_Pack_init_20) d_Pack_init_22)
    (S_sq (pc1 := 33) (S_FR f_Pack_22 ho hn (fun _ => ⟨rfl, rfl⟩) (pc1 := 26) (pc2 := 30) (E_aln d_Pack_init_25 rfl) (E_NI rfl w_arrI (pc1 := 28) (E_bi d_Pack_init_26 rfl) d_Pack_init_28) d_Pack_init_30)
    (S_sq (pc1 := 41) (S_FR f_Pack_25 ho hn (fun _ => ⟨rfl, rfl⟩) (pc1 := 34) (pc2 := 38) (E_aln d_Pack_init_33 rfl) (E_NI rfl w_arrI (pc1 := 36) (E_bi d_Pack_init_34 rfl) d_Pack_init_36) d_Pack_init_38)
    (S_sq (pc1 := 49) (S_FR f_Pack_28 ho hn (fun _ => ⟨rfl, rfl⟩) (pc1 := 42) (pc2 := 46) (E_aln d_Pack_init_41 rfl) (E_NI rfl w_arrI (pc1 := 44) (E_bi d_Pack_init_42 rfl) d_Pack_init_44) d_Pack_init_46)
    (S_sq (pc1 := 54) (S_FI f_Pack_31 ho (pc1 := 50) (pc2 := 51) (E_aln d_Pack_init_49 rfl) (E_ic d_Pack_init_50 rfl) d_Pack_init_51)
    (S_sq (pc1 := 59) (S_FI f_Pack_34 ho (pc1 := 55) (pc2 := 56) (E_aln d_Pack_init_54 rfl) (E_ic d_Pack_init_55 rfl) d_Pack_init_56)
    (S_sq (pc1 := 64) (S_FI f_Pack_37 ho (pc1 := 60) (pc2 := 61) (E_aln d_Pack_init_59 rfl) (E_ic d_Pack_init_60 rfl) d_Pack_init_61)
    (S_sq (pc1 := 69) (S_FI f_Pack_40 ho (pc1 := 65) (pc2 := 66) (E_aln d_Pack_init_64 rfl) (E_ic d_Pack_init_65 rfl) d_Pack_init_66)
    (S_sq (pc1 := 74) (S_FI f_Pack_43 ho (pc1 := 70) (pc2 := 71) (E_aln d_Pack_init_69 rfl) (E_ic d_Pack_init_70 rfl) d_Pack_init_71)
    (S_sq (pc1 := 79) (S_FR f_Pack_46 ho hn (fun _ => ⟨rfl, rfl⟩) (pc1 := 75) (pc2 := 76) (E_aln d_Pack_init_74 rfl) (E_aln d_Pack_init_75 rfl) d_Pack_init_76)
    (S_sq (pc1 := 91) (S_FR f_Pack_55 ho hn (fun _ => ⟨rfl, rfl⟩) (pc1 := 80) (pc2 := 88) (E_aln d_Pack_init_79 rfl) (E_new rfl n_Pack_50 k_Pack_52 (v_Links_init _) ho (rk hR rfl) (by decide) d_Pack_init_80 d_Pack_init_83 (pc1 := 85) (A_c catR (pc1 := 85) (E_aln d_Pack_init_84 rfl) A_n) d_Pack_init_85) d_Pack_init_88)
    (S_sq (pc1 := 107) (S_FR f_Pack_64 ho hn (fun _ => ⟨rfl, rfl⟩) (pc1 := 92) (pc2 := 104) (E_aln d_Pack_init_91 rfl) (E_new rfl n_Pack_59 k_Pack_61 (v_Tree_init _) ho (rk hR rfl) (by decide) d_Pack_init_92 d_Pack_init_95 (pc1 := 101) (A_c catR (pc1 := 97) (E_aln d_Pack_init_96 rfl) (A_c catR (pc1 := 101) (E_fR f_Pack_55 ho (pc1 := 98) (E_aln d_Pack_init_97 rfl) d_Pack_init_98) A_n)) d_Pack_init_101) d_Pack_init_104)
    (S_rv hrt d_Pack_init_107))))))))))))))))
theorem d_Mach_init_0 : decode prog_5_method_1_code 0 = .ok (.aload_n 0, 1) := by decide +kernel
theorem d_Mach_init_1 : decode prog_5_method_1_code 1 = .ok (.invokespecial 3, 3) := by decide +kernel
theorem d_Mach_init_4 : decode prog_5_method_1_code 4 = .ok (.aload_n 0, 1) := by decide +kernel
theorem d_Mach_init_5 : decode prog_5_method_1_code 5 = .ok (.bipush 16, 2) := by decide +kernel
theorem d_Mach_init_7 : decode prog_5_method_1_code 7 = .ok (.newarray .int, 2) := by decide +kernel
theorem d_Mach_init_9 : decode prog_5_method_1_code 9 = .ok (.putfield 9, 3) := by decide +kernel
theorem d_Mach_init_12 : decode prog_5_method_1_code 12 = .ok (.aload_n 0, 1) := by decide +kernel
theorem d_Mach_init_13 : decode prog_5_method_1_code 13 = .ok (.bipush 16, 2) := by decide +kernel
theorem d_Mach_init_15 : decode prog_5_method_1_code 15 = .ok (.newarray .int, 2) := by decide +kernel
theorem d_Mach_init_17 : decode prog_5_method_1_code 17 = .ok (.putfield 15, 3) := by decide +kernel
theorem d_Mach_init_20 : decode prog_5_method_1_code 20 = .ok (.aload_n 0, 1) := by decide +kernel
theorem d_Mach_init_21 : decode prog_5_method_1_code 21 = .ok (.bipush (-9), 2) := by decide +kernel
theorem d_Mach_init_23 : decode prog_5_method_1_code 23 = .ok (.putfield 18, 3) := by decide +kernel
theorem d_Mach_init_26 : decode prog_5_method_1_code 26 = .ok (.aload_n 0, 1) := by decide +kernel
theorem d_Mach_init_27 : decode prog_5_method_1_code 27 = .ok (.bipush 8, 2) := by decide +kernel
theorem d_Mach_init_29 : decode prog_5_method_1_code 29 = .ok (.putfield 22, 3) := by decide +kernel
theorem d_Mach_init_32 : decode prog_5_method_1_code 32 = .ok (.aload_n 0, 1) := by decide +kernel
theorem d_Mach_init_33 : decode prog_5_method_1_code 33 = .ok (.aload_n 1, 1) := by decide +kernel
theorem d_Mach_init_34 : decode prog_5_method_1_code 34 = .ok (.putfield 25, 3) := by decide +kernel
theorem d_Mach_init_37 : decode prog_5_method_1_code 37 = .ok (.return_, 1) := by decide +kernel
def B_Mach_init (g : Nat × Nat) : PS :=
  (sSq sSO
    (sSq (sF .ref 3 1 (eR 0) (eNA g 20 (eV (16 : Int32))))
    (sSq (sF .ref 3 2 (eR 0) (eNA g 20 (eV (16 : Int32))))
    (sSq (sF .int 3 3 (eR 0) (eV (-9 : Int32)))
    (sSq (sF .int 3 4 (eR 0) (eV (8 : Int32)))
    (sSq (sF .ref 3 0 (eR 0) (eR 1))
    sRv))))))
def X_Mach_init : PM := fun vs h Q => (lx vs).length ≤ 2 ∧ B_Mach_init (h.length + 2, hsz h + 32) (fun _ _ => False) (fun _ _ => False) (fun _ _ => False) (fun o h' => (h'.length = h.length + 2 ∧ hsz h' = hsz h + 32) ∧ Q o h') (lini 2 vs) h
theorem v_Mach_init (l : Launch) : Ctr l y_Mach_init prog_5_method_1_code 2 none rm_Mach_init X_Mach_init := by
  refine Ctr_of (own := "PackLanes$Machine") (B := B_Mach_init) (KR := fun h Q o h' => (h'.length = h.length + 2 ∧ hsz h' = hsz h + 32) ∧ Q o h') (by decide) rfl (fun _ _ _ z => z) (fun _ _ _ _ z => ⟨Or.inr z.1, z.2⟩) (Or.inl rfl) (fun κ hl ho hR hrt hn0 => ?_)
  subst hl
  have hn : KO prog_5_method_1_code κ → (k_me κ).name = "<init>" := fun _ => hn0
  unfold B_Mach_init
  exact (S_sq (pc1 := 4) (S_so w_o_Mach_3 w_oi w_oc ho (rk2 hR rfl) d_Mach_init_0 d_Mach_init_1)
    (S_sq (pc1 := 12) (S_FR f_Mach_9 ho hn (fun _ => ⟨rfl, rfl⟩) (pc1 := 5) (pc2 := 9) (E_aln d_Mach_init_4 rfl) (E_NI rfl w_arrI (pc1 := 7) (E_bi d_Mach_init_5 rfl) d_Mach_init_7) d_Mach_init_9)
    (S_sq (pc1 := 20) (S_FR f_Mach_15 ho hn (fun _ => ⟨rfl, rfl⟩) (pc1 := 13) (pc2 := 17) (E_aln d_Mach_init_12 rfl) (E_NI rfl w_arrI (pc1 := 15) (E_bi d_Mach_init_13 rfl) d_Mach_init_15) d_Mach_init_17)
    (S_sq (pc1 := 26) (S_FI f_Mach_18 ho (pc1 := 21) (pc2 := 23) (E_aln d_Mach_init_20 rfl) (E_bi d_Mach_init_21 rfl) d_Mach_init_23)
    (S_sq (pc1 := 32) (S_FI f_Mach_22 ho (pc1 := 27) (pc2 := 29) (E_aln d_Mach_init_26 rfl) (E_bi d_Mach_init_27 rfl) d_Mach_init_29)
    (S_sq (pc1 := 37) (S_FR f_Mach_25 ho hn (fun _ => ⟨rfl, rfl⟩) (pc1 := 33) (pc2 := 34) (E_aln d_Mach_init_32 rfl) (E_aln d_Mach_init_33 rfl) d_Mach_init_34)
    (S_rv hrt d_Mach_init_37)))))))
theorem d_PL_holds_0 : decode prog_1_method_35_code 0 = .ok (.iload_n 0, 1) := by decide +kernel
theorem d_PL_holds_1 : decode prog_1_method_35_code 1 = .ok (.iload_n 1, 1) := by decide +kernel
theorem d_PL_holds_2 : decode prog_1_method_35_code 2 = .ok (.ishr, 1) := by decide +kernel
theorem d_PL_holds_3 : decode prog_1_method_35_code 3 = .ok (.iconst 1, 1) := by decide +kernel
theorem d_PL_holds_4 : decode prog_1_method_35_code 4 = .ok (.iand, 1) := by decide +kernel
theorem d_PL_holds_5 : decode prog_1_method_35_code 5 = .ok (.iconst 1, 1) := by decide +kernel
theorem d_PL_holds_6 : decode prog_1_method_35_code 6 = .ok (.if_icmp .ne 7, 3) := by decide +kernel
theorem d_PL_holds_9 : decode prog_1_method_35_code 9 = .ok (.iconst 1, 1) := by decide +kernel
theorem d_PL_holds_10 : decode prog_1_method_35_code 10 = .ok (.goto 4, 3) := by decide +kernel
theorem d_PL_holds_13 : decode prog_1_method_35_code 13 = .ok (.iconst 0, 1) := by decide +kernel
theorem d_PL_holds_14 : decode prog_1_method_35_code 14 = .ok (.ireturn, 1) := by decide +kernel
def B_PL_holds (_ : Nat × Nat) : PS :=
  (sRz (eC (e2 (fun x y : Int32 => decide (x = y)) (e2 (fun x y : Int32 => x &&& y) (e2 (fun x y : Int32 => x >>> (y &&& 31)) (eI 0) (eI 1)) (eV (1 : Int32))) (eV (1 : Int32)))))
def X_PL_holds : PM := fun vs h Q => (lx vs).length ≤ 2 ∧ B_PL_holds (h.length + 0, hsz h + 0) (fun _ _ => False) (fun _ _ => False) (fun _ _ => False) Q (lini 2 vs) h
theorem v_PL_holds (l : Launch) : Ctr l y_PL_holds prog_1_method_35_code 2 (some .boolean) rm_PL_holds X_PL_holds := by
  refine Ctr_of (own := "PackLanes") (B := B_PL_holds) (KR := fun _ Q => Q) (by decide) rfl (fun _ _ _ z => z) (fun _ _ _ _ z => ⟨Or.inl ⟨rfl, rfl⟩, z⟩) (Or.inr (Or.inr (Or.inl rfl))) (fun κ hl ho hR hrt hn0 => ?_)
  subst hl
  unfold B_PL_holds
  exact (S_rz hrt (pc1 := 14) (E_C (pT := 9) (pF := 13) (pc2 := 14) (J2_eq (pF := 13) (pc1 := 5) (pc2 := 6) (E_iand (pc1 := 3) (pc2 := 4) (E_ishr (pc1 := 1) (pc2 := 2) (E_iln d_PL_holds_0 rfl) (E_iln d_PL_holds_1 rfl) d_PL_holds_2) (E_ic d_PL_holds_3 rfl) d_PL_holds_4) (E_ic d_PL_holds_5 rfl) d_PL_holds_6 rfl) d_PL_holds_9 d_PL_holds_10 rfl d_PL_holds_13 rfl) d_PL_holds_14)
theorem d_Code_usesMemory_0 : decode prog_3_method_7_code 0 = .ok (.aload_n 0, 1) := by decide +kernel
theorem d_Code_usesMemory_1 : decode prog_3_method_7_code 1 = .ok (.getfield 9, 3) := by decide +kernel
theorem d_Code_usesMemory_4 : decode prog_3_method_7_code 4 = .ok (.iload_n 1, 1) := by decide +kernel
theorem d_Code_usesMemory_5 : decode prog_3_method_7_code 5 = .ok (.iaload, 1) := by decide +kernel
theorem d_Code_usesMemory_6 : decode prog_3_method_7_code 6 = .ok (.ifCond .eq 14, 3) := by decide +kernel
theorem d_Code_usesMemory_9 : decode prog_3_method_7_code 9 = .ok (.aload_n 0, 1) := by decide +kernel
theorem d_Code_usesMemory_10 : decode prog_3_method_7_code 10 = .ok (.getfield 9, 3) := by decide +kernel
theorem d_Code_usesMemory_13 : decode prog_3_method_7_code 13 = .ok (.iload_n 1, 1) := by decide +kernel
theorem d_Code_usesMemory_14 : decode prog_3_method_7_code 14 = .ok (.iaload, 1) := by decide +kernel
theorem d_Code_usesMemory_15 : decode prog_3_method_7_code 15 = .ok (.bipush 6, 2) := by decide +kernel
theorem d_Code_usesMemory_17 : decode prog_3_method_7_code 17 = .ok (.if_icmp .ne 7, 3) := by decide +kernel
theorem d_Code_usesMemory_20 : decode prog_3_method_7_code 20 = .ok (.iconst 1, 1) := by decide +kernel
theorem d_Code_usesMemory_21 : decode prog_3_method_7_code 21 = .ok (.goto 4, 3) := by decide +kernel
theorem d_Code_usesMemory_24 : decode prog_3_method_7_code 24 = .ok (.iconst 0, 1) := by decide +kernel
theorem d_Code_usesMemory_25 : decode prog_3_method_7_code 25 = .ok (.ireturn, 1) := by decide +kernel
def B_Code_usesMemory (_ : Nat × Nat) : PS :=
  (sRz (eC (cO (e1 (fun x : Int32 => decide (x = 0)) (eAI (eFR 1 0 (eR 0)) (eI 1))) (e2 (fun x y : Int32 => decide (x = y)) (eAI (eFR 1 0 (eR 0)) (eI 1)) (eV (6 : Int32))))))
def X_Code_usesMemory : PM := fun vs h Q => (lx vs).length ≤ 2 ∧ B_Code_usesMemory (h.length + 0, hsz h + 0) (fun _ _ => False) (fun _ _ => False) (fun _ _ => False) Q (lini 2 vs) h
theorem v_Code_usesMemory (l : Launch) : Ctr l y_Code_usesMemory prog_3_method_7_code 2 (some .boolean) rm_Code_usesMemory X_Code_usesMemory := by
  refine Ctr_of (own := "PackLanes$Code") (B := B_Code_usesMemory) (KR := fun _ Q => Q) (by decide) rfl (fun _ _ _ z => z) (fun _ _ _ _ z => ⟨Or.inl ⟨rfl, rfl⟩, z⟩) (Or.inr (Or.inr (Or.inl rfl))) (fun κ hl ho hR hrt hn0 => ?_)
  subst hl
  unfold B_Code_usesMemory
  exact (S_rz hrt (pc1 := 25) (E_C (pT := 20) (pF := 24) (pc2 := 25) (C_or (pc1 := 9) (T1_eq (pT := 20) (pc2 := 6) (E_aI (pc1 := 4) (pc2 := 5) (E_fR f_Code_9 ho (pc1 := 1) (E_aln d_Code_usesMemory_0 rfl) d_Code_usesMemory_1) (E_iln d_Code_usesMemory_4 rfl) d_Code_usesMemory_5) d_Code_usesMemory_6 rfl) (J2_eq (pF := 24) (pc1 := 15) (pc2 := 17) (E_aI (pc1 := 13) (pc2 := 14) (E_fR f_Code_9 ho (pc1 := 10) (E_aln d_Code_usesMemory_9 rfl) d_Code_usesMemory_10) (E_iln d_Code_usesMemory_13 rfl) d_Code_usesMemory_14) (E_bi d_Code_usesMemory_15 rfl) d_Code_usesMemory_17 rfl)) d_Code_usesMemory_20 d_Code_usesMemory_21 rfl d_Code_usesMemory_24 rfl) d_Code_usesMemory_25)
theorem d_Code_addressOf_0 : decode prog_3_method_9_code 0 = .ok (.aload_n 0, 1) := by decide +kernel
theorem d_Code_addressOf_1 : decode prog_3_method_9_code 1 = .ok (.getfield 15, 3) := by decide +kernel
theorem d_Code_addressOf_4 : decode prog_3_method_9_code 4 = .ok (.iload_n 1, 1) := by decide +kernel
theorem d_Code_addressOf_5 : decode prog_3_method_9_code 5 = .ok (.iaload, 1) := by decide +kernel
theorem d_Code_addressOf_6 : decode prog_3_method_9_code 6 = .ok (.ifCond .ne 12, 3) := by decide +kernel
theorem d_Code_addressOf_9 : decode prog_3_method_9_code 9 = .ok (.aload_n 0, 1) := by decide +kernel
theorem d_Code_addressOf_10 : decode prog_3_method_9_code 10 = .ok (.getfield 18, 3) := by decide +kernel
theorem d_Code_addressOf_13 : decode prog_3_method_9_code 13 = .ok (.iload_n 1, 1) := by decide +kernel
theorem d_Code_addressOf_14 : decode prog_3_method_9_code 14 = .ok (.iaload, 1) := by decide +kernel
theorem d_Code_addressOf_15 : decode prog_3_method_9_code 15 = .ok (.goto 11, 3) := by decide +kernel
theorem d_Code_addressOf_18 : decode prog_3_method_9_code 18 = .ok (.iload_n 2, 1) := by decide +kernel
theorem d_Code_addressOf_19 : decode prog_3_method_9_code 19 = .ok (.aload_n 0, 1) := by decide +kernel
theorem d_Code_addressOf_20 : decode prog_3_method_9_code 20 = .ok (.getfield 18, 3) := by decide +kernel
theorem d_Code_addressOf_23 : decode prog_3_method_9_code 23 = .ok (.iload_n 1, 1) := by decide +kernel
theorem d_Code_addressOf_24 : decode prog_3_method_9_code 24 = .ok (.iaload, 1) := by decide +kernel
theorem d_Code_addressOf_25 : decode prog_3_method_9_code 25 = .ok (.iadd, 1) := by decide +kernel
theorem d_Code_addressOf_26 : decode prog_3_method_9_code 26 = .ok (.bipush 15, 2) := by decide +kernel
theorem d_Code_addressOf_28 : decode prog_3_method_9_code 28 = .ok (.iand, 1) := by decide +kernel
theorem d_Code_addressOf_29 : decode prog_3_method_9_code 29 = .ok (.ireturn, 1) := by decide +kernel
def B_Code_addressOf (_ : Nat × Nat) : PS :=
  (sRt .int (e2 (fun x y : Int32 => x &&& y) (eIf (e1 (fun x : Int32 => decide (x = 0)) (eAI (eFR 1 1 (eR 0)) (eI 1))) (eAI (eFR 1 2 (eR 0)) (eI 1)) (e2 (fun x y : Int32 => x + y) (eI 2) (eAI (eFR 1 2 (eR 0)) (eI 1)))) (eV (15 : Int32))))
def X_Code_addressOf : PM := fun vs h Q => (lx vs).length ≤ 3 ∧ B_Code_addressOf (h.length + 0, hsz h + 0) (fun _ _ => False) (fun _ _ => False) (fun _ _ => False) Q (lini 3 vs) h
theorem v_Code_addressOf (l : Launch) : Ctr l y_Code_addressOf prog_3_method_9_code 3 (some .int) rm_Code_addressOf X_Code_addressOf := by
  refine Ctr_of (own := "PackLanes$Code") (B := B_Code_addressOf) (KR := fun _ Q => Q) (by decide) rfl (fun _ _ _ z => z) (fun _ _ _ _ z => ⟨Or.inl ⟨rfl, rfl⟩, z⟩) (Or.inr (Or.inl rfl)) (fun κ hl ho hR hrt hn0 => ?_)
  subst hl
  unfold B_Code_addressOf
  exact (S_ri hrt (pc1 := 29) (E_iand (pc1 := 26) (pc2 := 28) (E_if (pT := 9) (pF := 18) (pc1 := 15) (pc2 := 26) (J1_eq (pF := 18) (pc2 := 6) (E_aI (pc1 := 4) (pc2 := 5) (E_fR f_Code_15 ho (pc1 := 1) (E_aln d_Code_addressOf_0 rfl) d_Code_addressOf_1) (E_iln d_Code_addressOf_4 rfl) d_Code_addressOf_5) d_Code_addressOf_6 rfl) (E_aI (pc1 := 13) (pc2 := 14) (E_fR f_Code_18 ho (pc1 := 10) (E_aln d_Code_addressOf_9 rfl) d_Code_addressOf_10) (E_iln d_Code_addressOf_13 rfl) d_Code_addressOf_14) d_Code_addressOf_15 rfl (E_iadd (pc1 := 19) (pc2 := 25) (E_iln d_Code_addressOf_18 rfl) (E_aI (pc1 := 23) (pc2 := 24) (E_fR f_Code_18 ho (pc1 := 20) (E_aln d_Code_addressOf_19 rfl) d_Code_addressOf_20) (E_iln d_Code_addressOf_23 rfl) d_Code_addressOf_24) d_Code_addressOf_25)) (E_bi d_Code_addressOf_26 rfl) d_Code_addressOf_28) d_Code_addressOf_29)
theorem d_Links_clashInMemory_0 : decode prog_4_method_4_code 0 = .ok (.aload_n 0, 1) := by decide +kernel
theorem d_Links_clashInMemory_1 : decode prog_4_method_4_code 1 = .ok (.getfield 25, 3) := by decide +kernel
theorem d_Links_clashInMemory_4 : decode prog_4_method_4_code 4 = .ok (.iload_n 1, 1) := by decide +kernel
theorem d_Links_clashInMemory_5 : decode prog_4_method_4_code 5 = .ok (.invokevirtual 53, 3) := by decide +kernel
theorem d_Links_clashInMemory_8 : decode prog_4_method_4_code 8 = .ok (.ifCond .eq 38, 3) := by decide +kernel
theorem d_Links_clashInMemory_11 : decode prog_4_method_4_code 11 = .ok (.aload_n 0, 1) := by decide +kernel
theorem d_Links_clashInMemory_12 : decode prog_4_method_4_code 12 = .ok (.getfield 25, 3) := by decide +kernel
theorem d_Links_clashInMemory_15 : decode prog_4_method_4_code 15 = .ok (.iload_n 2, 1) := by decide +kernel
theorem d_Links_clashInMemory_16 : decode prog_4_method_4_code 16 = .ok (.invokevirtual 53, 3) := by decide +kernel
theorem d_Links_clashInMemory_19 : decode prog_4_method_4_code 19 = .ok (.ifCond .eq 27, 3) := by decide +kernel
theorem d_Links_clashInMemory_22 : decode prog_4_method_4_code 22 = .ok (.aload_n 0, 1) := by decide +kernel
theorem d_Links_clashInMemory_23 : decode prog_4_method_4_code 23 = .ok (.getfield 25, 3) := by decide +kernel
theorem d_Links_clashInMemory_26 : decode prog_4_method_4_code 26 = .ok (.getfield 57, 3) := by decide +kernel
theorem d_Links_clashInMemory_29 : decode prog_4_method_4_code 29 = .ok (.iload_n 1, 1) := by decide +kernel
theorem d_Links_clashInMemory_30 : decode prog_4_method_4_code 30 = .ok (.iaload, 1) := by decide +kernel
theorem d_Links_clashInMemory_31 : decode prog_4_method_4_code 31 = .ok (.ifCond .ne 17, 3) := by decide +kernel
theorem d_Links_clashInMemory_34 : decode prog_4_method_4_code 34 = .ok (.aload_n 0, 1) := by decide +kernel
theorem d_Links_clashInMemory_35 : decode prog_4_method_4_code 35 = .ok (.getfield 25, 3) := by decide +kernel
theorem d_Links_clashInMemory_38 : decode prog_4_method_4_code 38 = .ok (.getfield 57, 3) := by decide +kernel
theorem d_Links_clashInMemory_41 : decode prog_4_method_4_code 41 = .ok (.iload_n 2, 1) := by decide +kernel
theorem d_Links_clashInMemory_42 : decode prog_4_method_4_code 42 = .ok (.iaload, 1) := by decide +kernel
theorem d_Links_clashInMemory_43 : decode prog_4_method_4_code 43 = .ok (.ifCond .ne 5, 3) := by decide +kernel
theorem d_Links_clashInMemory_46 : decode prog_4_method_4_code 46 = .ok (.iconst 0, 1) := by decide +kernel
theorem d_Links_clashInMemory_47 : decode prog_4_method_4_code 47 = .ok (.ireturn, 1) := by decide +kernel
theorem d_Links_clashInMemory_48 : decode prog_4_method_4_code 48 = .ok (.aload_n 0, 1) := by decide +kernel
theorem d_Links_clashInMemory_49 : decode prog_4_method_4_code 49 = .ok (.getfield 25, 3) := by decide +kernel
theorem d_Links_clashInMemory_52 : decode prog_4_method_4_code 52 = .ok (.getfield 60, 3) := by decide +kernel
theorem d_Links_clashInMemory_55 : decode prog_4_method_4_code 55 = .ok (.iload_n 1, 1) := by decide +kernel
theorem d_Links_clashInMemory_56 : decode prog_4_method_4_code 56 = .ok (.iaload, 1) := by decide +kernel
theorem d_Links_clashInMemory_57 : decode prog_4_method_4_code 57 = .ok (.aload_n 0, 1) := by decide +kernel
theorem d_Links_clashInMemory_58 : decode prog_4_method_4_code 58 = .ok (.getfield 25, 3) := by decide +kernel
theorem d_Links_clashInMemory_61 : decode prog_4_method_4_code 61 = .ok (.getfield 60, 3) := by decide +kernel
theorem d_Links_clashInMemory_64 : decode prog_4_method_4_code 64 = .ok (.iload_n 2, 1) := by decide +kernel
theorem d_Links_clashInMemory_65 : decode prog_4_method_4_code 65 = .ok (.iaload, 1) := by decide +kernel
theorem d_Links_clashInMemory_66 : decode prog_4_method_4_code 66 = .ok (.if_icmp .ne 30, 3) := by decide +kernel
theorem d_Links_clashInMemory_69 : decode prog_4_method_4_code 69 = .ok (.aload_n 0, 1) := by decide +kernel
theorem d_Links_clashInMemory_70 : decode prog_4_method_4_code 70 = .ok (.getfield 25, 3) := by decide +kernel
theorem d_Links_clashInMemory_73 : decode prog_4_method_4_code 73 = .ok (.getfield 63, 3) := by decide +kernel
theorem d_Links_clashInMemory_76 : decode prog_4_method_4_code 76 = .ok (.iload_n 1, 1) := by decide +kernel
theorem d_Links_clashInMemory_77 : decode prog_4_method_4_code 77 = .ok (.iaload, 1) := by decide +kernel
theorem d_Links_clashInMemory_78 : decode prog_4_method_4_code 78 = .ok (.aload_n 0, 1) := by decide +kernel
theorem d_Links_clashInMemory_79 : decode prog_4_method_4_code 79 = .ok (.getfield 25, 3) := by decide +kernel
theorem d_Links_clashInMemory_82 : decode prog_4_method_4_code 82 = .ok (.getfield 63, 3) := by decide +kernel
theorem d_Links_clashInMemory_85 : decode prog_4_method_4_code 85 = .ok (.iload_n 2, 1) := by decide +kernel
theorem d_Links_clashInMemory_86 : decode prog_4_method_4_code 86 = .ok (.iaload, 1) := by decide +kernel
theorem d_Links_clashInMemory_87 : decode prog_4_method_4_code 87 = .ok (.if_icmp .ne 7, 3) := by decide +kernel
theorem d_Links_clashInMemory_90 : decode prog_4_method_4_code 90 = .ok (.iconst 1, 1) := by decide +kernel
theorem d_Links_clashInMemory_91 : decode prog_4_method_4_code 91 = .ok (.goto 4, 3) := by decide +kernel
theorem d_Links_clashInMemory_94 : decode prog_4_method_4_code 94 = .ok (.iconst 0, 1) := by decide +kernel
theorem d_Links_clashInMemory_95 : decode prog_4_method_4_code 95 = .ok (.ireturn, 1) := by decide +kernel
theorem d_Links_clashInMemory_96 : decode prog_4_method_4_code 96 = .ok (.iload 4, 2) := by decide +kernel
theorem d_Links_clashInMemory_98 : decode prog_4_method_4_code 98 = .ok (.ifCond .eq 24, 3) := by decide +kernel
theorem d_Links_clashInMemory_101 : decode prog_4_method_4_code 101 = .ok (.aload_n 0, 1) := by decide +kernel
theorem d_Links_clashInMemory_102 : decode prog_4_method_4_code 102 = .ok (.getfield 25, 3) := by decide +kernel
theorem d_Links_clashInMemory_105 : decode prog_4_method_4_code 105 = .ok (.iload_n 1, 1) := by decide +kernel
theorem d_Links_clashInMemory_106 : decode prog_4_method_4_code 106 = .ok (.iload_n 3, 1) := by decide +kernel
theorem d_Links_clashInMemory_107 : decode prog_4_method_4_code 107 = .ok (.invokevirtual 66, 3) := by decide +kernel
theorem d_Links_clashInMemory_110 : decode prog_4_method_4_code 110 = .ok (.aload_n 0, 1) := by decide +kernel
theorem d_Links_clashInMemory_111 : decode prog_4_method_4_code 111 = .ok (.getfield 25, 3) := by decide +kernel
theorem d_Links_clashInMemory_114 : decode prog_4_method_4_code 114 = .ok (.iload_n 2, 1) := by decide +kernel
theorem d_Links_clashInMemory_115 : decode prog_4_method_4_code 115 = .ok (.iload_n 3, 1) := by decide +kernel
theorem d_Links_clashInMemory_116 : decode prog_4_method_4_code 116 = .ok (.invokevirtual 66, 3) := by decide +kernel
theorem d_Links_clashInMemory_119 : decode prog_4_method_4_code 119 = .ok (.if_icmp .ne 7, 3) := by decide +kernel
theorem d_Links_clashInMemory_122 : decode prog_4_method_4_code 122 = .ok (.iconst 1, 1) := by decide +kernel
theorem d_Links_clashInMemory_123 : decode prog_4_method_4_code 123 = .ok (.goto 4, 3) := by decide +kernel
theorem d_Links_clashInMemory_126 : decode prog_4_method_4_code 126 = .ok (.iconst 0, 1) := by decide +kernel
theorem d_Links_clashInMemory_127 : decode prog_4_method_4_code 127 = .ok (.ireturn, 1) := by decide +kernel
def B_Links_clashInMemory (_ : Nat × Nat) : PS :=
  (sSq (sIf (cO (cO (cN (e1 (fun x : Int32 => decide (¬ x = 0)) (eX .int (xV 1 1 X_Code_usesMemory (eFR 2 0 (eR 0)) (aC .int (eI 1) aN))))) (cN (e1 (fun x : Int32 => decide (¬ x = 0)) (eX .int (xV 1 1 X_Code_usesMemory (eFR 2 0 (eR 0)) (aC .int (eI 2) aN)))))) (cA (e1 (fun x : Int32 => decide (x = 0)) (eAI (eFR 1 0 (eFR 2 0 (eR 0))) (eI 1))) (e1 (fun x : Int32 => decide (x = 0)) (eAI (eFR 1 0 (eFR 2 0 (eR 0))) (eI 2))))) (sRz (eV (0 : Int32))) sSk)
    (sSq (sIf (e2 (fun x y : Int32 => decide (x = y)) (eAI (eFR 1 1 (eFR 2 0 (eR 0))) (eI 1)) (eAI (eFR 1 1 (eFR 2 0 (eR 0))) (eI 2))) (sRz (eC (e2 (fun x y : Int32 => decide (x = y)) (eAI (eFR 1 2 (eFR 2 0 (eR 0))) (eI 1)) (eAI (eFR 1 2 (eFR 2 0 (eR 0))) (eI 2))))) sSk)
    (sRz (eC (cO (e1 (fun x : Int32 => decide (x = 0)) (eI 4)) (e2 (fun x y : Int32 => decide (x = y)) (eX .int (xV 1 2 X_Code_addressOf (eFR 2 0 (eR 0)) (aC .int (eI 1) (aC .int (eI 3) aN)))) (eX .int (xV 1 2 X_Code_addressOf (eFR 2 0 (eR 0)) (aC .int (eI 2) (aC .int (eI 3) aN))))))))))
def X_Links_clashInMemory : PM := fun vs h Q => (lx vs).length ≤ 5 ∧ B_Links_clashInMemory (h.length + 0, hsz h + 0) (fun _ _ => False) (fun _ _ => False) (fun _ _ => False) Q (lini 5 vs) h
theorem v_Links_clashInMemory (l : Launch) : Ctr l y_Links_clashInMemory prog_4_method_4_code 5 (some .boolean) rm_Links_clashInMemory X_Links_clashInMemory := by
  refine Ctr_of (own := "PackLanes$Links") (B := B_Links_clashInMemory) (KR := fun _ Q => Q) (by decide) rfl (fun _ _ _ z => z) (fun _ _ _ _ z => ⟨Or.inl ⟨rfl, rfl⟩, z⟩) (Or.inr (Or.inr (Or.inl rfl))) (fun κ hl ho hR hrt hn0 => ?_)
  subst hl
  unfold B_Links_clashInMemory
  exact (S_sq (pc1 := 48) (S_if1 (pT := 46) (pF := 48) (C_or (pc1 := 22) (C_or (pc1 := 11) (C_not (J1_ne (pF := 46) (pc2 := 8) (E_x (O_V k_Links_53 (v_Code_usesMemory _) ⟨rfl, rfl⟩ ho (rk hR rfl) (by decide) (T := KT1) (N := 7) rfl (by decide) (pc1 := 4) (pc2 := 5) (E_fR f_Links_25 ho (pc1 := 1) (E_aln d_Links_clashInMemory_0 rfl) d_Links_clashInMemory_1) (A_c catI (pc1 := 5) (E_iln d_Links_clashInMemory_4 rfl) A_n) d_Links_clashInMemory_5)) d_Links_clashInMemory_8 rfl)) (C_not (J1_ne (pF := 46) (pc2 := 19) (E_x (O_V k_Links_53 (v_Code_usesMemory _) ⟨rfl, rfl⟩ ho (rk hR rfl) (by decide) (T := KT1) (N := 7) rfl (by decide) (pc1 := 15) (pc2 := 16) (E_fR f_Links_25 ho (pc1 := 12) (E_aln d_Links_clashInMemory_11 rfl) d_Links_clashInMemory_12) (A_c catI (pc1 := 16) (E_iln d_Links_clashInMemory_15 rfl) A_n) d_Links_clashInMemory_16)) d_Links_clashInMemory_19 rfl))) (C_and (pc1 := 34) (J1_eq (pF := 48) (pc2 := 31) (E_aI (pc1 := 29) (pc2 := 30) (E_fR f_Links_57 ho (pc1 := 26) (E_fR f_Links_25 ho (pc1 := 23) (E_aln d_Links_clashInMemory_22 rfl) d_Links_clashInMemory_23) d_Links_clashInMemory_26) (E_iln d_Links_clashInMemory_29 rfl) d_Links_clashInMemory_30) d_Links_clashInMemory_31 rfl) (J1_eq (pF := 48) (pc2 := 43) (E_aI (pc1 := 41) (pc2 := 42) (E_fR f_Links_57 ho (pc1 := 38) (E_fR f_Links_25 ho (pc1 := 35) (E_aln d_Links_clashInMemory_34 rfl) d_Links_clashInMemory_35) d_Links_clashInMemory_38) (E_iln d_Links_clashInMemory_41 rfl) d_Links_clashInMemory_42) d_Links_clashInMemory_43 rfl))) (S_rz hrt (pc1 := 47) (E_ic d_Links_clashInMemory_46 rfl) d_Links_clashInMemory_47))
    (S_sq (pc1 := 96) (S_if1 (pT := 69) (pF := 96) (J2_eq (pF := 96) (pc1 := 57) (pc2 := 66) (E_aI (pc1 := 55) (pc2 := 56) (E_fR f_Links_60 ho (pc1 := 52) (E_fR f_Links_25 ho (pc1 := 49) (E_aln d_Links_clashInMemory_48 rfl) d_Links_clashInMemory_49) d_Links_clashInMemory_52) (E_iln d_Links_clashInMemory_55 rfl) d_Links_clashInMemory_56) (E_aI (pc1 := 64) (pc2 := 65) (E_fR f_Links_60 ho (pc1 := 61) (E_fR f_Links_25 ho (pc1 := 58) (E_aln d_Links_clashInMemory_57 rfl) d_Links_clashInMemory_58) d_Links_clashInMemory_61) (E_iln d_Links_clashInMemory_64 rfl) d_Links_clashInMemory_65) d_Links_clashInMemory_66 rfl) (S_rz hrt (pc1 := 95) (E_C (pT := 90) (pF := 94) (pc2 := 95) (J2_eq (pF := 94) (pc1 := 78) (pc2 := 87) (E_aI (pc1 := 76) (pc2 := 77) (E_fR f_Links_63 ho (pc1 := 73) (E_fR f_Links_25 ho (pc1 := 70) (E_aln d_Links_clashInMemory_69 rfl) d_Links_clashInMemory_70) d_Links_clashInMemory_73) (E_iln d_Links_clashInMemory_76 rfl) d_Links_clashInMemory_77) (E_aI (pc1 := 85) (pc2 := 86) (E_fR f_Links_63 ho (pc1 := 82) (E_fR f_Links_25 ho (pc1 := 79) (E_aln d_Links_clashInMemory_78 rfl) d_Links_clashInMemory_79) d_Links_clashInMemory_82) (E_iln d_Links_clashInMemory_85 rfl) d_Links_clashInMemory_86) d_Links_clashInMemory_87 rfl) d_Links_clashInMemory_90 d_Links_clashInMemory_91 rfl d_Links_clashInMemory_94 rfl) d_Links_clashInMemory_95))
    (S_rz hrt (pc1 := 127) (E_C (pT := 122) (pF := 126) (pc2 := 127) (C_or (pc1 := 101) (T1_eq (pT := 122) (pc2 := 98) (E_il d_Links_clashInMemory_96) d_Links_clashInMemory_98 rfl) (J2_eq (pF := 126) (pc1 := 110) (pc2 := 119) (E_x (O_V k_Links_66 (v_Code_addressOf _) ⟨rfl, rfl⟩ ho (rk hR rfl) (by decide) (T := KT1) (N := 7) rfl (by decide) (pc1 := 105) (pc2 := 107) (E_fR f_Links_25 ho (pc1 := 102) (E_aln d_Links_clashInMemory_101 rfl) d_Links_clashInMemory_102) (A_c catI (pc1 := 106) (E_iln d_Links_clashInMemory_105 rfl) (A_c catI (pc1 := 107) (E_iln d_Links_clashInMemory_106 rfl) A_n)) d_Links_clashInMemory_107)) (E_x (O_V k_Links_66 (v_Code_addressOf _) ⟨rfl, rfl⟩ ho (rk hR rfl) (by decide) (T := KT1) (N := 7) rfl (by decide) (pc1 := 114) (pc2 := 116) (E_fR f_Links_25 ho (pc1 := 111) (E_aln d_Links_clashInMemory_110 rfl) d_Links_clashInMemory_111) (A_c catI (pc1 := 115) (E_iln d_Links_clashInMemory_114 rfl) (A_c catI (pc1 := 116) (E_iln d_Links_clashInMemory_115 rfl) A_n)) d_Links_clashInMemory_116)) d_Links_clashInMemory_119 rfl)) d_Links_clashInMemory_122 d_Links_clashInMemory_123 rfl d_Links_clashInMemory_126 rfl) d_Links_clashInMemory_127)))
theorem d_Links_clashByStop_0 : decode prog_4_method_5_code 0 = .ok (.aload_n 0, 1) := by decide +kernel
theorem d_Links_clashByStop_1 : decode prog_4_method_5_code 1 = .ok (.getfield 25, 3) := by decide +kernel
theorem d_Links_clashByStop_4 : decode prog_4_method_5_code 4 = .ok (.getfield 57, 3) := by decide +kernel
theorem d_Links_clashByStop_7 : decode prog_4_method_5_code 7 = .ok (.iload_n 1, 1) := by decide +kernel
theorem d_Links_clashByStop_8 : decode prog_4_method_5_code 8 = .ok (.iaload, 1) := by decide +kernel
theorem d_Links_clashByStop_9 : decode prog_4_method_5_code 9 = .ok (.iconst 5, 1) := by decide +kernel
theorem d_Links_clashByStop_10 : decode prog_4_method_5_code 10 = .ok (.if_icmp .ne 7, 3) := by decide +kernel
theorem d_Links_clashByStop_13 : decode prog_4_method_5_code 13 = .ok (.iconst 1, 1) := by decide +kernel
theorem d_Links_clashByStop_14 : decode prog_4_method_5_code 14 = .ok (.goto 4, 3) := by decide +kernel
theorem d_Links_clashByStop_17 : decode prog_4_method_5_code 17 = .ok (.iconst 0, 1) := by decide +kernel
theorem d_Links_clashByStop_18 : decode prog_4_method_5_code 18 = .ok (.istore_n 3, 1) := by decide +kernel
theorem d_Links_clashByStop_19 : decode prog_4_method_5_code 19 = .ok (.aload_n 0, 1) := by decide +kernel
theorem d_Links_clashByStop_20 : decode prog_4_method_5_code 20 = .ok (.getfield 25, 3) := by decide +kernel
theorem d_Links_clashByStop_23 : decode prog_4_method_5_code 23 = .ok (.getfield 57, 3) := by decide +kernel
theorem d_Links_clashByStop_26 : decode prog_4_method_5_code 26 = .ok (.iload_n 2, 1) := by decide +kernel
theorem d_Links_clashByStop_27 : decode prog_4_method_5_code 27 = .ok (.iaload, 1) := by decide +kernel
theorem d_Links_clashByStop_28 : decode prog_4_method_5_code 28 = .ok (.iconst 5, 1) := by decide +kernel
theorem d_Links_clashByStop_29 : decode prog_4_method_5_code 29 = .ok (.if_icmp .ne 7, 3) := by decide +kernel
theorem d_Links_clashByStop_32 : decode prog_4_method_5_code 32 = .ok (.iconst 1, 1) := by decide +kernel
theorem d_Links_clashByStop_33 : decode prog_4_method_5_code 33 = .ok (.goto 4, 3) := by decide +kernel
theorem d_Links_clashByStop_36 : decode prog_4_method_5_code 36 = .ok (.iconst 0, 1) := by decide +kernel
theorem d_Links_clashByStop_37 : decode prog_4_method_5_code 37 = .ok (.istore 4, 2) := by decide +kernel
theorem d_Links_clashByStop_39 : decode prog_4_method_5_code 39 = .ok (.iload_n 3, 1) := by decide +kernel
theorem d_Links_clashByStop_40 : decode prog_4_method_5_code 40 = .ok (.ifCond .eq 22, 3) := by decide +kernel
theorem d_Links_clashByStop_43 : decode prog_4_method_5_code 43 = .ok (.iload 4, 2) := by decide +kernel
theorem d_Links_clashByStop_45 : decode prog_4_method_5_code 45 = .ok (.ifCond .ne 36, 3) := by decide +kernel
theorem d_Links_clashByStop_48 : decode prog_4_method_5_code 48 = .ok (.aload_n 0, 1) := by decide +kernel
theorem d_Links_clashByStop_49 : decode prog_4_method_5_code 49 = .ok (.getfield 25, 3) := by decide +kernel
theorem d_Links_clashByStop_52 : decode prog_4_method_5_code 52 = .ok (.getfield 57, 3) := by decide +kernel
theorem d_Links_clashByStop_55 : decode prog_4_method_5_code 55 = .ok (.iload_n 2, 1) := by decide +kernel
theorem d_Links_clashByStop_56 : decode prog_4_method_5_code 56 = .ok (.iaload, 1) := by decide +kernel
theorem d_Links_clashByStop_57 : decode prog_4_method_5_code 57 = .ok (.bipush 6, 2) := by decide +kernel
theorem d_Links_clashByStop_59 : decode prog_4_method_5_code 59 = .ok (.if_icmp .eq 22, 3) := by decide +kernel
theorem d_Links_clashByStop_62 : decode prog_4_method_5_code 62 = .ok (.iload 4, 2) := by decide +kernel
theorem d_Links_clashByStop_64 : decode prog_4_method_5_code 64 = .ok (.ifCond .eq 21, 3) := by decide +kernel
theorem d_Links_clashByStop_67 : decode prog_4_method_5_code 67 = .ok (.aload_n 0, 1) := by decide +kernel
theorem d_Links_clashByStop_68 : decode prog_4_method_5_code 68 = .ok (.getfield 25, 3) := by decide +kernel
theorem d_Links_clashByStop_71 : decode prog_4_method_5_code 71 = .ok (.getfield 57, 3) := by decide +kernel
theorem d_Links_clashByStop_74 : decode prog_4_method_5_code 74 = .ok (.iload_n 1, 1) := by decide +kernel
theorem d_Links_clashByStop_75 : decode prog_4_method_5_code 75 = .ok (.iaload, 1) := by decide +kernel
theorem d_Links_clashByStop_76 : decode prog_4_method_5_code 76 = .ok (.bipush 6, 2) := by decide +kernel
theorem d_Links_clashByStop_78 : decode prog_4_method_5_code 78 = .ok (.if_icmp .ne 7, 3) := by decide +kernel
theorem d_Links_clashByStop_81 : decode prog_4_method_5_code 81 = .ok (.iconst 1, 1) := by decide +kernel
theorem d_Links_clashByStop_82 : decode prog_4_method_5_code 82 = .ok (.goto 4, 3) := by decide +kernel
theorem d_Links_clashByStop_85 : decode prog_4_method_5_code 85 = .ok (.iconst 0, 1) := by decide +kernel
theorem d_Links_clashByStop_86 : decode prog_4_method_5_code 86 = .ok (.ireturn, 1) := by decide +kernel
def B_Links_clashByStop (_ : Nat × Nat) : PS :=
  (sSq (sI 3 (eC (e2 (fun x y : Int32 => decide (x = y)) (eAI (eFR 1 0 (eFR 2 0 (eR 0))) (eI 1)) (eV (5 : Int32)))))
    (sSq (sI 4 (eC (e2 (fun x y : Int32 => decide (x = y)) (eAI (eFR 1 0 (eFR 2 0 (eR 0))) (eI 2)) (eV (5 : Int32)))))
    (sRz (eC (cO (cA (e1 (fun x : Int32 => decide (¬ x = 0)) (eI 3)) (cO (e1 (fun x : Int32 => decide (¬ x = 0)) (eI 4)) (e2 (fun x y : Int32 => decide (x = y)) (eAI (eFR 1 0 (eFR 2 0 (eR 0))) (eI 2)) (eV (6 : Int32))))) (cA (e1 (fun x : Int32 => decide (¬ x = 0)) (eI 4)) (e2 (fun x y : Int32 => decide (x = y)) (eAI (eFR 1 0 (eFR 2 0 (eR 0))) (eI 1)) (eV (6 : Int32)))))))))
def X_Links_clashByStop : PM := fun vs h Q => (lx vs).length ≤ 5 ∧ B_Links_clashByStop (h.length + 0, hsz h + 0) (fun _ _ => False) (fun _ _ => False) (fun _ _ => False) Q (lini 5 vs) h
theorem v_Links_clashByStop (l : Launch) : Ctr l y_Links_clashByStop prog_4_method_5_code 5 (some .boolean) rm_Links_clashByStop X_Links_clashByStop := by
  refine Ctr_of (own := "PackLanes$Links") (B := B_Links_clashByStop) (KR := fun _ Q => Q) (by decide) rfl (fun _ _ _ z => z) (fun _ _ _ _ z => ⟨Or.inl ⟨rfl, rfl⟩, z⟩) (Or.inr (Or.inr (Or.inl rfl))) (fun κ hl ho hR hrt hn0 => ?_)
  subst hl
  unfold B_Links_clashByStop
  exact (S_sq (pc1 := 19) (S_In (pc1 := 18) (E_C (pT := 13) (pF := 17) (pc2 := 18) (J2_eq (pF := 17) (pc1 := 9) (pc2 := 10) (E_aI (pc1 := 7) (pc2 := 8) (E_fR f_Links_57 ho (pc1 := 4) (E_fR f_Links_25 ho (pc1 := 1) (E_aln d_Links_clashByStop_0 rfl) d_Links_clashByStop_1) d_Links_clashByStop_4) (E_iln d_Links_clashByStop_7 rfl) d_Links_clashByStop_8) (E_ic d_Links_clashByStop_9 rfl) d_Links_clashByStop_10 rfl) d_Links_clashByStop_13 d_Links_clashByStop_14 rfl d_Links_clashByStop_17 rfl) d_Links_clashByStop_18 rfl)
    (S_sq (pc1 := 39) (S_I (pc1 := 37) (E_C (pT := 32) (pF := 36) (pc2 := 37) (J2_eq (pF := 36) (pc1 := 28) (pc2 := 29) (E_aI (pc1 := 26) (pc2 := 27) (E_fR f_Links_57 ho (pc1 := 23) (E_fR f_Links_25 ho (pc1 := 20) (E_aln d_Links_clashByStop_19 rfl) d_Links_clashByStop_20) d_Links_clashByStop_23) (E_iln d_Links_clashByStop_26 rfl) d_Links_clashByStop_27) (E_ic d_Links_clashByStop_28 rfl) d_Links_clashByStop_29 rfl) d_Links_clashByStop_32 d_Links_clashByStop_33 rfl d_Links_clashByStop_36 rfl) d_Links_clashByStop_37)
    (S_rz hrt (pc1 := 86) (E_C (pT := 81) (pF := 85) (pc2 := 86) (C_or (pc1 := 62) (C_and (pc1 := 43) (J1_ne (pF := 62) (pc2 := 40) (E_iln d_Links_clashByStop_39 rfl) d_Links_clashByStop_40 rfl) (C_or (pc1 := 48) (T1_ne (pT := 81) (pc2 := 45) (E_il d_Links_clashByStop_43) d_Links_clashByStop_45 rfl) (T2_eq (pT := 81) (pc1 := 57) (pc2 := 59) (E_aI (pc1 := 55) (pc2 := 56) (E_fR f_Links_57 ho (pc1 := 52) (E_fR f_Links_25 ho (pc1 := 49) (E_aln d_Links_clashByStop_48 rfl) d_Links_clashByStop_49) d_Links_clashByStop_52) (E_iln d_Links_clashByStop_55 rfl) d_Links_clashByStop_56) (E_bi d_Links_clashByStop_57 rfl) d_Links_clashByStop_59 rfl))) (C_and (pc1 := 67) (J1_ne (pF := 85) (pc2 := 64) (E_il d_Links_clashByStop_62) d_Links_clashByStop_64 rfl) (J2_eq (pF := 85) (pc1 := 76) (pc2 := 78) (E_aI (pc1 := 74) (pc2 := 75) (E_fR f_Links_57 ho (pc1 := 71) (E_fR f_Links_25 ho (pc1 := 68) (E_aln d_Links_clashByStop_67 rfl) d_Links_clashByStop_68) d_Links_clashByStop_71) (E_iln d_Links_clashByStop_74 rfl) d_Links_clashByStop_75) (E_bi d_Links_clashByStop_76 rfl) d_Links_clashByStop_78 rfl))) d_Links_clashByStop_81 d_Links_clashByStop_82 rfl d_Links_clashByStop_85 rfl) d_Links_clashByStop_86)))
theorem d_Code_operands_0 : decode prog_3_method_8_code 0 = .ok (.aload_n 0, 1) := by decide +kernel
theorem d_Code_operands_1 : decode prog_3_method_8_code 1 = .ok (.getfield 9, 3) := by decide +kernel
theorem d_Code_operands_4 : decode prog_3_method_8_code 4 = .ok (.iload_n 1, 1) := by decide +kernel
theorem d_Code_operands_5 : decode prog_3_method_8_code 5 = .ok (.iaload, 1) := by decide +kernel
theorem d_Code_operands_6 : decode prog_3_method_8_code 6 = .ok (.lookupswitch 45 #[(0, 34), (1, 34), (6, 36)], 34) := by decide +kernel
theorem d_Code_operands_40 : decode prog_3_method_8_code 40 = .ok (.iconst 0, 1) := by decide +kernel
theorem d_Code_operands_41 : decode prog_3_method_8_code 41 = .ok (.ireturn, 1) := by decide +kernel
theorem d_Code_operands_42 : decode prog_3_method_8_code 42 = .ok (.iconst 1, 1) := by decide +kernel
theorem d_Code_operands_43 : decode prog_3_method_8_code 43 = .ok (.aload_n 0, 1) := by decide +kernel
theorem d_Code_operands_44 : decode prog_3_method_8_code 44 = .ok (.getfield 24, 3) := by decide +kernel
theorem d_Code_operands_47 : decode prog_3_method_8_code 47 = .ok (.iload_n 1, 1) := by decide +kernel
theorem d_Code_operands_48 : decode prog_3_method_8_code 48 = .ok (.iaload, 1) := by decide +kernel
theorem d_Code_operands_49 : decode prog_3_method_8_code 49 = .ok (.ishl, 1) := by decide +kernel
theorem d_Code_operands_50 : decode prog_3_method_8_code 50 = .ok (.ireturn, 1) := by decide +kernel
theorem d_Code_operands_51 : decode prog_3_method_8_code 51 = .ok (.iconst 1, 1) := by decide +kernel
theorem d_Code_operands_52 : decode prog_3_method_8_code 52 = .ok (.aload_n 0, 1) := by decide +kernel
theorem d_Code_operands_53 : decode prog_3_method_8_code 53 = .ok (.getfield 24, 3) := by decide +kernel
theorem d_Code_operands_56 : decode prog_3_method_8_code 56 = .ok (.iload_n 1, 1) := by decide +kernel
theorem d_Code_operands_57 : decode prog_3_method_8_code 57 = .ok (.iaload, 1) := by decide +kernel
theorem d_Code_operands_58 : decode prog_3_method_8_code 58 = .ok (.ishl, 1) := by decide +kernel
theorem d_Code_operands_59 : decode prog_3_method_8_code 59 = .ok (.iconst 1, 1) := by decide +kernel
theorem d_Code_operands_60 : decode prog_3_method_8_code 60 = .ok (.aload_n 0, 1) := by decide +kernel
theorem d_Code_operands_61 : decode prog_3_method_8_code 61 = .ok (.getfield 27, 3) := by decide +kernel
theorem d_Code_operands_64 : decode prog_3_method_8_code 64 = .ok (.iload_n 1, 1) := by decide +kernel
theorem d_Code_operands_65 : decode prog_3_method_8_code 65 = .ok (.iaload, 1) := by decide +kernel
theorem d_Code_operands_66 : decode prog_3_method_8_code 66 = .ok (.ishl, 1) := by decide +kernel
theorem d_Code_operands_67 : decode prog_3_method_8_code 67 = .ok (.ior, 1) := by decide +kernel
theorem d_Code_operands_68 : decode prog_3_method_8_code 68 = .ok (.ireturn, 1) := by decide +kernel
def B_Code_operands (_ : Nat × Nat) : PS :=
  (sSw 2 (eAI (eFR 1 0 (eR 0)) (eI 1)) [(0, 0), (1, 0), (6, 1)] 2 [(sRt .int (eV (0 : Int32))),
    (sRt .int (e2 (fun x y : Int32 => x <<< (y &&& 31)) (eV (1 : Int32)) (eAI (eFR 1 4 (eR 0)) (eI 1)))),
    (sRt .int (e2 (fun x y : Int32 => x ||| y) (e2 (fun x y : Int32 => x <<< (y &&& 31)) (eV (1 : Int32)) (eAI (eFR 1 4 (eR 0)) (eI 1))) (e2 (fun x y : Int32 => x <<< (y &&& 31)) (eV (1 : Int32)) (eAI (eFR 1 5 (eR 0)) (eI 1)))))])
def X_Code_operands : PM := fun vs h Q => (lx vs).length ≤ 2 ∧ B_Code_operands (h.length + 0, hsz h + 0) (fun _ _ => False) (fun _ _ => False) (fun _ _ => False) Q (lini 2 vs) h
theorem v_Code_operands (l : Launch) : Ctr l y_Code_operands prog_3_method_8_code 2 (some .int) rm_Code_operands X_Code_operands := by
  refine Ctr_of (own := "PackLanes$Code") (B := B_Code_operands) (KR := fun _ Q => Q) (by decide) rfl (fun _ _ _ z => z) (fun _ _ _ _ z => ⟨Or.inl ⟨rfl, rfl⟩, z⟩) (Or.inr (Or.inl rfl)) (fun κ hl ho hR hrt hn0 => ?_)
  subst hl
  unfold B_Code_operands
  exact (S_sw (pcs := [40, 42, 51, _]) (pc1 := 6)  (E_aI (pc1 := 4) (pc2 := 5) (E_fR f_Code_9 ho (pc1 := 1) (E_aln d_Code_operands_0 rfl) d_Code_operands_1) (E_iln d_Code_operands_4 rfl) d_Code_operands_5) (fun _ _ _ k => r_lsw d_Code_operands_6 (by decide +kernel) k) (And.intro (S_ri hrt (pc1 := 41) (E_ic d_Code_operands_40 rfl) d_Code_operands_41)
    (And.intro (S_ri hrt (pc1 := 50) (E_ishl (pc1 := 43) (pc2 := 49) (E_ic d_Code_operands_42 rfl) (E_aI (pc1 := 47) (pc2 := 48) (E_fR f_Code_24 ho (pc1 := 44) (E_aln d_Code_operands_43 rfl) d_Code_operands_44) (E_iln d_Code_operands_47 rfl) d_Code_operands_48) d_Code_operands_49) d_Code_operands_50)
    (And.intro (S_ri hrt (pc1 := 68) (E_ior (pc1 := 59) (pc2 := 67) (E_ishl (pc1 := 52) (pc2 := 58) (E_ic d_Code_operands_51 rfl) (E_aI (pc1 := 56) (pc2 := 57) (E_fR f_Code_24 ho (pc1 := 53) (E_aln d_Code_operands_52 rfl) d_Code_operands_53) (E_iln d_Code_operands_56 rfl) d_Code_operands_57) d_Code_operands_58) (E_ishl (pc1 := 60) (pc2 := 66) (E_ic d_Code_operands_59 rfl) (E_aI (pc1 := 64) (pc2 := 65) (E_fR f_Code_27 ho (pc1 := 61) (E_aln d_Code_operands_60 rfl) d_Code_operands_61) (E_iln d_Code_operands_64 rfl) d_Code_operands_65) d_Code_operands_66) d_Code_operands_67) d_Code_operands_68)
    rfl))) (by decide))
theorem d_Links_link_0 : decode prog_4_method_3_code 0 = .ok (.aload_n 0, 1) := by decide +kernel
theorem d_Links_link_1 : decode prog_4_method_3_code 1 = .ok (.getfield 25, 3) := by decide +kernel
theorem d_Links_link_4 : decode prog_4_method_3_code 4 = .ok (.iload_n 2, 1) := by decide +kernel
theorem d_Links_link_5 : decode prog_4_method_3_code 5 = .ok (.invokevirtual 42, 3) := by decide +kernel
theorem d_Links_link_8 : decode prog_4_method_3_code 8 = .ok (.iload_n 1, 1) := by decide +kernel
theorem d_Links_link_9 : decode prog_4_method_3_code 9 = .ok (.invokestatic 34, 3) := by decide +kernel
theorem d_Links_link_12 : decode prog_4_method_3_code 12 = .ok (.istore 5, 2) := by decide +kernel
theorem d_Links_link_14 : decode prog_4_method_3_code 14 = .ok (.iload 5, 2) := by decide +kernel
theorem d_Links_link_16 : decode prog_4_method_3_code 16 = .ok (.ifCond .eq 15, 3) := by decide +kernel
theorem d_Links_link_19 : decode prog_4_method_3_code 19 = .ok (.aload_n 0, 1) := by decide +kernel
theorem d_Links_link_20 : decode prog_4_method_3_code 20 = .ok (.getfield 18, 3) := by decide +kernel
theorem d_Links_link_23 : decode prog_4_method_3_code 23 = .ok (.iload_n 1, 1) := by decide +kernel
theorem d_Links_link_24 : decode prog_4_method_3_code 24 = .ok (.dup2, 1) := by decide +kernel
theorem d_Links_link_25 : decode prog_4_method_3_code 25 = .ok (.iaload, 1) := by decide +kernel
theorem d_Links_link_26 : decode prog_4_method_3_code 26 = .ok (.iconst 1, 1) := by decide +kernel
theorem d_Links_link_27 : decode prog_4_method_3_code 27 = .ok (.iload_n 2, 1) := by decide +kernel
theorem d_Links_link_28 : decode prog_4_method_3_code 28 = .ok (.ishl, 1) := by decide +kernel
theorem d_Links_link_29 : decode prog_4_method_3_code 29 = .ok (.ior, 1) := by decide +kernel
theorem d_Links_link_30 : decode prog_4_method_3_code 30 = .ok (.iastore, 1) := by decide +kernel
theorem d_Links_link_31 : decode prog_4_method_3_code 31 = .ok (.iload 5, 2) := by decide +kernel
theorem d_Links_link_33 : decode prog_4_method_3_code 33 = .ok (.ifCond .ne 24, 3) := by decide +kernel
theorem d_Links_link_36 : decode prog_4_method_3_code 36 = .ok (.aload_n 0, 1) := by decide +kernel
theorem d_Links_link_37 : decode prog_4_method_3_code 37 = .ok (.iload_n 1, 1) := by decide +kernel
theorem d_Links_link_38 : decode prog_4_method_3_code 38 = .ok (.iload_n 2, 1) := by decide +kernel
theorem d_Links_link_39 : decode prog_4_method_3_code 39 = .ok (.iload_n 3, 1) := by decide +kernel
theorem d_Links_link_40 : decode prog_4_method_3_code 40 = .ok (.iload 4, 2) := by decide +kernel
theorem d_Links_link_42 : decode prog_4_method_3_code 42 = .ok (.invokevirtual 46, 3) := by decide +kernel
theorem d_Links_link_45 : decode prog_4_method_3_code 45 = .ok (.ifCond .ne 12, 3) := by decide +kernel
theorem d_Links_link_48 : decode prog_4_method_3_code 48 = .ok (.aload_n 0, 1) := by decide +kernel
theorem d_Links_link_49 : decode prog_4_method_3_code 49 = .ok (.iload_n 1, 1) := by decide +kernel
theorem d_Links_link_50 : decode prog_4_method_3_code 50 = .ok (.iload_n 2, 1) := by decide +kernel
theorem d_Links_link_51 : decode prog_4_method_3_code 51 = .ok (.invokevirtual 50, 3) := by decide +kernel
theorem d_Links_link_54 : decode prog_4_method_3_code 54 = .ok (.ifCond .eq 34, 3) := by decide +kernel
theorem d_Links_link_57 : decode prog_4_method_3_code 57 = .ok (.aload_n 0, 1) := by decide +kernel
theorem d_Links_link_58 : decode prog_4_method_3_code 58 = .ok (.getfield 9, 3) := by decide +kernel
theorem d_Links_link_61 : decode prog_4_method_3_code 61 = .ok (.iload_n 2, 1) := by decide +kernel
theorem d_Links_link_62 : decode prog_4_method_3_code 62 = .ok (.dup2, 1) := by decide +kernel
theorem d_Links_link_63 : decode prog_4_method_3_code 63 = .ok (.iaload, 1) := by decide +kernel
theorem d_Links_link_64 : decode prog_4_method_3_code 64 = .ok (.iconst 1, 1) := by decide +kernel
theorem d_Links_link_65 : decode prog_4_method_3_code 65 = .ok (.iload_n 1, 1) := by decide +kernel
theorem d_Links_link_66 : decode prog_4_method_3_code 66 = .ok (.ishl, 1) := by decide +kernel
theorem d_Links_link_67 : decode prog_4_method_3_code 67 = .ok (.ior, 1) := by decide +kernel
theorem d_Links_link_68 : decode prog_4_method_3_code 68 = .ok (.iastore, 1) := by decide +kernel
theorem d_Links_link_69 : decode prog_4_method_3_code 69 = .ok (.aload_n 0, 1) := by decide +kernel
theorem d_Links_link_70 : decode prog_4_method_3_code 70 = .ok (.getfield 15, 3) := by decide +kernel
theorem d_Links_link_73 : decode prog_4_method_3_code 73 = .ok (.iload_n 2, 1) := by decide +kernel
theorem d_Links_link_74 : decode prog_4_method_3_code 74 = .ok (.dup2, 1) := by decide +kernel
theorem d_Links_link_75 : decode prog_4_method_3_code 75 = .ok (.iaload, 1) := by decide +kernel
theorem d_Links_link_76 : decode prog_4_method_3_code 76 = .ok (.aload_n 0, 1) := by decide +kernel
theorem d_Links_link_77 : decode prog_4_method_3_code 77 = .ok (.getfield 15, 3) := by decide +kernel
theorem d_Links_link_80 : decode prog_4_method_3_code 80 = .ok (.iload_n 1, 1) := by decide +kernel
theorem d_Links_link_81 : decode prog_4_method_3_code 81 = .ok (.iaload, 1) := by decide +kernel
theorem d_Links_link_82 : decode prog_4_method_3_code 82 = .ok (.iconst 1, 1) := by decide +kernel
theorem d_Links_link_83 : decode prog_4_method_3_code 83 = .ok (.iload_n 1, 1) := by decide +kernel
theorem d_Links_link_84 : decode prog_4_method_3_code 84 = .ok (.ishl, 1) := by decide +kernel
theorem d_Links_link_85 : decode prog_4_method_3_code 85 = .ok (.ior, 1) := by decide +kernel
theorem d_Links_link_86 : decode prog_4_method_3_code 86 = .ok (.ior, 1) := by decide +kernel
theorem d_Links_link_87 : decode prog_4_method_3_code 87 = .ok (.iastore, 1) := by decide +kernel
theorem d_Links_link_88 : decode prog_4_method_3_code 88 = .ok (.return_, 1) := by decide +kernel
def B_Links_link (_ : Nat × Nat) : PS :=
  (sSq (sI 5 (eX .int (xS 2 X_PL_holds (aC .int (eX .int (xV 1 1 X_Code_operands (eFR 2 0 (eR 0)) (aC .int (eI 2) aN))) (aC .int (eI 1) aN)))))
    (sSq (sIf (e1 (fun x : Int32 => decide (¬ x = 0)) (eI 5)) (sAO (fun x y : Int32 => x ||| y) (eFR 2 3 (eR 0)) (eI 1) (e2 (fun x y : Int32 => x <<< (y &&& 31)) (eV (1 : Int32)) (eI 2))) sSk)
    (sSq (sIf (cO (cO (e1 (fun x : Int32 => decide (¬ x = 0)) (eI 5)) (e1 (fun x : Int32 => decide (¬ x = 0)) (eX .int (xV 2 4 X_Links_clashInMemory (eR 0) (aC .int (eI 1) (aC .int (eI 2) (aC .int (eI 3) (aC .int (eI 4) aN)))))))) (e1 (fun x : Int32 => decide (¬ x = 0)) (eX .int (xV 2 2 X_Links_clashByStop (eR 0) (aC .int (eI 1) (aC .int (eI 2) aN)))))) (sSq (sAO (fun x y : Int32 => x ||| y) (eFR 2 1 (eR 0)) (eI 2) (e2 (fun x y : Int32 => x <<< (y &&& 31)) (eV (1 : Int32)) (eI 1)))
    (sAO (fun x y : Int32 => x ||| y) (eFR 2 2 (eR 0)) (eI 2) (e2 (fun x y : Int32 => x ||| y) (eAI (eFR 2 2 (eR 0)) (eI 1)) (e2 (fun x y : Int32 => x <<< (y &&& 31)) (eV (1 : Int32)) (eI 1))))) sSk)
    sRv)))
def X_Links_link : PM := fun vs h Q => (lx vs).length ≤ 6 ∧ B_Links_link (h.length + 0, hsz h + 0) (fun _ _ => False) (fun _ _ => False) (fun _ _ => False) Q (lini 6 vs) h
theorem v_Links_link (l : Launch) : Ctr l y_Links_link prog_4_method_3_code 6 none rm_Links_link X_Links_link := by
  refine Ctr_of (own := "PackLanes$Links") (B := B_Links_link) (KR := fun _ Q => Q) (by decide) rfl (fun _ _ _ z => z) (fun _ _ _ _ z => ⟨Or.inl ⟨rfl, rfl⟩, z⟩) (Or.inl rfl) (fun κ hl ho hR hrt hn0 => ?_)
  subst hl
  unfold B_Links_link
  exact (S_sq (pc1 := 14) (S_I (pc1 := 12) (E_x (O_SN k_Links_34 (v_PL_holds _) ⟨rfl, rfl⟩ ho (rk hR rfl) (by decide) (pc2 := 9) (A_c catI (pc1 := 8) (E_x (O_V k_Links_42 (v_Code_operands _) ⟨rfl, rfl⟩ ho (rk hR rfl) (by decide) (T := KT1) (N := 7) rfl (by decide) (pc1 := 4) (pc2 := 5) (E_fR f_Links_25 ho (pc1 := 1) (E_aln d_Links_link_0 rfl) d_Links_link_1) (A_c catI (pc1 := 5) (E_iln d_Links_link_4 rfl) A_n) d_Links_link_5)) (A_c catI (pc1 := 9) (E_iln d_Links_link_8 rfl) A_n)) d_Links_link_9)) d_Links_link_12)
    (S_sq (pc1 := 31) (S_if1 (pT := 19) (pF := 31) (J1_ne (pF := 31) (pc2 := 16) (E_il d_Links_link_14) d_Links_link_16 rfl) (S_AO (pc1 := 23) (pc2 := 24) (pc3 := 29) (E_fR f_Links_18 ho (pc1 := 20) (E_aln d_Links_link_19 rfl) d_Links_link_20) (E_iln d_Links_link_23 rfl) d_Links_link_24 d_Links_link_25 (E_ishl (pc1 := 27) (pc2 := 28) (E_ic d_Links_link_26 rfl) (E_iln d_Links_link_27 rfl) d_Links_link_28) (fun _ _ _ _ _ k => r_ior d_Links_link_29 k) d_Links_link_30))
    (S_sq (pc1 := 88) (S_if1 (pT := 57) (pF := 88) (C_or (pc1 := 48) (C_or (pc1 := 36) (T1_ne (pT := 57) (pc2 := 33) (E_il d_Links_link_31) d_Links_link_33 rfl) (T1_ne (pT := 57) (pc2 := 45) (E_x (O_V k_Links_46 (v_Links_clashInMemory _) ⟨rfl, rfl⟩ ho (rk hR rfl) (by decide) (T := KT2) (N := 5) rfl (by decide) (pc1 := 37) (pc2 := 42) (E_aln d_Links_link_36 rfl) (A_c catI (pc1 := 38) (E_iln d_Links_link_37 rfl) (A_c catI (pc1 := 39) (E_iln d_Links_link_38 rfl) (A_c catI (pc1 := 40) (E_iln d_Links_link_39 rfl) (A_c catI (pc1 := 42) (E_il d_Links_link_40) A_n)))) d_Links_link_42)) d_Links_link_45 rfl)) (J1_ne (pF := 88) (pc2 := 54) (E_x (O_V k_Links_50 (v_Links_clashByStop _) ⟨rfl, rfl⟩ ho (rk hR rfl) (by decide) (T := KT2) (N := 5) rfl (by decide) (pc1 := 49) (pc2 := 51) (E_aln d_Links_link_48 rfl) (A_c catI (pc1 := 50) (E_iln d_Links_link_49 rfl) (A_c catI (pc1 := 51) (E_iln d_Links_link_50 rfl) A_n)) d_Links_link_51)) d_Links_link_54 rfl)) (S_sq (pc1 := 69) (S_AO (pc1 := 61) (pc2 := 62) (pc3 := 67) (E_fR f_Links_9 ho (pc1 := 58) (E_aln d_Links_link_57 rfl) d_Links_link_58) (E_iln d_Links_link_61 rfl) d_Links_link_62 d_Links_link_63 (E_ishl (pc1 := 65) (pc2 := 66) (E_ic d_Links_link_64 rfl) (E_iln d_Links_link_65 rfl) d_Links_link_66) (fun _ _ _ _ _ k => r_ior d_Links_link_67 k) d_Links_link_68)
    (S_AO (pc1 := 73) (pc2 := 74) (pc3 := 86) (E_fR f_Links_15 ho (pc1 := 70) (E_aln d_Links_link_69 rfl) d_Links_link_70) (E_iln d_Links_link_73 rfl) d_Links_link_74 d_Links_link_75 (E_ior (pc1 := 82) (pc2 := 85) (E_aI (pc1 := 80) (pc2 := 81) (E_fR f_Links_15 ho (pc1 := 77) (E_aln d_Links_link_76 rfl) d_Links_link_77) (E_iln d_Links_link_80 rfl) d_Links_link_81) (E_ishl (pc1 := 83) (pc2 := 84) (E_ic d_Links_link_82 rfl) (E_iln d_Links_link_83 rfl) d_Links_link_84) d_Links_link_85) (fun _ _ _ _ _ k => r_ior d_Links_link_86 k) d_Links_link_87)))
    (S_rv hrt d_Links_link_88))))
theorem d_Links_find_0 : decode prog_4_method_2_code 0 = .ok (.aload_n 0, 1) := by decide +kernel
theorem d_Links_find_1 : decode prog_4_method_2_code 1 = .ok (.iload_n 3, 1) := by decide +kernel
theorem d_Links_find_2 : decode prog_4_method_2_code 2 = .ok (.putfield 21, 3) := by decide +kernel
theorem d_Links_find_5 : decode prog_4_method_2_code 5 = .ok (.iconst 0, 1) := by decide +kernel
theorem d_Links_find_6 : decode prog_4_method_2_code 6 = .ok (.istore 4, 2) := by decide +kernel
theorem d_Links_find_8 : decode prog_4_method_2_code 8 = .ok (.iload 4, 2) := by decide +kernel
theorem d_Links_find_10 : decode prog_4_method_2_code 10 = .ok (.aload_n 0, 1) := by decide +kernel
theorem d_Links_find_11 : decode prog_4_method_2_code 11 = .ok (.getfield 25, 3) := by decide +kernel
theorem d_Links_find_14 : decode prog_4_method_2_code 14 = .ok (.getfield 29, 3) := by decide +kernel
theorem d_Links_find_17 : decode prog_4_method_2_code 17 = .ok (.if_icmp .ge 83, 3) := by decide +kernel
theorem d_Links_find_20 : decode prog_4_method_2_code 20 = .ok (.aload_n 0, 1) := by decide +kernel
theorem d_Links_find_21 : decode prog_4_method_2_code 21 = .ok (.getfield 9, 3) := by decide +kernel
theorem d_Links_find_24 : decode prog_4_method_2_code 24 = .ok (.iload 4, 2) := by decide +kernel
theorem d_Links_find_26 : decode prog_4_method_2_code 26 = .ok (.iconst 0, 1) := by decide +kernel
theorem d_Links_find_27 : decode prog_4_method_2_code 27 = .ok (.iastore, 1) := by decide +kernel
theorem d_Links_find_28 : decode prog_4_method_2_code 28 = .ok (.aload_n 0, 1) := by decide +kernel
theorem d_Links_find_29 : decode prog_4_method_2_code 29 = .ok (.getfield 15, 3) := by decide +kernel
theorem d_Links_find_32 : decode prog_4_method_2_code 32 = .ok (.iload 4, 2) := by decide +kernel
theorem d_Links_find_34 : decode prog_4_method_2_code 34 = .ok (.iconst 0, 1) := by decide +kernel
theorem d_Links_find_35 : decode prog_4_method_2_code 35 = .ok (.iastore, 1) := by decide +kernel
theorem d_Links_find_36 : decode prog_4_method_2_code 36 = .ok (.aload_n 0, 1) := by decide +kernel
theorem d_Links_find_37 : decode prog_4_method_2_code 37 = .ok (.getfield 18, 3) := by decide +kernel
theorem d_Links_find_40 : decode prog_4_method_2_code 40 = .ok (.iload 4, 2) := by decide +kernel
theorem d_Links_find_42 : decode prog_4_method_2_code 42 = .ok (.iconst 0, 1) := by decide +kernel
theorem d_Links_find_43 : decode prog_4_method_2_code 43 = .ok (.iastore, 1) := by decide +kernel
theorem d_Links_find_44 : decode prog_4_method_2_code 44 = .ok (.iconst 0, 1) := by decide +kernel
theorem d_Links_find_45 : decode prog_4_method_2_code 45 = .ok (.istore 5, 2) := by decide +kernel
theorem d_Links_find_47 : decode prog_4_method_2_code 47 = .ok (.iload 5, 2) := by decide +kernel
theorem d_Links_find_49 : decode prog_4_method_2_code 49 = .ok (.iload 4, 2) := by decide +kernel
theorem d_Links_find_51 : decode prog_4_method_2_code 51 = .ok (.if_icmp .ge 43, 3) := by decide +kernel
theorem d_Links_find_54 : decode prog_4_method_2_code 54 = .ok (.aload_n 0, 1) := by decide +kernel
theorem d_Links_find_55 : decode prog_4_method_2_code 55 = .ok (.getfield 21, 3) := by decide +kernel
theorem d_Links_find_58 : decode prog_4_method_2_code 58 = .ok (.iload 5, 2) := by decide +kernel
theorem d_Links_find_60 : decode prog_4_method_2_code 60 = .ok (.invokestatic 34, 3) := by decide +kernel
theorem d_Links_find_63 : decode prog_4_method_2_code 63 = .ok (.ifCond .ne 25, 3) := by decide +kernel
theorem d_Links_find_66 : decode prog_4_method_2_code 66 = .ok (.aload_n 0, 1) := by decide +kernel
theorem d_Links_find_67 : decode prog_4_method_2_code 67 = .ok (.getfield 21, 3) := by decide +kernel
theorem d_Links_find_70 : decode prog_4_method_2_code 70 = .ok (.iload 4, 2) := by decide +kernel
theorem d_Links_find_72 : decode prog_4_method_2_code 72 = .ok (.invokestatic 34, 3) := by decide +kernel
theorem d_Links_find_75 : decode prog_4_method_2_code 75 = .ok (.ifCond .ne 13, 3) := by decide +kernel
theorem d_Links_find_78 : decode prog_4_method_2_code 78 = .ok (.aload_n 0, 1) := by decide +kernel
theorem d_Links_find_79 : decode prog_4_method_2_code 79 = .ok (.iload 5, 2) := by decide +kernel
theorem d_Links_find_81 : decode prog_4_method_2_code 81 = .ok (.iload 4, 2) := by decide +kernel
theorem d_Links_find_83 : decode prog_4_method_2_code 83 = .ok (.iload_n 1, 1) := by decide +kernel
theorem d_Links_find_84 : decode prog_4_method_2_code 84 = .ok (.iload_n 2, 1) := by decide +kernel
theorem d_Links_find_85 : decode prog_4_method_2_code 85 = .ok (.invokevirtual 38, 3) := by decide +kernel
theorem d_Links_find_88 : decode prog_4_method_2_code 88 = .ok (.iinc 5 1, 3) := by decide +kernel
theorem d_Links_find_91 : decode prog_4_method_2_code 91 = .ok (.goto (-44), 3) := by decide +kernel
theorem d_Links_find_94 : decode prog_4_method_2_code 94 = .ok (.iinc 4 1, 3) := by decide +kernel
theorem d_Links_find_97 : decode prog_4_method_2_code 97 = .ok (.goto (-89), 3) := by decide +kernel
theorem d_Links_find_100 : decode prog_4_method_2_code 100 = .ok (.return_, 1) := by decide +kernel
def B_Links_find (_ : Nat × Nat) : PS :=
  (sSq (sF .int 2 4 (eR 0) (eI 3))
    (sSq (sCut 4 (sSq (sI 4 (eV (0 : Int32)))
    (sLp 5 (e2 (fun x y : Int32 => decide (x < y)) (eI 4) (eFI 1 6 (eFR 2 0 (eR 0))))
    (sSq (sAI (eFR 2 1 (eR 0)) (eI 4) (eV (0 : Int32)))
    (sSq (sAI (eFR 2 2 (eR 0)) (eI 4) (eV (0 : Int32)))
    (sSq (sAI (eFR 2 3 (eR 0)) (eI 4) (eV (0 : Int32)))
    (sCut 5 (sSq (sI 5 (eV (0 : Int32)))
    (sLp 6 (e2 (fun x y : Int32 => decide (x < y)) (eI 5) (eI 4))
    (sIf (cA (cN (e1 (fun x : Int32 => decide (¬ x = 0)) (eX .int (xS 2 X_PL_holds (aC .int (eFI 2 4 (eR 0)) (aC .int (eI 5) aN)))))) (cN (e1 (fun x : Int32 => decide (¬ x = 0)) (eX .int (xS 2 X_PL_holds (aC .int (eFI 2 4 (eR 0)) (aC .int (eI 4) aN))))))) (sX (xV 2 4 X_Links_link (eR 0) (aC .int (eI 5) (aC .int (eI 4) (aC .int (eI 1) (aC .int (eI 2) aN)))))) sSk)
    (sInc 5 (1))))))))
    (sInc 4 (1)))))
    sRv))
def X_Links_find : PM := fun vs h Q => (lx vs).length ≤ 6 ∧ B_Links_find (h.length + 0, hsz h + 0) (fun _ _ => False) (fun _ _ => False) (fun _ _ => False) Q (lini 6 vs) h
theorem v_Links_find (l : Launch) : Ctr l y_Links_find prog_4_method_2_code 6 none rm_Links_find X_Links_find := by
  refine Ctr_of (own := "PackLanes$Links") (B := B_Links_find) (KR := fun _ Q => Q) (by decide) rfl (fun _ _ _ z => z) (fun _ _ _ _ z => ⟨Or.inl ⟨rfl, rfl⟩, z⟩) (Or.inl rfl) (fun κ hl ho hR hrt hn0 => ?_)
  subst hl
  unfold B_Links_find
  exact (S_sq (pc1 := 5) (S_FI f_Links_21 ho (pc1 := 1) (pc2 := 2) (E_aln d_Links_find_0 rfl) (E_iln d_Links_find_1 rfl) d_Links_find_2)
    (S_sq (pc1 := 100) (S_cut (S_sq (pc1 := 8) (S_I (pc1 := 6) (E_ic d_Links_find_5 rfl) d_Links_find_6)
    (S_lp (pT := 20) (pF := 100) (pS := 94) (pG := 97) (J2_lt (pF := 100) (pc1 := 10) (pc2 := 17) (E_il d_Links_find_8) (E_fI f_Links_29 ho (pc1 := 14) (E_fR f_Links_25 ho (pc1 := 11) (E_aln d_Links_find_10 rfl) d_Links_find_11) d_Links_find_14) d_Links_find_17 rfl)
    (S_sq (pc1 := 28) (S_AI (pc1 := 24) (pc2 := 26) (pc3 := 27) (E_fR f_Links_9 ho (pc1 := 21) (E_aln d_Links_find_20 rfl) d_Links_find_21) (E_il d_Links_find_24) (E_ic d_Links_find_26 rfl) d_Links_find_27)
    (S_sq (pc1 := 36) (S_AI (pc1 := 32) (pc2 := 34) (pc3 := 35) (E_fR f_Links_15 ho (pc1 := 29) (E_aln d_Links_find_28 rfl) d_Links_find_29) (E_il d_Links_find_32) (E_ic d_Links_find_34 rfl) d_Links_find_35)
    (S_sq (pc1 := 44) (S_AI (pc1 := 40) (pc2 := 42) (pc3 := 43) (E_fR f_Links_18 ho (pc1 := 37) (E_aln d_Links_find_36 rfl) d_Links_find_37) (E_il d_Links_find_40) (E_ic d_Links_find_42 rfl) d_Links_find_43)
    (S_cut (S_sq (pc1 := 47) (S_I (pc1 := 45) (E_ic d_Links_find_44 rfl) d_Links_find_45)
    (S_lp (pT := 54) (pF := 94) (pS := 88) (pG := 91) (J2_lt (pF := 94) (pc1 := 49) (pc2 := 51) (E_il d_Links_find_47) (E_il d_Links_find_49) d_Links_find_51 rfl)
    (S_if1 (pT := 78) (pF := 88) (C_and (pc1 := 66) (C_not (T1_ne (pT := 88) (pc2 := 63) (E_x (O_SN k_Links_34 (v_PL_holds _) ⟨rfl, rfl⟩ ho (rk hR rfl) (by decide) (pc2 := 60) (A_c catI (pc1 := 58) (E_fI f_Links_21 ho (pc1 := 55) (E_aln d_Links_find_54 rfl) d_Links_find_55) (A_c catI (pc1 := 60) (E_il d_Links_find_58) A_n)) d_Links_find_60)) d_Links_find_63 rfl)) (C_not (T1_ne (pT := 88) (pc2 := 75) (E_x (O_SN k_Links_34 (v_PL_holds _) ⟨rfl, rfl⟩ ho (rk hR rfl) (by decide) (pc2 := 72) (A_c catI (pc1 := 70) (E_fI f_Links_21 ho (pc1 := 67) (E_aln d_Links_find_66 rfl) d_Links_find_67) (A_c catI (pc1 := 72) (E_il d_Links_find_70) A_n)) d_Links_find_72)) d_Links_find_75 rfl))) (S_X (O_V k_Links_38 (v_Links_link _) ⟨rfl, rfl⟩ ho (rk hR rfl) (by decide) (T := KT2) (N := 5) rfl (by decide) (pc1 := 79) (pc2 := 85) (E_aln d_Links_find_78 rfl) (A_c catI (pc1 := 81) (E_il d_Links_find_79) (A_c catI (pc1 := 83) (E_il d_Links_find_81) (A_c catI (pc1 := 84) (E_iln d_Links_find_83 rfl) (A_c catI (pc1 := 85) (E_iln d_Links_find_84 rfl) A_n)))) d_Links_find_85)))
    (S_Inc d_Links_find_88 rfl) d_Links_find_91 rfl))))))
    (S_Inc d_Links_find_94 rfl) d_Links_find_97 rfl)))
    (S_rv hrt d_Links_find_100)))
theorem d_Pack_keepNothing_0 : decode prog_6_method_2_code 0 = .ok (.aload_n 0, 1) := by decide +kernel
theorem d_Pack_keepNothing_1 : decode prog_6_method_2_code 1 = .ok (.getfield 55, 3) := by decide +kernel
theorem d_Pack_keepNothing_4 : decode prog_6_method_2_code 4 = .ok (.aload_n 1, 1) := by decide +kernel
theorem d_Pack_keepNothing_5 : decode prog_6_method_2_code 5 = .ok (.bipush 16, 2) := by decide +kernel
theorem d_Pack_keepNothing_7 : decode prog_6_method_2_code 7 = .ok (.iaload, 1) := by decide +kernel
theorem d_Pack_keepNothing_8 : decode prog_6_method_2_code 8 = .ok (.aload_n 1, 1) := by decide +kernel
theorem d_Pack_keepNothing_9 : decode prog_6_method_2_code 9 = .ok (.bipush 17, 2) := by decide +kernel
theorem d_Pack_keepNothing_11 : decode prog_6_method_2_code 11 = .ok (.iaload, 1) := by decide +kernel
theorem d_Pack_keepNothing_12 : decode prog_6_method_2_code 12 = .ok (.iload_n 2, 1) := by decide +kernel
theorem d_Pack_keepNothing_13 : decode prog_6_method_2_code 13 = .ok (.invokevirtual 68, 3) := by decide +kernel
theorem d_Pack_keepNothing_16 : decode prog_6_method_2_code 16 = .ok (.aload_n 0, 1) := by decide +kernel
theorem d_Pack_keepNothing_17 : decode prog_6_method_2_code 17 = .ok (.aload_n 1, 1) := by decide +kernel
theorem d_Pack_keepNothing_18 : decode prog_6_method_2_code 18 = .ok (.bipush 18, 2) := by decide +kernel
theorem d_Pack_keepNothing_20 : decode prog_6_method_2_code 20 = .ok (.iaload, 1) := by decide +kernel
theorem d_Pack_keepNothing_21 : decode prog_6_method_2_code 21 = .ok (.putfield 9, 3) := by decide +kernel
theorem d_Pack_keepNothing_24 : decode prog_6_method_2_code 24 = .ok (.aload_n 0, 1) := by decide +kernel
theorem d_Pack_keepNothing_25 : decode prog_6_method_2_code 25 = .ok (.iconst 0, 1) := by decide +kernel
theorem d_Pack_keepNothing_26 : decode prog_6_method_2_code 26 = .ok (.putfield 34, 3) := by decide +kernel
theorem d_Pack_keepNothing_29 : decode prog_6_method_2_code 29 = .ok (.aload_n 0, 1) := by decide +kernel
theorem d_Pack_keepNothing_30 : decode prog_6_method_2_code 30 = .ok (.iconst 0, 1) := by decide +kernel
theorem d_Pack_keepNothing_31 : decode prog_6_method_2_code 31 = .ok (.putfield 37, 3) := by decide +kernel
theorem d_Pack_keepNothing_34 : decode prog_6_method_2_code 34 = .ok (.aload_n 0, 1) := by decide +kernel
theorem d_Pack_keepNothing_35 : decode prog_6_method_2_code 35 = .ok (.iconst 0, 1) := by decide +kernel
theorem d_Pack_keepNothing_36 : decode prog_6_method_2_code 36 = .ok (.putfield 40, 3) := by decide +kernel
theorem d_Pack_keepNothing_39 : decode prog_6_method_2_code 39 = .ok (.aload_n 0, 1) := by decide +kernel
theorem d_Pack_keepNothing_40 : decode prog_6_method_2_code 40 = .ok (.iconst 0, 1) := by decide +kernel
theorem d_Pack_keepNothing_41 : decode prog_6_method_2_code 41 = .ok (.putfield 43, 3) := by decide +kernel
theorem d_Pack_keepNothing_44 : decode prog_6_method_2_code 44 = .ok (.iconst 0, 1) := by decide +kernel
theorem d_Pack_keepNothing_45 : decode prog_6_method_2_code 45 = .ok (.istore_n 3, 1) := by decide +kernel
theorem d_Pack_keepNothing_46 : decode prog_6_method_2_code 46 = .ok (.iload_n 3, 1) := by decide +kernel
theorem d_Pack_keepNothing_47 : decode prog_6_method_2_code 47 = .ok (.bipush 16, 2) := by decide +kernel
theorem d_Pack_keepNothing_49 : decode prog_6_method_2_code 49 = .ok (.if_icmp .ge 34, 3) := by decide +kernel
theorem d_Pack_keepNothing_52 : decode prog_6_method_2_code 52 = .ok (.aload_n 0, 1) := by decide +kernel
theorem d_Pack_keepNothing_53 : decode prog_6_method_2_code 53 = .ok (.getfield 15, 3) := by decide +kernel
theorem d_Pack_keepNothing_56 : decode prog_6_method_2_code 56 = .ok (.iload_n 3, 1) := by decide +kernel
theorem d_Pack_keepNothing_57 : decode prog_6_method_2_code 57 = .ok (.iconst 1, 1) := by decide +kernel
theorem d_Pack_keepNothing_58 : decode prog_6_method_2_code 58 = .ok (.iload_n 3, 1) := by decide +kernel
theorem d_Pack_keepNothing_59 : decode prog_6_method_2_code 59 = .ok (.ishl, 1) := by decide +kernel
theorem d_Pack_keepNothing_60 : decode prog_6_method_2_code 60 = .ok (.iastore, 1) := by decide +kernel
theorem d_Pack_keepNothing_61 : decode prog_6_method_2_code 61 = .ok (.aload_n 0, 1) := by decide +kernel
theorem d_Pack_keepNothing_62 : decode prog_6_method_2_code 62 = .ok (.getfield 19, 3) := by decide +kernel
theorem d_Pack_keepNothing_65 : decode prog_6_method_2_code 65 = .ok (.iload_n 3, 1) := by decide +kernel
theorem d_Pack_keepNothing_66 : decode prog_6_method_2_code 66 = .ok (.bipush (-9), 2) := by decide +kernel
theorem d_Pack_keepNothing_68 : decode prog_6_method_2_code 68 = .ok (.iastore, 1) := by decide +kernel
theorem d_Pack_keepNothing_69 : decode prog_6_method_2_code 69 = .ok (.aload_n 0, 1) := by decide +kernel
theorem d_Pack_keepNothing_70 : decode prog_6_method_2_code 70 = .ok (.getfield 22, 3) := by decide +kernel
theorem d_Pack_keepNothing_73 : decode prog_6_method_2_code 73 = .ok (.iload_n 3, 1) := by decide +kernel
theorem d_Pack_keepNothing_74 : decode prog_6_method_2_code 74 = .ok (.bipush (-9), 2) := by decide +kernel
theorem d_Pack_keepNothing_76 : decode prog_6_method_2_code 76 = .ok (.iastore, 1) := by decide +kernel
theorem d_Pack_keepNothing_77 : decode prog_6_method_2_code 77 = .ok (.iinc 3 1, 3) := by decide +kernel
theorem d_Pack_keepNothing_80 : decode prog_6_method_2_code 80 = .ok (.goto (-34), 3) := by decide +kernel
theorem d_Pack_keepNothing_83 : decode prog_6_method_2_code 83 = .ok (.return_, 1) := by decide +kernel
def B_Pack_keepNothing (_ : Nat × Nat) : PS :=
  (sSq (sX (xV 2 3 X_Links_find (eFR 4 1 (eR 0)) (aC .int (eAI (eR 1) (eV (16 : Int32))) (aC .int (eAI (eR 1) (eV (17 : Int32))) (aC .int (eI 2) aN)))))
    (sSq (sF .int 4 3 (eR 0) (eAI (eR 1) (eV (18 : Int32))))
    (sSq (sF .int 4 10 (eR 0) (eV (0 : Int32)))
    (sSq (sF .int 4 11 (eR 0) (eV (0 : Int32)))
    (sSq (sF .int 4 12 (eR 0) (eV (0 : Int32)))
    (sSq (sF .int 4 13 (eR 0) (eV (0 : Int32)))
    (sSq (sCut 3 (sSq (sI 3 (eV (0 : Int32)))
    (sLp 4 (e2 (fun x y : Int32 => decide (x < y)) (eI 3) (eV (16 : Int32)))
    (sSq (sAI (eFR 4 4 (eR 0)) (eI 3) (e2 (fun x y : Int32 => x <<< (y &&& 31)) (eV (1 : Int32)) (eI 3)))
    (sSq (sAI (eFR 4 5 (eR 0)) (eI 3) (eV (-9 : Int32)))
    (sAI (eFR 4 6 (eR 0)) (eI 3) (eV (-9 : Int32)))))
    (sInc 3 (1)))))
    sRv)))))))
def X_Pack_keepNothing : PM := fun vs h Q => (lx vs).length ≤ 4 ∧ B_Pack_keepNothing (h.length + 0, hsz h + 0) (fun _ _ => False) (fun _ _ => False) (fun _ _ => False) Q (lini 4 vs) h
theorem v_Pack_keepNothing (l : Launch) : Ctr l y_Pack_keepNothing prog_6_method_2_code 4 none rm_Pack_keepNothing X_Pack_keepNothing := by
  refine Ctr_of (own := "PackLanes$Packer") (B := B_Pack_keepNothing) (KR := fun _ Q => Q) (by decide) rfl (fun _ _ _ z => z) (fun _ _ _ _ z => ⟨Or.inl ⟨rfl, rfl⟩, z⟩) (Or.inl rfl) (fun κ hl ho hR hrt hn0 => ?_)
  subst hl
  unfold B_Pack_keepNothing
  exact (S_sq (pc1 := 16) (S_X (O_V k_Pack_68 (v_Links_find _) ⟨rfl, rfl⟩ ho (rk hR rfl) (by decide) (T := KT2) (N := 5) rfl (by decide) (pc1 := 4) (pc2 := 13) (E_fR f_Pack_55 ho (pc1 := 1) (E_aln d_Pack_keepNothing_0 rfl) d_Pack_keepNothing_1) (A_c catI (pc1 := 8) (E_aI (pc1 := 5) (pc2 := 7) (E_aln d_Pack_keepNothing_4 rfl) (E_bi d_Pack_keepNothing_5 rfl) d_Pack_keepNothing_7) (A_c catI (pc1 := 12) (E_aI (pc1 := 9) (pc2 := 11) (E_aln d_Pack_keepNothing_8 rfl) (E_bi d_Pack_keepNothing_9 rfl) d_Pack_keepNothing_11) (A_c catI (pc1 := 13) (E_iln d_Pack_keepNothing_12 rfl) A_n))) d_Pack_keepNothing_13))
    (S_sq (pc1 := 24) (S_FI f_Pack_9 ho (pc1 := 17) (pc2 := 21) (E_aln d_Pack_keepNothing_16 rfl) (E_aI (pc1 := 18) (pc2 := 20) (E_aln d_Pack_keepNothing_17 rfl) (E_bi d_Pack_keepNothing_18 rfl) d_Pack_keepNothing_20) d_Pack_keepNothing_21)
    (S_sq (pc1 := 29) (S_FI f_Pack_34 ho (pc1 := 25) (pc2 := 26) (E_aln d_Pack_keepNothing_24 rfl) (E_ic d_Pack_keepNothing_25 rfl) d_Pack_keepNothing_26)
    (S_sq (pc1 := 34) (S_FI f_Pack_37 ho (pc1 := 30) (pc2 := 31) (E_aln d_Pack_keepNothing_29 rfl) (E_ic d_Pack_keepNothing_30 rfl) d_Pack_keepNothing_31)
    (S_sq (pc1 := 39) (S_FI f_Pack_40 ho (pc1 := 35) (pc2 := 36) (E_aln d_Pack_keepNothing_34 rfl) (E_ic d_Pack_keepNothing_35 rfl) d_Pack_keepNothing_36)
    (S_sq (pc1 := 44) (S_FI f_Pack_43 ho (pc1 := 40) (pc2 := 41) (E_aln d_Pack_keepNothing_39 rfl) (E_ic d_Pack_keepNothing_40 rfl) d_Pack_keepNothing_41)
    (S_sq (pc1 := 83) (S_cut (S_sq (pc1 := 46) (S_In (pc1 := 45) (E_ic d_Pack_keepNothing_44 rfl) d_Pack_keepNothing_45 rfl)
    (S_lp (pT := 52) (pF := 83) (pS := 77) (pG := 80) (J2_lt (pF := 83) (pc1 := 47) (pc2 := 49) (E_iln d_Pack_keepNothing_46 rfl) (E_bi d_Pack_keepNothing_47 rfl) d_Pack_keepNothing_49 rfl)
    (S_sq (pc1 := 61) (S_AI (pc1 := 56) (pc2 := 57) (pc3 := 60) (E_fR f_Pack_15 ho (pc1 := 53) (E_aln d_Pack_keepNothing_52 rfl) d_Pack_keepNothing_53) (E_iln d_Pack_keepNothing_56 rfl) (E_ishl (pc1 := 58) (pc2 := 59) (E_ic d_Pack_keepNothing_57 rfl) (E_iln d_Pack_keepNothing_58 rfl) d_Pack_keepNothing_59) d_Pack_keepNothing_60)
    (S_sq (pc1 := 69) (S_AI (pc1 := 65) (pc2 := 66) (pc3 := 68) (E_fR f_Pack_19 ho (pc1 := 62) (E_aln d_Pack_keepNothing_61 rfl) d_Pack_keepNothing_62) (E_iln d_Pack_keepNothing_65 rfl) (E_bi d_Pack_keepNothing_66 rfl) d_Pack_keepNothing_68)
    (S_AI (pc1 := 73) (pc2 := 74) (pc3 := 76) (E_fR f_Pack_22 ho (pc1 := 70) (E_aln d_Pack_keepNothing_69 rfl) d_Pack_keepNothing_70) (E_iln d_Pack_keepNothing_73 rfl) (E_bi d_Pack_keepNothing_74 rfl) d_Pack_keepNothing_76)))
    (S_Inc d_Pack_keepNothing_77 rfl) d_Pack_keepNothing_80 rfl)))
    (S_rv hrt d_Pack_keepNothing_83))))))))
theorem d_Pack_leastStore_0 : decode prog_6_method_6_code 0 = .ok (.iconst 0, 1) := by decide +kernel
theorem d_Pack_leastStore_1 : decode prog_6_method_6_code 1 = .ok (.istore_n 3, 1) := by decide +kernel
theorem d_Pack_leastStore_2 : decode prog_6_method_6_code 2 = .ok (.iload_n 3, 1) := by decide +kernel
theorem d_Pack_leastStore_3 : decode prog_6_method_6_code 3 = .ok (.aload_n 0, 1) := by decide +kernel
theorem d_Pack_leastStore_4 : decode prog_6_method_6_code 4 = .ok (.getfield 46, 3) := by decide +kernel
theorem d_Pack_leastStore_7 : decode prog_6_method_6_code 7 = .ok (.getfield 106, 3) := by decide +kernel
theorem d_Pack_leastStore_10 : decode prog_6_method_6_code 10 = .ok (.if_icmp .ge 70, 3) := by decide +kernel
theorem d_Pack_leastStore_13 : decode prog_6_method_6_code 13 = .ok (.aload_n 0, 1) := by decide +kernel
theorem d_Pack_leastStore_14 : decode prog_6_method_6_code 14 = .ok (.getfield 46, 3) := by decide +kernel
theorem d_Pack_leastStore_17 : decode prog_6_method_6_code 17 = .ok (.getfield 111, 3) := by decide +kernel
theorem d_Pack_leastStore_20 : decode prog_6_method_6_code 20 = .ok (.iload_n 3, 1) := by decide +kernel
theorem d_Pack_leastStore_21 : decode prog_6_method_6_code 21 = .ok (.iaload, 1) := by decide +kernel
theorem d_Pack_leastStore_22 : decode prog_6_method_6_code 22 = .ok (.bipush 6, 2) := by decide +kernel
theorem d_Pack_leastStore_24 : decode prog_6_method_6_code 24 = .ok (.if_icmp .ne 50, 3) := by decide +kernel
theorem d_Pack_leastStore_27 : decode prog_6_method_6_code 27 = .ok (.aload_n 0, 1) := by decide +kernel
theorem d_Pack_leastStore_28 : decode prog_6_method_6_code 28 = .ok (.getfield 46, 3) := by decide +kernel
theorem d_Pack_leastStore_31 : decode prog_6_method_6_code 31 = .ok (.getfield 114, 3) := by decide +kernel
theorem d_Pack_leastStore_34 : decode prog_6_method_6_code 34 = .ok (.iload_n 3, 1) := by decide +kernel
theorem d_Pack_leastStore_35 : decode prog_6_method_6_code 35 = .ok (.iaload, 1) := by decide +kernel
theorem d_Pack_leastStore_36 : decode prog_6_method_6_code 36 = .ok (.iload_n 1, 1) := by decide +kernel
theorem d_Pack_leastStore_37 : decode prog_6_method_6_code 37 = .ok (.if_icmp .ne 37, 3) := by decide +kernel
theorem d_Pack_leastStore_40 : decode prog_6_method_6_code 40 = .ok (.aload_n 0, 1) := by decide +kernel
theorem d_Pack_leastStore_41 : decode prog_6_method_6_code 41 = .ok (.getfield 46, 3) := by decide +kernel
theorem d_Pack_leastStore_44 : decode prog_6_method_6_code 44 = .ok (.getfield 117, 3) := by decide +kernel
theorem d_Pack_leastStore_47 : decode prog_6_method_6_code 47 = .ok (.iload_n 3, 1) := by decide +kernel
theorem d_Pack_leastStore_48 : decode prog_6_method_6_code 48 = .ok (.iaload, 1) := by decide +kernel
theorem d_Pack_leastStore_49 : decode prog_6_method_6_code 49 = .ok (.iload_n 2, 1) := by decide +kernel
theorem d_Pack_leastStore_50 : decode prog_6_method_6_code 50 = .ok (.if_icmp .ne 24, 3) := by decide +kernel
theorem d_Pack_leastStore_53 : decode prog_6_method_6_code 53 = .ok (.aload_n 0, 1) := by decide +kernel
theorem d_Pack_leastStore_54 : decode prog_6_method_6_code 54 = .ok (.getfield 37, 3) := by decide +kernel
theorem d_Pack_leastStore_57 : decode prog_6_method_6_code 57 = .ok (.aload_n 0, 1) := by decide +kernel
theorem d_Pack_leastStore_58 : decode prog_6_method_6_code 58 = .ok (.getfield 55, 3) := by decide +kernel
theorem d_Pack_leastStore_61 : decode prog_6_method_6_code 61 = .ok (.getfield 120, 3) := by decide +kernel
theorem d_Pack_leastStore_64 : decode prog_6_method_6_code 64 = .ok (.ior, 1) := by decide +kernel
theorem d_Pack_leastStore_65 : decode prog_6_method_6_code 65 = .ok (.iload_n 3, 1) := by decide +kernel
theorem d_Pack_leastStore_66 : decode prog_6_method_6_code 66 = .ok (.invokestatic 123, 3) := by decide +kernel
theorem d_Pack_leastStore_69 : decode prog_6_method_6_code 69 = .ok (.ifCond .ne 5, 3) := by decide +kernel
theorem d_Pack_leastStore_72 : decode prog_6_method_6_code 72 = .ok (.iload_n 3, 1) := by decide +kernel
theorem d_Pack_leastStore_73 : decode prog_6_method_6_code 73 = .ok (.ireturn, 1) := by decide +kernel
theorem d_Pack_leastStore_74 : decode prog_6_method_6_code 74 = .ok (.iinc 3 1, 3) := by decide +kernel
theorem d_Pack_leastStore_77 : decode prog_6_method_6_code 77 = .ok (.goto (-75), 3) := by decide +kernel
theorem d_Pack_leastStore_80 : decode prog_6_method_6_code 80 = .ok (.bipush (-9), 2) := by decide +kernel
theorem d_Pack_leastStore_82 : decode prog_6_method_6_code 82 = .ok (.ireturn, 1) := by decide +kernel
def B_Pack_leastStore (_ : Nat × Nat) : PS :=
  (sSq (sCut 3 (sSq (sI 3 (eV (0 : Int32)))
    (sLp 4 (e2 (fun x y : Int32 => decide (x < y)) (eI 3) (eFI 1 6 (eFR 4 0 (eR 0))))
    (sIf (cA (cA (cA (e2 (fun x y : Int32 => decide (x = y)) (eAI (eFR 1 0 (eFR 4 0 (eR 0))) (eI 3)) (eV (6 : Int32))) (e2 (fun x y : Int32 => decide (x = y)) (eAI (eFR 1 1 (eFR 4 0 (eR 0))) (eI 3)) (eI 1))) (e2 (fun x y : Int32 => decide (x = y)) (eAI (eFR 1 2 (eFR 4 0 (eR 0))) (eI 3)) (eI 2))) (cN (e1 (fun x : Int32 => decide (¬ x = 0)) (eX .int (xS 2 X_PL_holds (aC .int (e2 (fun x y : Int32 => x ||| y) (eFI 4 11 (eR 0)) (eFI 2 4 (eFR 4 1 (eR 0)))) (aC .int (eI 3) aN))))))) (sRt .int (eI 3)) sSk)
    (sInc 3 (1)))))
    (sRt .int (eV (-9 : Int32))))
def X_Pack_leastStore : PM := fun vs h Q => (lx vs).length ≤ 4 ∧ B_Pack_leastStore (h.length + 0, hsz h + 0) (fun _ _ => False) (fun _ _ => False) (fun _ _ => False) Q (lini 4 vs) h
theorem v_Pack_leastStore (l : Launch) : Ctr l y_Pack_leastStore prog_6_method_6_code 4 (some .int) rm_Pack_leastStore X_Pack_leastStore := by
  refine Ctr_of (own := "PackLanes$Packer") (B := B_Pack_leastStore) (KR := fun _ Q => Q) (by decide) rfl (fun _ _ _ z => z) (fun _ _ _ _ z => ⟨Or.inl ⟨rfl, rfl⟩, z⟩) (Or.inr (Or.inl rfl)) (fun κ hl ho hR hrt hn0 => ?_)
  subst hl
  unfold B_Pack_leastStore
  exact (S_sq (pc1 := 80) (S_cut (S_sq (pc1 := 2) (S_In (pc1 := 1) (E_ic d_Pack_leastStore_0 rfl) d_Pack_leastStore_1 rfl)
    (S_lp (pT := 13) (pF := 80) (pS := 74) (pG := 77) (J2_lt (pF := 80) (pc1 := 3) (pc2 := 10) (E_iln d_Pack_leastStore_2 rfl) (E_fI f_Pack_106 ho (pc1 := 7) (E_fR f_Pack_46 ho (pc1 := 4) (E_aln d_Pack_leastStore_3 rfl) d_Pack_leastStore_4) d_Pack_leastStore_7) d_Pack_leastStore_10 rfl)
    (S_if1 (pT := 72) (pF := 74) (C_and (pc1 := 53) (C_and (pc1 := 40) (C_and (pc1 := 27) (J2_eq (pF := 74) (pc1 := 22) (pc2 := 24) (E_aI (pc1 := 20) (pc2 := 21) (E_fR f_Pack_111 ho (pc1 := 17) (E_fR f_Pack_46 ho (pc1 := 14) (E_aln d_Pack_leastStore_13 rfl) d_Pack_leastStore_14) d_Pack_leastStore_17) (E_iln d_Pack_leastStore_20 rfl) d_Pack_leastStore_21) (E_bi d_Pack_leastStore_22 rfl) d_Pack_leastStore_24 rfl) (J2_eq (pF := 74) (pc1 := 36) (pc2 := 37) (E_aI (pc1 := 34) (pc2 := 35) (E_fR f_Pack_114 ho (pc1 := 31) (E_fR f_Pack_46 ho (pc1 := 28) (E_aln d_Pack_leastStore_27 rfl) d_Pack_leastStore_28) d_Pack_leastStore_31) (E_iln d_Pack_leastStore_34 rfl) d_Pack_leastStore_35) (E_iln d_Pack_leastStore_36 rfl) d_Pack_leastStore_37 rfl)) (J2_eq (pF := 74) (pc1 := 49) (pc2 := 50) (E_aI (pc1 := 47) (pc2 := 48) (E_fR f_Pack_117 ho (pc1 := 44) (E_fR f_Pack_46 ho (pc1 := 41) (E_aln d_Pack_leastStore_40 rfl) d_Pack_leastStore_41) d_Pack_leastStore_44) (E_iln d_Pack_leastStore_47 rfl) d_Pack_leastStore_48) (E_iln d_Pack_leastStore_49 rfl) d_Pack_leastStore_50 rfl)) (C_not (T1_ne (pT := 74) (pc2 := 69) (E_x (O_SN k_Pack_123 (v_PL_holds _) ⟨rfl, rfl⟩ ho (rk hR rfl) (by decide) (pc2 := 66) (A_c catI (pc1 := 65) (E_ior (pc1 := 57) (pc2 := 64) (E_fI f_Pack_37 ho (pc1 := 54) (E_aln d_Pack_leastStore_53 rfl) d_Pack_leastStore_54) (E_fI f_Pack_120 ho (pc1 := 61) (E_fR f_Pack_55 ho (pc1 := 58) (E_aln d_Pack_leastStore_57 rfl) d_Pack_leastStore_58) d_Pack_leastStore_61) d_Pack_leastStore_64) (A_c catI (pc1 := 66) (E_iln d_Pack_leastStore_65 rfl) A_n)) d_Pack_leastStore_66)) d_Pack_leastStore_69 rfl))) (S_ri hrt (pc1 := 73) (E_iln d_Pack_leastStore_72 rfl) d_Pack_leastStore_73))
    (S_Inc d_Pack_leastStore_74 rfl) d_Pack_leastStore_77 rfl)))
    (S_ri hrt (pc1 := 82) (E_bi d_Pack_leastStore_80 rfl) d_Pack_leastStore_82))
theorem d_PL_withLane_0 : decode prog_1_method_37_code 0 = .ok (.iload_n 0, 1) := by decide +kernel
theorem d_PL_withLane_1 : decode prog_1_method_37_code 1 = .ok (.iload_n 2, 1) := by decide +kernel
theorem d_PL_withLane_2 : decode prog_1_method_37_code 2 = .ok (.iconst 4, 1) := by decide +kernel
theorem d_PL_withLane_3 : decode prog_1_method_37_code 3 = .ok (.iload_n 1, 1) := by decide +kernel
theorem d_PL_withLane_4 : decode prog_1_method_37_code 4 = .ok (.imul, 1) := by decide +kernel
theorem d_PL_withLane_5 : decode prog_1_method_37_code 5 = .ok (.ishl, 1) := by decide +kernel
theorem d_PL_withLane_6 : decode prog_1_method_37_code 6 = .ok (.ior, 1) := by decide +kernel
theorem d_PL_withLane_7 : decode prog_1_method_37_code 7 = .ok (.ireturn, 1) := by decide +kernel
def B_PL_withLane (_ : Nat × Nat) : PS :=
  (sRt .int (e2 (fun x y : Int32 => x ||| y) (eI 0) (e2 (fun x y : Int32 => x <<< (y &&& 31)) (eI 2) (e2 (fun x y : Int32 => x * y) (eV (4 : Int32)) (eI 1)))))
def X_PL_withLane : PM := fun vs h Q => (lx vs).length ≤ 3 ∧ B_PL_withLane (h.length + 0, hsz h + 0) (fun _ _ => False) (fun _ _ => False) (fun _ _ => False) Q (lini 3 vs) h
theorem v_PL_withLane (l : Launch) : Ctr l y_PL_withLane prog_1_method_37_code 3 (some .int) rm_PL_withLane X_PL_withLane := by
  refine Ctr_of (own := "PackLanes") (B := B_PL_withLane) (KR := fun _ Q => Q) (by decide) rfl (fun _ _ _ z => z) (fun _ _ _ _ z => ⟨Or.inl ⟨rfl, rfl⟩, z⟩) (Or.inr (Or.inl rfl)) (fun κ hl ho hR hrt hn0 => ?_)
  subst hl
  unfold B_PL_withLane
  exact (S_ri hrt (pc1 := 7) (E_ior (pc1 := 1) (pc2 := 6) (E_iln d_PL_withLane_0 rfl) (E_ishl (pc1 := 2) (pc2 := 5) (E_iln d_PL_withLane_1 rfl) (E_imul (pc1 := 3) (pc2 := 4) (E_ic d_PL_withLane_2 rfl) (E_iln d_PL_withLane_3 rfl) d_PL_withLane_4) d_PL_withLane_5) d_PL_withLane_6) d_PL_withLane_7)
theorem d_PL_inLane_0 : decode prog_1_method_36_code 0 = .ok (.iload_n 0, 1) := by decide +kernel
theorem d_PL_inLane_1 : decode prog_1_method_36_code 1 = .ok (.iconst 4, 1) := by decide +kernel
theorem d_PL_inLane_2 : decode prog_1_method_36_code 2 = .ok (.iload_n 1, 1) := by decide +kernel
theorem d_PL_inLane_3 : decode prog_1_method_36_code 3 = .ok (.imul, 1) := by decide +kernel
theorem d_PL_inLane_4 : decode prog_1_method_36_code 4 = .ok (.ishr, 1) := by decide +kernel
theorem d_PL_inLane_5 : decode prog_1_method_36_code 5 = .ok (.bipush 15, 2) := by decide +kernel
theorem d_PL_inLane_7 : decode prog_1_method_36_code 7 = .ok (.iand, 1) := by decide +kernel
theorem d_PL_inLane_8 : decode prog_1_method_36_code 8 = .ok (.ireturn, 1) := by decide +kernel
def B_PL_inLane (_ : Nat × Nat) : PS :=
  (sRt .int (e2 (fun x y : Int32 => x &&& y) (e2 (fun x y : Int32 => x >>> (y &&& 31)) (eI 0) (e2 (fun x y : Int32 => x * y) (eV (4 : Int32)) (eI 1))) (eV (15 : Int32))))
def X_PL_inLane : PM := fun vs h Q => (lx vs).length ≤ 2 ∧ B_PL_inLane (h.length + 0, hsz h + 0) (fun _ _ => False) (fun _ _ => False) (fun _ _ => False) Q (lini 2 vs) h
theorem v_PL_inLane (l : Launch) : Ctr l y_PL_inLane prog_1_method_36_code 2 (some .int) rm_PL_inLane X_PL_inLane := by
  refine Ctr_of (own := "PackLanes") (B := B_PL_inLane) (KR := fun _ Q => Q) (by decide) rfl (fun _ _ _ z => z) (fun _ _ _ _ z => ⟨Or.inl ⟨rfl, rfl⟩, z⟩) (Or.inr (Or.inl rfl)) (fun κ hl ho hR hrt hn0 => ?_)
  subst hl
  unfold B_PL_inLane
  exact (S_ri hrt (pc1 := 8) (E_iand (pc1 := 5) (pc2 := 7) (E_ishr (pc1 := 1) (pc2 := 4) (E_iln d_PL_inLane_0 rfl) (E_imul (pc1 := 2) (pc2 := 3) (E_ic d_PL_inLane_1 rfl) (E_iln d_PL_inLane_2 rfl) d_PL_inLane_3) d_PL_inLane_4) (E_bi d_PL_inLane_5 rfl) d_PL_inLane_7) d_PL_inLane_8)
theorem d_PL_setOf_0 : decode prog_1_method_38_code 0 = .ok (.iconst 0, 1) := by decide +kernel
theorem d_PL_setOf_1 : decode prog_1_method_38_code 1 = .ok (.istore_n 2, 1) := by decide +kernel
theorem d_PL_setOf_2 : decode prog_1_method_38_code 2 = .ok (.iconst 0, 1) := by decide +kernel
theorem d_PL_setOf_3 : decode prog_1_method_38_code 3 = .ok (.istore_n 3, 1) := by decide +kernel
theorem d_PL_setOf_4 : decode prog_1_method_38_code 4 = .ok (.iload_n 3, 1) := by decide +kernel
theorem d_PL_setOf_5 : decode prog_1_method_38_code 5 = .ok (.iload_n 1, 1) := by decide +kernel
theorem d_PL_setOf_6 : decode prog_1_method_38_code 6 = .ok (.if_icmp .ge 22, 3) := by decide +kernel
theorem d_PL_setOf_9 : decode prog_1_method_38_code 9 = .ok (.iload_n 2, 1) := by decide +kernel
theorem d_PL_setOf_10 : decode prog_1_method_38_code 10 = .ok (.iconst 1, 1) := by decide +kernel
theorem d_PL_setOf_11 : decode prog_1_method_38_code 11 = .ok (.iload_n 0, 1) := by decide +kernel
theorem d_PL_setOf_12 : decode prog_1_method_38_code 12 = .ok (.iconst 4, 1) := by decide +kernel
theorem d_PL_setOf_13 : decode prog_1_method_38_code 13 = .ok (.iload_n 3, 1) := by decide +kernel
theorem d_PL_setOf_14 : decode prog_1_method_38_code 14 = .ok (.imul, 1) := by decide +kernel
theorem d_PL_setOf_15 : decode prog_1_method_38_code 15 = .ok (.ishr, 1) := by decide +kernel
theorem d_PL_setOf_16 : decode prog_1_method_38_code 16 = .ok (.bipush 15, 2) := by decide +kernel
theorem d_PL_setOf_18 : decode prog_1_method_38_code 18 = .ok (.iand, 1) := by decide +kernel
theorem d_PL_setOf_19 : decode prog_1_method_38_code 19 = .ok (.ishl, 1) := by decide +kernel
theorem d_PL_setOf_20 : decode prog_1_method_38_code 20 = .ok (.ior, 1) := by decide +kernel
theorem d_PL_setOf_21 : decode prog_1_method_38_code 21 = .ok (.istore_n 2, 1) := by decide +kernel
theorem d_PL_setOf_22 : decode prog_1_method_38_code 22 = .ok (.iinc 3 1, 3) := by decide +kernel
theorem d_PL_setOf_25 : decode prog_1_method_38_code 25 = .ok (.goto (-21), 3) := by decide +kernel
theorem d_PL_setOf_28 : decode prog_1_method_38_code 28 = .ok (.iload_n 2, 1) := by decide +kernel
theorem d_PL_setOf_29 : decode prog_1_method_38_code 29 = .ok (.ireturn, 1) := by decide +kernel
def B_PL_setOf (_ : Nat × Nat) : PS :=
  (sSq (sI 2 (eV (0 : Int32)))
    (sSq (sCut 3 (sSq (sI 3 (eV (0 : Int32)))
    (sLp 4 (e2 (fun x y : Int32 => decide (x < y)) (eI 3) (eI 1))
    (sI 2 (e2 (fun x y : Int32 => x ||| y) (eI 2) (e2 (fun x y : Int32 => x <<< (y &&& 31)) (eV (1 : Int32)) (e2 (fun x y : Int32 => x &&& y) (e2 (fun x y : Int32 => x >>> (y &&& 31)) (eI 0) (e2 (fun x y : Int32 => x * y) (eV (4 : Int32)) (eI 3))) (eV (15 : Int32))))))
    (sInc 3 (1)))))
    (sRt .int (eI 2))))
def X_PL_setOf : PM := fun vs h Q => (lx vs).length ≤ 4 ∧ B_PL_setOf (h.length + 0, hsz h + 0) (fun _ _ => False) (fun _ _ => False) (fun _ _ => False) Q (lini 4 vs) h
theorem v_PL_setOf (l : Launch) : Ctr l y_PL_setOf prog_1_method_38_code 4 (some .int) rm_PL_setOf X_PL_setOf := by
  refine Ctr_of (own := "PackLanes") (B := B_PL_setOf) (KR := fun _ Q => Q) (by decide) rfl (fun _ _ _ z => z) (fun _ _ _ _ z => ⟨Or.inl ⟨rfl, rfl⟩, z⟩) (Or.inr (Or.inl rfl)) (fun κ hl ho hR hrt hn0 => ?_)
  subst hl
  unfold B_PL_setOf
  exact (S_sq (pc1 := 2) (S_In (pc1 := 1) (E_ic d_PL_setOf_0 rfl) d_PL_setOf_1 rfl)
    (S_sq (pc1 := 28) (S_cut (S_sq (pc1 := 4) (S_In (pc1 := 3) (E_ic d_PL_setOf_2 rfl) d_PL_setOf_3 rfl)
    (S_lp (pT := 9) (pF := 28) (pS := 22) (pG := 25) (J2_lt (pF := 28) (pc1 := 5) (pc2 := 6) (E_iln d_PL_setOf_4 rfl) (E_iln d_PL_setOf_5 rfl) d_PL_setOf_6 rfl)
    (S_In (pc1 := 21) (E_ior (pc1 := 10) (pc2 := 20) (E_iln d_PL_setOf_9 rfl) (E_ishl (pc1 := 11) (pc2 := 19) (E_ic d_PL_setOf_10 rfl) (E_iand (pc1 := 16) (pc2 := 18) (E_ishr (pc1 := 12) (pc2 := 15) (E_iln d_PL_setOf_11 rfl) (E_imul (pc1 := 13) (pc2 := 14) (E_ic d_PL_setOf_12 rfl) (E_iln d_PL_setOf_13 rfl) d_PL_setOf_14) d_PL_setOf_15) (E_bi d_PL_setOf_16 rfl) d_PL_setOf_18) d_PL_setOf_19) d_PL_setOf_20) d_PL_setOf_21 rfl)
    (S_Inc d_PL_setOf_22 rfl) d_PL_setOf_25 rfl)))
    (S_ri hrt (pc1 := 29) (E_iln d_PL_setOf_28 rfl) d_PL_setOf_29)))
theorem d_Int_bitCount_0 : decode prog_13_method_49_code 0 = .ok (.iload_n 0, 1) := by decide +kernel
theorem d_Int_bitCount_1 : decode prog_13_method_49_code 1 = .ok (.iload_n 0, 1) := by decide +kernel
theorem d_Int_bitCount_2 : decode prog_13_method_49_code 2 = .ok (.iconst 1, 1) := by decide +kernel
theorem d_Int_bitCount_3 : decode prog_13_method_49_code 3 = .ok (.iushr, 1) := by decide +kernel
theorem d_Int_bitCount_4 : decode prog_13_method_49_code 4 = .ok (.ldc_w 265, 3) := by decide +kernel
theorem d_Int_bitCount_7 : decode prog_13_method_49_code 7 = .ok (.iand, 1) := by decide +kernel
theorem d_Int_bitCount_8 : decode prog_13_method_49_code 8 = .ok (.isub, 1) := by decide +kernel
theorem d_Int_bitCount_9 : decode prog_13_method_49_code 9 = .ok (.istore_n 0, 1) := by decide +kernel
theorem d_Int_bitCount_10 : decode prog_13_method_49_code 10 = .ok (.iload_n 0, 1) := by decide +kernel
theorem d_Int_bitCount_11 : decode prog_13_method_49_code 11 = .ok (.ldc_w 266, 3) := by decide +kernel
theorem d_Int_bitCount_14 : decode prog_13_method_49_code 14 = .ok (.iand, 1) := by decide +kernel
theorem d_Int_bitCount_15 : decode prog_13_method_49_code 15 = .ok (.iload_n 0, 1) := by decide +kernel
theorem d_Int_bitCount_16 : decode prog_13_method_49_code 16 = .ok (.iconst 2, 1) := by decide +kernel
theorem d_Int_bitCount_17 : decode prog_13_method_49_code 17 = .ok (.iushr, 1) := by decide +kernel
theorem d_Int_bitCount_18 : decode prog_13_method_49_code 18 = .ok (.ldc_w 266, 3) := by decide +kernel
theorem d_Int_bitCount_21 : decode prog_13_method_49_code 21 = .ok (.iand, 1) := by decide +kernel
theorem d_Int_bitCount_22 : decode prog_13_method_49_code 22 = .ok (.iadd, 1) := by decide +kernel
theorem d_Int_bitCount_23 : decode prog_13_method_49_code 23 = .ok (.istore_n 0, 1) := by decide +kernel
theorem d_Int_bitCount_24 : decode prog_13_method_49_code 24 = .ok (.iload_n 0, 1) := by decide +kernel
theorem d_Int_bitCount_25 : decode prog_13_method_49_code 25 = .ok (.iload_n 0, 1) := by decide +kernel
theorem d_Int_bitCount_26 : decode prog_13_method_49_code 26 = .ok (.iconst 4, 1) := by decide +kernel
theorem d_Int_bitCount_27 : decode prog_13_method_49_code 27 = .ok (.iushr, 1) := by decide +kernel
theorem d_Int_bitCount_28 : decode prog_13_method_49_code 28 = .ok (.iadd, 1) := by decide +kernel
theorem d_Int_bitCount_29 : decode prog_13_method_49_code 29 = .ok (.ldc_w 267, 3) := by decide +kernel
theorem d_Int_bitCount_32 : decode prog_13_method_49_code 32 = .ok (.iand, 1) := by decide +kernel
theorem d_Int_bitCount_33 : decode prog_13_method_49_code 33 = .ok (.istore_n 0, 1) := by decide +kernel
theorem d_Int_bitCount_34 : decode prog_13_method_49_code 34 = .ok (.iload_n 0, 1) := by decide +kernel
theorem d_Int_bitCount_35 : decode prog_13_method_49_code 35 = .ok (.iload_n 0, 1) := by decide +kernel
theorem d_Int_bitCount_36 : decode prog_13_method_49_code 36 = .ok (.bipush 8, 2) := by decide +kernel
theorem d_Int_bitCount_38 : decode prog_13_method_49_code 38 = .ok (.iushr, 1) := by decide +kernel
theorem d_Int_bitCount_39 : decode prog_13_method_49_code 39 = .ok (.iadd, 1) := by decide +kernel
theorem d_Int_bitCount_40 : decode prog_13_method_49_code 40 = .ok (.istore_n 0, 1) := by decide +kernel
theorem d_Int_bitCount_41 : decode prog_13_method_49_code 41 = .ok (.iload_n 0, 1) := by decide +kernel
theorem d_Int_bitCount_42 : decode prog_13_method_49_code 42 = .ok (.iload_n 0, 1) := by decide +kernel
theorem d_Int_bitCount_43 : decode prog_13_method_49_code 43 = .ok (.bipush 16, 2) := by decide +kernel
theorem d_Int_bitCount_45 : decode prog_13_method_49_code 45 = .ok (.iushr, 1) := by decide +kernel
theorem d_Int_bitCount_46 : decode prog_13_method_49_code 46 = .ok (.iadd, 1) := by decide +kernel
theorem d_Int_bitCount_47 : decode prog_13_method_49_code 47 = .ok (.istore_n 0, 1) := by decide +kernel
theorem d_Int_bitCount_48 : decode prog_13_method_49_code 48 = .ok (.iload_n 0, 1) := by decide +kernel
theorem d_Int_bitCount_49 : decode prog_13_method_49_code 49 = .ok (.bipush 63, 2) := by decide +kernel
theorem d_Int_bitCount_51 : decode prog_13_method_49_code 51 = .ok (.iand, 1) := by decide +kernel
theorem d_Int_bitCount_52 : decode prog_13_method_49_code 52 = .ok (.ireturn, 1) := by decide +kernel
def B_Int_bitCount (_ : Nat × Nat) : PS :=
  (sSq (sI 0 (e2 (fun x y : Int32 => x - y) (eI 0) (e2 (fun x y : Int32 => x &&& y) (e2 (fun x y : Int32 => (x.toUInt32 >>> (y.toUInt32 &&& Int32.toUInt32 31)).toInt32) (eI 0) (eV (1 : Int32))) (eV (1431655765 : Int32)))))
    (sSq (sI 0 (e2 (fun x y : Int32 => x + y) (e2 (fun x y : Int32 => x &&& y) (eI 0) (eV (858993459 : Int32))) (e2 (fun x y : Int32 => x &&& y) (e2 (fun x y : Int32 => (x.toUInt32 >>> (y.toUInt32 &&& Int32.toUInt32 31)).toInt32) (eI 0) (eV (2 : Int32))) (eV (858993459 : Int32)))))
    (sSq (sI 0 (e2 (fun x y : Int32 => x &&& y) (e2 (fun x y : Int32 => x + y) (eI 0) (e2 (fun x y : Int32 => (x.toUInt32 >>> (y.toUInt32 &&& Int32.toUInt32 31)).toInt32) (eI 0) (eV (4 : Int32)))) (eV (252645135 : Int32))))
    (sSq (sI 0 (e2 (fun x y : Int32 => x + y) (eI 0) (e2 (fun x y : Int32 => (x.toUInt32 >>> (y.toUInt32 &&& Int32.toUInt32 31)).toInt32) (eI 0) (eV (8 : Int32)))))
    (sSq (sI 0 (e2 (fun x y : Int32 => x + y) (eI 0) (e2 (fun x y : Int32 => (x.toUInt32 >>> (y.toUInt32 &&& Int32.toUInt32 31)).toInt32) (eI 0) (eV (16 : Int32)))))
    (sRt .int (e2 (fun x y : Int32 => x &&& y) (eI 0) (eV (63 : Int32)))))))))
def X_Int_bitCount : PM := fun vs h Q => (lx vs).length ≤ 1 ∧ B_Int_bitCount (h.length + 0, hsz h + 0) (fun _ _ => False) (fun _ _ => False) (fun _ _ => False) Q (lini 1 vs) h
theorem v_Int_bitCount (l : Launch) : Ctr l y_Int_bitCount prog_13_method_49_code 1 (some .int) rm_Int_bitCount X_Int_bitCount := by
  refine Ctr_of (own := "java/lang/Integer") (B := B_Int_bitCount) (KR := fun _ Q => Q) (by decide) rfl (fun _ _ _ z => z) (fun _ _ _ _ z => ⟨Or.inl ⟨rfl, rfl⟩, z⟩) (Or.inr (Or.inl rfl)) (fun κ hl ho hR hrt hn0 => ?_)
  subst hl
  unfold B_Int_bitCount
  exact (S_sq (pc1 := 10) (S_In (pc1 := 9) (E_isub (pc1 := 1) (pc2 := 8) (E_iln d_Int_bitCount_0 rfl) (E_iand (pc1 := 4) (pc2 := 7) (E_iushr (pc1 := 2) (pc2 := 3) (E_iln d_Int_bitCount_1 rfl) (E_ic d_Int_bitCount_2 rfl) d_Int_bitCount_3) (E_ldcw ho w_c_Int_265 d_Int_bitCount_4) d_Int_bitCount_7) d_Int_bitCount_8) d_Int_bitCount_9 rfl)
    (S_sq (pc1 := 24) (S_In (pc1 := 23) (E_iadd (pc1 := 15) (pc2 := 22) (E_iand (pc1 := 11) (pc2 := 14) (E_iln d_Int_bitCount_10 rfl) (E_ldcw ho w_c_Int_266 d_Int_bitCount_11) d_Int_bitCount_14) (E_iand (pc1 := 18) (pc2 := 21) (E_iushr (pc1 := 16) (pc2 := 17) (E_iln d_Int_bitCount_15 rfl) (E_ic d_Int_bitCount_16 rfl) d_Int_bitCount_17) (E_ldcw ho w_c_Int_266 d_Int_bitCount_18) d_Int_bitCount_21) d_Int_bitCount_22) d_Int_bitCount_23 rfl)
    (S_sq (pc1 := 34) (S_In (pc1 := 33) (E_iand (pc1 := 29) (pc2 := 32) (E_iadd (pc1 := 25) (pc2 := 28) (E_iln d_Int_bitCount_24 rfl) (E_iushr (pc1 := 26) (pc2 := 27) (E_iln d_Int_bitCount_25 rfl) (E_ic d_Int_bitCount_26 rfl) d_Int_bitCount_27) d_Int_bitCount_28) (E_ldcw ho w_c_Int_267 d_Int_bitCount_29) d_Int_bitCount_32) d_Int_bitCount_33 rfl)
    (S_sq (pc1 := 41) (S_In (pc1 := 40) (E_iadd (pc1 := 35) (pc2 := 39) (E_iln d_Int_bitCount_34 rfl) (E_iushr (pc1 := 36) (pc2 := 38) (E_iln d_Int_bitCount_35 rfl) (E_bi d_Int_bitCount_36 rfl) d_Int_bitCount_38) d_Int_bitCount_39) d_Int_bitCount_40 rfl)
    (S_sq (pc1 := 48) (S_In (pc1 := 47) (E_iadd (pc1 := 42) (pc2 := 46) (E_iln d_Int_bitCount_41 rfl) (E_iushr (pc1 := 43) (pc2 := 45) (E_iln d_Int_bitCount_42 rfl) (E_bi d_Int_bitCount_43 rfl) d_Int_bitCount_45) d_Int_bitCount_46) d_Int_bitCount_47 rfl)
    (S_ri hrt (pc1 := 52) (E_iand (pc1 := 49) (pc2 := 51) (E_iln d_Int_bitCount_48 rfl) (E_bi d_Int_bitCount_49 rfl) d_Int_bitCount_51) d_Int_bitCount_52))))))
theorem d_Links_isPack_0 : decode prog_4_method_6_code 0 = .ok (.iload_n 1, 1) := by decide +kernel
theorem d_Links_isPack_1 : decode prog_4_method_6_code 1 = .ok (.iconst 0, 1) := by decide +kernel
theorem d_Links_isPack_2 : decode prog_4_method_6_code 2 = .ok (.invokestatic 70, 3) := by decide +kernel
theorem d_Links_isPack_5 : decode prog_4_method_6_code 5 = .ok (.istore_n 3, 1) := by decide +kernel
theorem d_Links_isPack_6 : decode prog_4_method_6_code 6 = .ok (.aload_n 0, 1) := by decide +kernel
theorem d_Links_isPack_7 : decode prog_4_method_6_code 7 = .ok (.getfield 25, 3) := by decide +kernel
theorem d_Links_isPack_10 : decode prog_4_method_6_code 10 = .ok (.getfield 57, 3) := by decide +kernel
theorem d_Links_isPack_13 : decode prog_4_method_6_code 13 = .ok (.iload_n 3, 1) := by decide +kernel
theorem d_Links_isPack_14 : decode prog_4_method_6_code 14 = .ok (.iaload, 1) := by decide +kernel
theorem d_Links_isPack_15 : decode prog_4_method_6_code 15 = .ok (.istore 4, 2) := by decide +kernel
theorem d_Links_isPack_17 : decode prog_4_method_6_code 17 = .ok (.iload 4, 2) := by decide +kernel
theorem d_Links_isPack_19 : decode prog_4_method_6_code 19 = .ok (.iconst 1, 1) := by decide +kernel
theorem d_Links_isPack_20 : decode prog_4_method_6_code 20 = .ok (.if_icmp .eq 9, 3) := by decide +kernel
theorem d_Links_isPack_23 : decode prog_4_method_6_code 23 = .ok (.iload 4, 2) := by decide +kernel
theorem d_Links_isPack_25 : decode prog_4_method_6_code 25 = .ok (.iconst 5, 1) := by decide +kernel
theorem d_Links_isPack_26 : decode prog_4_method_6_code 26 = .ok (.if_icmp .ne 5, 3) := by decide +kernel
theorem d_Links_isPack_29 : decode prog_4_method_6_code 29 = .ok (.iconst 0, 1) := by decide +kernel
theorem d_Links_isPack_30 : decode prog_4_method_6_code 30 = .ok (.ireturn, 1) := by decide +kernel
theorem d_Links_isPack_31 : decode prog_4_method_6_code 31 = .ok (.iload_n 1, 1) := by decide +kernel
theorem d_Links_isPack_32 : decode prog_4_method_6_code 32 = .ok (.iload_n 2, 1) := by decide +kernel
theorem d_Links_isPack_33 : decode prog_4_method_6_code 33 = .ok (.invokestatic 73, 3) := by decide +kernel
theorem d_Links_isPack_36 : decode prog_4_method_6_code 36 = .ok (.istore 5, 2) := by decide +kernel
theorem d_Links_isPack_38 : decode prog_4_method_6_code 38 = .ok (.iload 5, 2) := by decide +kernel
theorem d_Links_isPack_40 : decode prog_4_method_6_code 40 = .ok (.invokestatic 76, 3) := by decide +kernel
theorem d_Links_isPack_43 : decode prog_4_method_6_code 43 = .ok (.iload_n 2, 1) := by decide +kernel
theorem d_Links_isPack_44 : decode prog_4_method_6_code 44 = .ok (.if_icmp .eq 5, 3) := by decide +kernel
theorem d_Links_isPack_47 : decode prog_4_method_6_code 47 = .ok (.iconst 0, 1) := by decide +kernel
theorem d_Links_isPack_48 : decode prog_4_method_6_code 48 = .ok (.ireturn, 1) := by decide +kernel
theorem d_Links_isPack_49 : decode prog_4_method_6_code 49 = .ok (.iconst 0, 1) := by decide +kernel
theorem d_Links_isPack_50 : decode prog_4_method_6_code 50 = .ok (.istore 6, 2) := by decide +kernel
theorem d_Links_isPack_52 : decode prog_4_method_6_code 52 = .ok (.iload 6, 2) := by decide +kernel
theorem d_Links_isPack_54 : decode prog_4_method_6_code 54 = .ok (.iload_n 2, 1) := by decide +kernel
theorem d_Links_isPack_55 : decode prog_4_method_6_code 55 = .ok (.if_icmp .ge 108, 3) := by decide +kernel
theorem d_Links_isPack_58 : decode prog_4_method_6_code 58 = .ok (.iload_n 1, 1) := by decide +kernel
theorem d_Links_isPack_59 : decode prog_4_method_6_code 59 = .ok (.iload 6, 2) := by decide +kernel
theorem d_Links_isPack_61 : decode prog_4_method_6_code 61 = .ok (.invokestatic 70, 3) := by decide +kernel
theorem d_Links_isPack_64 : decode prog_4_method_6_code 64 = .ok (.istore 7, 2) := by decide +kernel
theorem d_Links_isPack_66 : decode prog_4_method_6_code 66 = .ok (.aload_n 0, 1) := by decide +kernel
theorem d_Links_isPack_67 : decode prog_4_method_6_code 67 = .ok (.getfield 25, 3) := by decide +kernel
theorem d_Links_isPack_70 : decode prog_4_method_6_code 70 = .ok (.getfield 57, 3) := by decide +kernel
theorem d_Links_isPack_73 : decode prog_4_method_6_code 73 = .ok (.iload 7, 2) := by decide +kernel
theorem d_Links_isPack_75 : decode prog_4_method_6_code 75 = .ok (.iaload, 1) := by decide +kernel
theorem d_Links_isPack_76 : decode prog_4_method_6_code 76 = .ok (.iload 4, 2) := by decide +kernel
theorem d_Links_isPack_78 : decode prog_4_method_6_code 78 = .ok (.if_icmp .ne 16, 3) := by decide +kernel
theorem d_Links_isPack_81 : decode prog_4_method_6_code 81 = .ok (.aload_n 0, 1) := by decide +kernel
theorem d_Links_isPack_82 : decode prog_4_method_6_code 82 = .ok (.getfield 15, 3) := by decide +kernel
theorem d_Links_isPack_85 : decode prog_4_method_6_code 85 = .ok (.iload 7, 2) := by decide +kernel
theorem d_Links_isPack_87 : decode prog_4_method_6_code 87 = .ok (.iaload, 1) := by decide +kernel
theorem d_Links_isPack_88 : decode prog_4_method_6_code 88 = .ok (.iload 5, 2) := by decide +kernel
theorem d_Links_isPack_90 : decode prog_4_method_6_code 90 = .ok (.iand, 1) := by decide +kernel
theorem d_Links_isPack_91 : decode prog_4_method_6_code 91 = .ok (.ifCond .eq 5, 3) := by decide +kernel
theorem d_Links_isPack_94 : decode prog_4_method_6_code 94 = .ok (.iconst 0, 1) := by decide +kernel
theorem d_Links_isPack_95 : decode prog_4_method_6_code 95 = .ok (.ireturn, 1) := by decide +kernel
theorem d_Links_isPack_96 : decode prog_4_method_6_code 96 = .ok (.aload_n 0, 1) := by decide +kernel
theorem d_Links_isPack_97 : decode prog_4_method_6_code 97 = .ok (.getfield 25, 3) := by decide +kernel
theorem d_Links_isPack_100 : decode prog_4_method_6_code 100 = .ok (.iload 7, 2) := by decide +kernel
theorem d_Links_isPack_102 : decode prog_4_method_6_code 102 = .ok (.invokevirtual 53, 3) := by decide +kernel
theorem d_Links_isPack_105 : decode prog_4_method_6_code 105 = .ok (.ifCond .eq 52, 3) := by decide +kernel
theorem d_Links_isPack_108 : decode prog_4_method_6_code 108 = .ok (.aload_n 0, 1) := by decide +kernel
theorem d_Links_isPack_109 : decode prog_4_method_6_code 109 = .ok (.getfield 25, 3) := by decide +kernel
theorem d_Links_isPack_112 : decode prog_4_method_6_code 112 = .ok (.getfield 60, 3) := by decide +kernel
theorem d_Links_isPack_115 : decode prog_4_method_6_code 115 = .ok (.iload 7, 2) := by decide +kernel
theorem d_Links_isPack_117 : decode prog_4_method_6_code 117 = .ok (.iaload, 1) := by decide +kernel
theorem d_Links_isPack_118 : decode prog_4_method_6_code 118 = .ok (.aload_n 0, 1) := by decide +kernel
theorem d_Links_isPack_119 : decode prog_4_method_6_code 119 = .ok (.getfield 25, 3) := by decide +kernel
theorem d_Links_isPack_122 : decode prog_4_method_6_code 122 = .ok (.getfield 60, 3) := by decide +kernel
theorem d_Links_isPack_125 : decode prog_4_method_6_code 125 = .ok (.iload_n 3, 1) := by decide +kernel
theorem d_Links_isPack_126 : decode prog_4_method_6_code 126 = .ok (.iaload, 1) := by decide +kernel
theorem d_Links_isPack_127 : decode prog_4_method_6_code 127 = .ok (.if_icmp .ne 28, 3) := by decide +kernel
theorem d_Links_isPack_130 : decode prog_4_method_6_code 130 = .ok (.aload_n 0, 1) := by decide +kernel
theorem d_Links_isPack_131 : decode prog_4_method_6_code 131 = .ok (.getfield 25, 3) := by decide +kernel
theorem d_Links_isPack_134 : decode prog_4_method_6_code 134 = .ok (.getfield 63, 3) := by decide +kernel
theorem d_Links_isPack_137 : decode prog_4_method_6_code 137 = .ok (.iload 7, 2) := by decide +kernel
theorem d_Links_isPack_139 : decode prog_4_method_6_code 139 = .ok (.iaload, 1) := by decide +kernel
theorem d_Links_isPack_140 : decode prog_4_method_6_code 140 = .ok (.aload_n 0, 1) := by decide +kernel
theorem d_Links_isPack_141 : decode prog_4_method_6_code 141 = .ok (.getfield 25, 3) := by decide +kernel
theorem d_Links_isPack_144 : decode prog_4_method_6_code 144 = .ok (.getfield 63, 3) := by decide +kernel
theorem d_Links_isPack_147 : decode prog_4_method_6_code 147 = .ok (.iload_n 3, 1) := by decide +kernel
theorem d_Links_isPack_148 : decode prog_4_method_6_code 148 = .ok (.iaload, 1) := by decide +kernel
theorem d_Links_isPack_149 : decode prog_4_method_6_code 149 = .ok (.iload 6, 2) := by decide +kernel
theorem d_Links_isPack_151 : decode prog_4_method_6_code 151 = .ok (.iadd, 1) := by decide +kernel
theorem d_Links_isPack_152 : decode prog_4_method_6_code 152 = .ok (.if_icmp .eq 5, 3) := by decide +kernel
theorem d_Links_isPack_155 : decode prog_4_method_6_code 155 = .ok (.iconst 0, 1) := by decide +kernel
theorem d_Links_isPack_156 : decode prog_4_method_6_code 156 = .ok (.ireturn, 1) := by decide +kernel
theorem d_Links_isPack_157 : decode prog_4_method_6_code 157 = .ok (.iinc 6 1, 3) := by decide +kernel
theorem d_Links_isPack_160 : decode prog_4_method_6_code 160 = .ok (.goto (-108), 3) := by decide +kernel
theorem d_Links_isPack_163 : decode prog_4_method_6_code 163 = .ok (.iconst 1, 1) := by decide +kernel
theorem d_Links_isPack_164 : decode prog_4_method_6_code 164 = .ok (.ireturn, 1) := by decide +kernel
def B_Links_isPack (_ : Nat × Nat) : PS :=
  (sSq (sI 3 (eX .int (xS 2 X_PL_inLane (aC .int (eI 1) (aC .int (eV (0 : Int32)) aN)))))
    (sSq (sI 4 (eAI (eFR 1 0 (eFR 2 0 (eR 0))) (eI 3)))
    (sSq (sIf (cO (e2 (fun x y : Int32 => decide (x = y)) (eI 4) (eV (1 : Int32))) (e2 (fun x y : Int32 => decide (x = y)) (eI 4) (eV (5 : Int32)))) (sRz (eV (0 : Int32))) sSk)
    (sSq (sI 5 (eX .int (xS 2 X_PL_setOf (aC .int (eI 1) (aC .int (eI 2) aN)))))
    (sSq (sIf (e2 (fun x y : Int32 => decide (¬ x = y)) (eX .int (xS 1 X_Int_bitCount (aC .int (eI 5) aN))) (eI 2)) (sRz (eV (0 : Int32))) sSk)
    (sSq (sCut 6 (sSq (sI 6 (eV (0 : Int32)))
    (sLp 7 (e2 (fun x y : Int32 => decide (x < y)) (eI 6) (eI 2))
    (sCut 7 (sSq (sI 7 (eX .int (xS 2 X_PL_inLane (aC .int (eI 1) (aC .int (eI 6) aN)))))
    (sSq (sIf (cO (e2 (fun x y : Int32 => decide (¬ x = y)) (eAI (eFR 1 0 (eFR 2 0 (eR 0))) (eI 7)) (eI 4)) (e1 (fun x : Int32 => decide (¬ x = 0)) (e2 (fun x y : Int32 => x &&& y) (eAI (eFR 2 2 (eR 0)) (eI 7)) (eI 5)))) (sRz (eV (0 : Int32))) sSk)
    (sIf (cA (e1 (fun x : Int32 => decide (¬ x = 0)) (eX .int (xV 1 1 X_Code_usesMemory (eFR 2 0 (eR 0)) (aC .int (eI 7) aN)))) (cO (e2 (fun x y : Int32 => decide (¬ x = y)) (eAI (eFR 1 1 (eFR 2 0 (eR 0))) (eI 7)) (eAI (eFR 1 1 (eFR 2 0 (eR 0))) (eI 3))) (e2 (fun x y : Int32 => decide (¬ x = y)) (eAI (eFR 1 2 (eFR 2 0 (eR 0))) (eI 7)) (e2 (fun x y : Int32 => x + y) (eAI (eFR 1 2 (eFR 2 0 (eR 0))) (eI 3)) (eI 6))))) (sRz (eV (0 : Int32))) sSk))))
    (sInc 6 (1)))))
    (sRz (eV (1 : Int32)))))))))
def X_Links_isPack : PM := fun vs h Q => (lx vs).length ≤ 8 ∧ B_Links_isPack (h.length + 0, hsz h + 0) (fun _ _ => False) (fun _ _ => False) (fun _ _ => False) Q (lini 8 vs) h
theorem v_Links_isPack (l : Launch) : Ctr l y_Links_isPack prog_4_method_6_code 8 (some .boolean) rm_Links_isPack X_Links_isPack := by
  refine Ctr_of (own := "PackLanes$Links") (B := B_Links_isPack) (KR := fun _ Q => Q) (by decide) rfl (fun _ _ _ z => z) (fun _ _ _ _ z => ⟨Or.inl ⟨rfl, rfl⟩, z⟩) (Or.inr (Or.inr (Or.inl rfl))) (fun κ hl ho hR hrt hn0 => ?_)
  subst hl
  unfold B_Links_isPack
  exact (S_sq (pc1 := 6) (S_In (pc1 := 5) (E_x (O_SN k_Links_70 (v_PL_inLane _) ⟨rfl, rfl⟩ ho (rk hR rfl) (by decide) (pc2 := 2) (A_c catI (pc1 := 1) (E_iln d_Links_isPack_0 rfl) (A_c catI (pc1 := 2) (E_ic d_Links_isPack_1 rfl) A_n)) d_Links_isPack_2)) d_Links_isPack_5 rfl)
    (S_sq (pc1 := 17) (S_I (pc1 := 15) (E_aI (pc1 := 13) (pc2 := 14) (E_fR f_Links_57 ho (pc1 := 10) (E_fR f_Links_25 ho (pc1 := 7) (E_aln d_Links_isPack_6 rfl) d_Links_isPack_7) d_Links_isPack_10) (E_iln d_Links_isPack_13 rfl) d_Links_isPack_14) d_Links_isPack_15)
    (S_sq (pc1 := 31) (S_if1 (pT := 29) (pF := 31) (C_or (pc1 := 23) (T2_eq (pT := 29) (pc1 := 19) (pc2 := 20) (E_il d_Links_isPack_17) (E_ic d_Links_isPack_19 rfl) d_Links_isPack_20 rfl) (J2_eq (pF := 31) (pc1 := 25) (pc2 := 26) (E_il d_Links_isPack_23) (E_ic d_Links_isPack_25 rfl) d_Links_isPack_26 rfl)) (S_rz hrt (pc1 := 30) (E_ic d_Links_isPack_29 rfl) d_Links_isPack_30))
    (S_sq (pc1 := 38) (S_I (pc1 := 36) (E_x (O_SN k_Links_73 (v_PL_setOf _) ⟨rfl, rfl⟩ ho (rk hR rfl) (by decide) (pc2 := 33) (A_c catI (pc1 := 32) (E_iln d_Links_isPack_31 rfl) (A_c catI (pc1 := 33) (E_iln d_Links_isPack_32 rfl) A_n)) d_Links_isPack_33)) d_Links_isPack_36)
    (S_sq (pc1 := 49) (S_if1 (pT := 47) (pF := 49) (J2_ne (pF := 49) (pc1 := 43) (pc2 := 44) (E_x (O_S k_Links_76 (v_Int_bitCount _) ⟨rfl, rfl⟩ ho (rk hR rfl) (by decide) (pc2 := 40) (A_c catI (pc1 := 40) (E_il d_Links_isPack_38) A_n) d_Links_isPack_40)) (E_iln d_Links_isPack_43 rfl) d_Links_isPack_44 rfl) (S_rz hrt (pc1 := 48) (E_ic d_Links_isPack_47 rfl) d_Links_isPack_48))
    (S_sq (pc1 := 163) (S_cut (S_sq (pc1 := 52) (S_I (pc1 := 50) (E_ic d_Links_isPack_49 rfl) d_Links_isPack_50)
    (S_lp (pT := 58) (pF := 163) (pS := 157) (pG := 160) (J2_lt (pF := 163) (pc1 := 54) (pc2 := 55) (E_il d_Links_isPack_52) (E_iln d_Links_isPack_54 rfl) d_Links_isPack_55 rfl)
    (S_cut (S_sq (pc1 := 66) (S_I (pc1 := 64) (E_x (O_SN k_Links_70 (v_PL_inLane _) ⟨rfl, rfl⟩ ho (rk hR rfl) (by decide) (pc2 := 61) (A_c catI (pc1 := 59) (E_iln d_Links_isPack_58 rfl) (A_c catI (pc1 := 61) (E_il d_Links_isPack_59) A_n)) d_Links_isPack_61)) d_Links_isPack_64)
    (S_sq (pc1 := 96) (S_if1 (pT := 94) (pF := 96) (C_or (pc1 := 81) (T2_ne (pT := 94) (pc1 := 76) (pc2 := 78) (E_aI (pc1 := 73) (pc2 := 75) (E_fR f_Links_57 ho (pc1 := 70) (E_fR f_Links_25 ho (pc1 := 67) (E_aln d_Links_isPack_66 rfl) d_Links_isPack_67) d_Links_isPack_70) (E_il d_Links_isPack_73) d_Links_isPack_75) (E_il d_Links_isPack_76) d_Links_isPack_78 rfl) (J1_ne (pF := 96) (pc2 := 91) (E_iand (pc1 := 88) (pc2 := 90) (E_aI (pc1 := 85) (pc2 := 87) (E_fR f_Links_15 ho (pc1 := 82) (E_aln d_Links_isPack_81 rfl) d_Links_isPack_82) (E_il d_Links_isPack_85) d_Links_isPack_87) (E_il d_Links_isPack_88) d_Links_isPack_90) d_Links_isPack_91 rfl)) (S_rz hrt (pc1 := 95) (E_ic d_Links_isPack_94 rfl) d_Links_isPack_95))
    (S_if1 (pT := 155) (pF := 157) (C_and (pc1 := 108) (J1_ne (pF := 157) (pc2 := 105) (E_x (O_V k_Links_53 (v_Code_usesMemory _) ⟨rfl, rfl⟩ ho (rk hR rfl) (by decide) (T := KT1) (N := 7) rfl (by decide) (pc1 := 100) (pc2 := 102) (E_fR f_Links_25 ho (pc1 := 97) (E_aln d_Links_isPack_96 rfl) d_Links_isPack_97) (A_c catI (pc1 := 102) (E_il d_Links_isPack_100) A_n) d_Links_isPack_102)) d_Links_isPack_105 rfl) (C_or (pc1 := 130) (T2_ne (pT := 155) (pc1 := 118) (pc2 := 127) (E_aI (pc1 := 115) (pc2 := 117) (E_fR f_Links_60 ho (pc1 := 112) (E_fR f_Links_25 ho (pc1 := 109) (E_aln d_Links_isPack_108 rfl) d_Links_isPack_109) d_Links_isPack_112) (E_il d_Links_isPack_115) d_Links_isPack_117) (E_aI (pc1 := 125) (pc2 := 126) (E_fR f_Links_60 ho (pc1 := 122) (E_fR f_Links_25 ho (pc1 := 119) (E_aln d_Links_isPack_118 rfl) d_Links_isPack_119) d_Links_isPack_122) (E_iln d_Links_isPack_125 rfl) d_Links_isPack_126) d_Links_isPack_127 rfl) (J2_ne (pF := 157) (pc1 := 140) (pc2 := 152) (E_aI (pc1 := 137) (pc2 := 139) (E_fR f_Links_63 ho (pc1 := 134) (E_fR f_Links_25 ho (pc1 := 131) (E_aln d_Links_isPack_130 rfl) d_Links_isPack_131) d_Links_isPack_134) (E_il d_Links_isPack_137) d_Links_isPack_139) (E_iadd (pc1 := 149) (pc2 := 151) (E_aI (pc1 := 147) (pc2 := 148) (E_fR f_Links_63 ho (pc1 := 144) (E_fR f_Links_25 ho (pc1 := 141) (E_aln d_Links_isPack_140 rfl) d_Links_isPack_141) d_Links_isPack_144) (E_iln d_Links_isPack_147 rfl) d_Links_isPack_148) (E_il d_Links_isPack_149) d_Links_isPack_151) d_Links_isPack_152 rfl))) (S_rz hrt (pc1 := 156) (E_ic d_Links_isPack_155 rfl) d_Links_isPack_156)))))
    (S_Inc d_Links_isPack_157 rfl) d_Links_isPack_160 rfl)))
    (S_rz hrt (pc1 := 164) (E_ic d_Links_isPack_163 rfl) d_Links_isPack_164)))))))
theorem d_Pack_rootAt_0 : decode prog_6_method_4_code 0 = .ok (.iconst 0, 1) := by decide +kernel
theorem d_Pack_rootAt_1 : decode prog_6_method_4_code 1 = .ok (.istore_n 3, 1) := by decide +kernel
theorem d_Pack_rootAt_2 : decode prog_6_method_4_code 2 = .ok (.iconst 0, 1) := by decide +kernel
theorem d_Pack_rootAt_3 : decode prog_6_method_4_code 3 = .ok (.istore 4, 2) := by decide +kernel
theorem d_Pack_rootAt_5 : decode prog_6_method_4_code 5 = .ok (.iload 4, 2) := by decide +kernel
theorem d_Pack_rootAt_7 : decode prog_6_method_4_code 7 = .ok (.aload_n 0, 1) := by decide +kernel
theorem d_Pack_rootAt_8 : decode prog_6_method_4_code 8 = .ok (.getfield 9, 3) := by decide +kernel
theorem d_Pack_rootAt_11 : decode prog_6_method_4_code 11 = .ok (.if_icmp .ge 37, 3) := by decide +kernel
theorem d_Pack_rootAt_14 : decode prog_6_method_4_code 14 = .ok (.aload_n 0, 1) := by decide +kernel
theorem d_Pack_rootAt_15 : decode prog_6_method_4_code 15 = .ok (.iload_n 1, 1) := by decide +kernel
theorem d_Pack_rootAt_16 : decode prog_6_method_4_code 16 = .ok (.iload_n 2, 1) := by decide +kernel
theorem d_Pack_rootAt_17 : decode prog_6_method_4_code 17 = .ok (.iload 4, 2) := by decide +kernel
theorem d_Pack_rootAt_19 : decode prog_6_method_4_code 19 = .ok (.iadd, 1) := by decide +kernel
theorem d_Pack_rootAt_20 : decode prog_6_method_4_code 20 = .ok (.invokevirtual 88, 3) := by decide +kernel
theorem d_Pack_rootAt_23 : decode prog_6_method_4_code 23 = .ok (.istore 5, 2) := by decide +kernel
theorem d_Pack_rootAt_25 : decode prog_6_method_4_code 25 = .ok (.iload 5, 2) := by decide +kernel
theorem d_Pack_rootAt_27 : decode prog_6_method_4_code 27 = .ok (.ifCond .ge 6, 3) := by decide +kernel
theorem d_Pack_rootAt_30 : decode prog_6_method_4_code 30 = .ok (.bipush (-9), 2) := by decide +kernel
theorem d_Pack_rootAt_32 : decode prog_6_method_4_code 32 = .ok (.ireturn, 1) := by decide +kernel
theorem d_Pack_rootAt_33 : decode prog_6_method_4_code 33 = .ok (.iload_n 3, 1) := by decide +kernel
theorem d_Pack_rootAt_34 : decode prog_6_method_4_code 34 = .ok (.iload 4, 2) := by decide +kernel
theorem d_Pack_rootAt_36 : decode prog_6_method_4_code 36 = .ok (.iload 5, 2) := by decide +kernel
theorem d_Pack_rootAt_38 : decode prog_6_method_4_code 38 = .ok (.invokestatic 91, 3) := by decide +kernel
theorem d_Pack_rootAt_41 : decode prog_6_method_4_code 41 = .ok (.istore_n 3, 1) := by decide +kernel
theorem d_Pack_rootAt_42 : decode prog_6_method_4_code 42 = .ok (.iinc 4 1, 3) := by decide +kernel
theorem d_Pack_rootAt_45 : decode prog_6_method_4_code 45 = .ok (.goto (-40), 3) := by decide +kernel
theorem d_Pack_rootAt_48 : decode prog_6_method_4_code 48 = .ok (.aload_n 0, 1) := by decide +kernel
theorem d_Pack_rootAt_49 : decode prog_6_method_4_code 49 = .ok (.getfield 55, 3) := by decide +kernel
theorem d_Pack_rootAt_52 : decode prog_6_method_4_code 52 = .ok (.iload_n 3, 1) := by decide +kernel
theorem d_Pack_rootAt_53 : decode prog_6_method_4_code 53 = .ok (.aload_n 0, 1) := by decide +kernel
theorem d_Pack_rootAt_54 : decode prog_6_method_4_code 54 = .ok (.getfield 9, 3) := by decide +kernel
theorem d_Pack_rootAt_57 : decode prog_6_method_4_code 57 = .ok (.invokevirtual 95, 3) := by decide +kernel
theorem d_Pack_rootAt_60 : decode prog_6_method_4_code 60 = .ok (.ifCond .eq 7, 3) := by decide +kernel
theorem d_Pack_rootAt_63 : decode prog_6_method_4_code 63 = .ok (.iload_n 3, 1) := by decide +kernel
theorem d_Pack_rootAt_64 : decode prog_6_method_4_code 64 = .ok (.goto 5, 3) := by decide +kernel
theorem d_Pack_rootAt_67 : decode prog_6_method_4_code 67 = .ok (.bipush (-9), 2) := by decide +kernel
theorem d_Pack_rootAt_69 : decode prog_6_method_4_code 69 = .ok (.ireturn, 1) := by decide +kernel
def B_Pack_rootAt (_ : Nat × Nat) : PS :=
  (sSq (sI 3 (eV (0 : Int32)))
    (sSq (sCut 4 (sSq (sI 4 (eV (0 : Int32)))
    (sLp 5 (e2 (fun x y : Int32 => decide (x < y)) (eI 4) (eFI 4 3 (eR 0)))
    (sCut 5 (sSq (sI 5 (eX .int (xV 4 2 X_Pack_leastStore (eR 0) (aC .int (eI 1) (aC .int (e2 (fun x y : Int32 => x + y) (eI 2) (eI 4)) aN)))))
    (sSq (sIf (e1 (fun x : Int32 => decide (x < 0)) (eI 5)) (sRt .int (eV (-9 : Int32))) sSk)
    (sI 3 (eX .int (xS 3 X_PL_withLane (aC .int (eI 3) (aC .int (eI 4) (aC .int (eI 5) aN)))))))))
    (sInc 4 (1)))))
    (sRt .int (eIf (e1 (fun x : Int32 => decide (¬ x = 0)) (eX .int (xV 2 2 X_Links_isPack (eFR 4 1 (eR 0)) (aC .int (eI 3) (aC .int (eFI 4 3 (eR 0)) aN))))) (eI 3) (eV (-9 : Int32))))))
def X_Pack_rootAt : PM := fun vs h Q => (lx vs).length ≤ 6 ∧ B_Pack_rootAt (h.length + 0, hsz h + 0) (fun _ _ => False) (fun _ _ => False) (fun _ _ => False) Q (lini 6 vs) h
theorem v_Pack_rootAt (l : Launch) : Ctr l y_Pack_rootAt prog_6_method_4_code 6 (some .int) rm_Pack_rootAt X_Pack_rootAt := by
  refine Ctr_of (own := "PackLanes$Packer") (B := B_Pack_rootAt) (KR := fun _ Q => Q) (by decide) rfl (fun _ _ _ z => z) (fun _ _ _ _ z => ⟨Or.inl ⟨rfl, rfl⟩, z⟩) (Or.inr (Or.inl rfl)) (fun κ hl ho hR hrt hn0 => ?_)
  subst hl
  unfold B_Pack_rootAt
  exact (S_sq (pc1 := 2) (S_In (pc1 := 1) (E_ic d_Pack_rootAt_0 rfl) d_Pack_rootAt_1 rfl)
    (S_sq (pc1 := 48) (S_cut (S_sq (pc1 := 5) (S_I (pc1 := 3) (E_ic d_Pack_rootAt_2 rfl) d_Pack_rootAt_3)
    (S_lp (pT := 14) (pF := 48) (pS := 42) (pG := 45) (J2_lt (pF := 48) (pc1 := 7) (pc2 := 11) (E_il d_Pack_rootAt_5) (E_fI f_Pack_9 ho (pc1 := 8) (E_aln d_Pack_rootAt_7 rfl) d_Pack_rootAt_8) d_Pack_rootAt_11 rfl)
    (S_cut (S_sq (pc1 := 25) (S_I (pc1 := 23) (E_x (O_V k_Pack_88 (v_Pack_leastStore _) ⟨rfl, rfl⟩ ho (rk hR rfl) (by decide) (T := KT4) (N := 14) rfl (by decide) (pc1 := 15) (pc2 := 20) (E_aln d_Pack_rootAt_14 rfl) (A_c catI (pc1 := 16) (E_iln d_Pack_rootAt_15 rfl) (A_c catI (pc1 := 20) (E_iadd (pc1 := 17) (pc2 := 19) (E_iln d_Pack_rootAt_16 rfl) (E_il d_Pack_rootAt_17) d_Pack_rootAt_19) A_n)) d_Pack_rootAt_20)) d_Pack_rootAt_23)
    (S_sq (pc1 := 33) (S_if1 (pT := 30) (pF := 33) (J1_lt (pF := 33) (pc2 := 27) (E_il d_Pack_rootAt_25) d_Pack_rootAt_27 rfl) (S_ri hrt (pc1 := 32) (E_bi d_Pack_rootAt_30 rfl) d_Pack_rootAt_32))
    (S_In (pc1 := 41) (E_x (O_SN k_Pack_91 (v_PL_withLane _) ⟨rfl, rfl⟩ ho (rk hR rfl) (by decide) (pc2 := 38) (A_c catI (pc1 := 34) (E_iln d_Pack_rootAt_33 rfl) (A_c catI (pc1 := 36) (E_il d_Pack_rootAt_34) (A_c catI (pc1 := 38) (E_il d_Pack_rootAt_36) A_n))) d_Pack_rootAt_38)) d_Pack_rootAt_41 rfl))))
    (S_Inc d_Pack_rootAt_42 rfl) d_Pack_rootAt_45 rfl)))
    (S_ri hrt (pc1 := 69) (E_if (pT := 63) (pF := 67) (pc1 := 64) (pc2 := 69) (J1_ne (pF := 67) (pc2 := 60) (E_x (O_V k_Pack_95 (v_Links_isPack _) ⟨rfl, rfl⟩ ho (rk hR rfl) (by decide) (T := KT2) (N := 5) rfl (by decide) (pc1 := 52) (pc2 := 57) (E_fR f_Pack_55 ho (pc1 := 49) (E_aln d_Pack_rootAt_48 rfl) d_Pack_rootAt_49) (A_c catI (pc1 := 53) (E_iln d_Pack_rootAt_52 rfl) (A_c catI (pc1 := 57) (E_fI f_Pack_9 ho (pc1 := 54) (E_aln d_Pack_rootAt_53 rfl) d_Pack_rootAt_54) A_n)) d_Pack_rootAt_57)) d_Pack_rootAt_60 rfl) (E_iln d_Pack_rootAt_63 rfl) d_Pack_rootAt_64 rfl (E_bi d_Pack_rootAt_67 rfl)) d_Pack_rootAt_69)))
theorem d_Pack_joinTree_0 : decode prog_6_method_8_code 0 = .ok (.iconst 0, 1) := by decide +kernel
theorem d_Pack_joinTree_1 : decode prog_6_method_8_code 1 = .ok (.istore_n 2, 1) := by decide +kernel
theorem d_Pack_joinTree_2 : decode prog_6_method_8_code 2 = .ok (.iload_n 2, 1) := by decide +kernel
theorem d_Pack_joinTree_3 : decode prog_6_method_8_code 3 = .ok (.aload_n 0, 1) := by decide +kernel
theorem d_Pack_joinTree_4 : decode prog_6_method_8_code 4 = .ok (.getfield 64, 3) := by decide +kernel
theorem d_Pack_joinTree_7 : decode prog_6_method_8_code 7 = .ok (.getfield 130, 3) := by decide +kernel
theorem d_Pack_joinTree_10 : decode prog_6_method_8_code 10 = .ok (.if_icmp .ge 79, 3) := by decide +kernel
theorem d_Pack_joinTree_13 : decode prog_6_method_8_code 13 = .ok (.aload_n 0, 1) := by decide +kernel
theorem d_Pack_joinTree_14 : decode prog_6_method_8_code 14 = .ok (.getfield 64, 3) := by decide +kernel
theorem d_Pack_joinTree_17 : decode prog_6_method_8_code 17 = .ok (.getfield 133, 3) := by decide +kernel
theorem d_Pack_joinTree_20 : decode prog_6_method_8_code 20 = .ok (.iload_n 2, 1) := by decide +kernel
theorem d_Pack_joinTree_21 : decode prog_6_method_8_code 21 = .ok (.iaload, 1) := by decide +kernel
theorem d_Pack_joinTree_22 : decode prog_6_method_8_code 22 = .ok (.aload_n 0, 1) := by decide +kernel
theorem d_Pack_joinTree_23 : decode prog_6_method_8_code 23 = .ok (.getfield 9, 3) := by decide +kernel
theorem d_Pack_joinTree_26 : decode prog_6_method_8_code 26 = .ok (.invokestatic 139, 3) := by decide +kernel
theorem d_Pack_joinTree_29 : decode prog_6_method_8_code 29 = .ok (.istore_n 3, 1) := by decide +kernel
theorem d_Pack_joinTree_30 : decode prog_6_method_8_code 30 = .ok (.iconst 0, 1) := by decide +kernel
theorem d_Pack_joinTree_31 : decode prog_6_method_8_code 31 = .ok (.istore 4, 2) := by decide +kernel
theorem d_Pack_joinTree_33 : decode prog_6_method_8_code 33 = .ok (.iload 4, 2) := by decide +kernel
theorem d_Pack_joinTree_35 : decode prog_6_method_8_code 35 = .ok (.aload_n 0, 1) := by decide +kernel
theorem d_Pack_joinTree_36 : decode prog_6_method_8_code 36 = .ok (.getfield 9, 3) := by decide +kernel
theorem d_Pack_joinTree_39 : decode prog_6_method_8_code 39 = .ok (.if_icmp .ge 44, 3) := by decide +kernel
theorem d_Pack_joinTree_42 : decode prog_6_method_8_code 42 = .ok (.aload_n 0, 1) := by decide +kernel
theorem d_Pack_joinTree_43 : decode prog_6_method_8_code 43 = .ok (.getfield 64, 3) := by decide +kernel
theorem d_Pack_joinTree_46 : decode prog_6_method_8_code 46 = .ok (.getfield 133, 3) := by decide +kernel
theorem d_Pack_joinTree_49 : decode prog_6_method_8_code 49 = .ok (.iload_n 2, 1) := by decide +kernel
theorem d_Pack_joinTree_50 : decode prog_6_method_8_code 50 = .ok (.iaload, 1) := by decide +kernel
theorem d_Pack_joinTree_51 : decode prog_6_method_8_code 51 = .ok (.iload 4, 2) := by decide +kernel
theorem d_Pack_joinTree_53 : decode prog_6_method_8_code 53 = .ok (.invokestatic 135, 3) := by decide +kernel
theorem d_Pack_joinTree_56 : decode prog_6_method_8_code 56 = .ok (.istore 5, 2) := by decide +kernel
theorem d_Pack_joinTree_58 : decode prog_6_method_8_code 58 = .ok (.aload_n 0, 1) := by decide +kernel
theorem d_Pack_joinTree_59 : decode prog_6_method_8_code 59 = .ok (.getfield 15, 3) := by decide +kernel
theorem d_Pack_joinTree_62 : decode prog_6_method_8_code 62 = .ok (.iload 5, 2) := by decide +kernel
theorem d_Pack_joinTree_64 : decode prog_6_method_8_code 64 = .ok (.iload_n 1, 1) := by decide +kernel
theorem d_Pack_joinTree_65 : decode prog_6_method_8_code 65 = .ok (.ifCond .eq 7, 3) := by decide +kernel
theorem d_Pack_joinTree_68 : decode prog_6_method_8_code 68 = .ok (.iload_n 3, 1) := by decide +kernel
theorem d_Pack_joinTree_69 : decode prog_6_method_8_code 69 = .ok (.goto 7, 3) := by decide +kernel
theorem d_Pack_joinTree_72 : decode prog_6_method_8_code 72 = .ok (.iconst 1, 1) := by decide +kernel
theorem d_Pack_joinTree_73 : decode prog_6_method_8_code 73 = .ok (.iload 5, 2) := by decide +kernel
theorem d_Pack_joinTree_75 : decode prog_6_method_8_code 75 = .ok (.ishl, 1) := by decide +kernel
theorem d_Pack_joinTree_76 : decode prog_6_method_8_code 76 = .ok (.iastore, 1) := by decide +kernel
theorem d_Pack_joinTree_77 : decode prog_6_method_8_code 77 = .ok (.iinc 4 1, 3) := by decide +kernel
theorem d_Pack_joinTree_80 : decode prog_6_method_8_code 80 = .ok (.goto (-47), 3) := by decide +kernel
theorem d_Pack_joinTree_83 : decode prog_6_method_8_code 83 = .ok (.iinc 2 1, 3) := by decide +kernel
theorem d_Pack_joinTree_86 : decode prog_6_method_8_code 86 = .ok (.goto (-84), 3) := by decide +kernel
theorem d_Pack_joinTree_89 : decode prog_6_method_8_code 89 = .ok (.return_, 1) := by decide +kernel
def B_Pack_joinTree (_ : Nat × Nat) : PS :=
  (sSq (sCut 2 (sSq (sI 2 (eV (0 : Int32)))
    (sLp 3 (e2 (fun x y : Int32 => decide (x < y)) (eI 2) (eFI 8 3 (eFR 4 2 (eR 0))))
    (sCut 3 (sSq (sI 3 (eX .int (xS 2 X_PL_setOf (aC .int (eAI (eFR 8 2 (eFR 4 2 (eR 0))) (eI 2)) (aC .int (eFI 4 3 (eR 0)) aN)))))
    (sCut 4 (sSq (sI 4 (eV (0 : Int32)))
    (sLp 5 (e2 (fun x y : Int32 => decide (x < y)) (eI 4) (eFI 4 3 (eR 0)))
    (sCut 5 (sSq (sI 5 (eX .int (xS 2 X_PL_inLane (aC .int (eAI (eFR 8 2 (eFR 4 2 (eR 0))) (eI 2)) (aC .int (eI 4) aN)))))
    (sAI (eFR 4 4 (eR 0)) (eI 5) (eIf (e1 (fun x : Int32 => decide (¬ x = 0)) (eI 1)) (eI 3) (e2 (fun x y : Int32 => x <<< (y &&& 31)) (eV (1 : Int32)) (eI 5))))))
    (sInc 4 (1)))))))
    (sInc 2 (1)))))
    sRv)
def X_Pack_joinTree : PM := fun vs h Q => (lx vs).length ≤ 6 ∧ B_Pack_joinTree (h.length + 0, hsz h + 0) (fun _ _ => False) (fun _ _ => False) (fun _ _ => False) Q (lini 6 vs) h
theorem v_Pack_joinTree (l : Launch) : Ctr l y_Pack_joinTree prog_6_method_8_code 6 none rm_Pack_joinTree X_Pack_joinTree := by
  refine Ctr_of (own := "PackLanes$Packer") (B := B_Pack_joinTree) (KR := fun _ Q => Q) (by decide) rfl (fun _ _ _ z => z) (fun _ _ _ _ z => ⟨Or.inl ⟨rfl, rfl⟩, z⟩) (Or.inl rfl) (fun κ hl ho hR hrt hn0 => ?_)
  subst hl
  unfold B_Pack_joinTree
  exact (S_sq (pc1 := 89) (S_cut (S_sq (pc1 := 2) (S_In (pc1 := 1) (E_ic d_Pack_joinTree_0 rfl) d_Pack_joinTree_1 rfl)
    (S_lp (pT := 13) (pF := 89) (pS := 83) (pG := 86) (J2_lt (pF := 89) (pc1 := 3) (pc2 := 10) (E_iln d_Pack_joinTree_2 rfl) (E_fI f_Pack_130 ho (pc1 := 7) (E_fR f_Pack_64 ho (pc1 := 4) (E_aln d_Pack_joinTree_3 rfl) d_Pack_joinTree_4) d_Pack_joinTree_7) d_Pack_joinTree_10 rfl)
    (S_cut (S_sq (pc1 := 30) (S_In (pc1 := 29) (E_x (O_SN k_Pack_139 (v_PL_setOf _) ⟨rfl, rfl⟩ ho (rk hR rfl) (by decide) (pc2 := 26) (A_c catI (pc1 := 22) (E_aI (pc1 := 20) (pc2 := 21) (E_fR f_Pack_133 ho (pc1 := 17) (E_fR f_Pack_64 ho (pc1 := 14) (E_aln d_Pack_joinTree_13 rfl) d_Pack_joinTree_14) d_Pack_joinTree_17) (E_iln d_Pack_joinTree_20 rfl) d_Pack_joinTree_21) (A_c catI (pc1 := 26) (E_fI f_Pack_9 ho (pc1 := 23) (E_aln d_Pack_joinTree_22 rfl) d_Pack_joinTree_23) A_n)) d_Pack_joinTree_26)) d_Pack_joinTree_29 rfl)
    (S_cut (S_sq (pc1 := 33) (S_I (pc1 := 31) (E_ic d_Pack_joinTree_30 rfl) d_Pack_joinTree_31)
    (S_lp (pT := 42) (pF := 83) (pS := 77) (pG := 80) (J2_lt (pF := 83) (pc1 := 35) (pc2 := 39) (E_il d_Pack_joinTree_33) (E_fI f_Pack_9 ho (pc1 := 36) (E_aln d_Pack_joinTree_35 rfl) d_Pack_joinTree_36) d_Pack_joinTree_39 rfl)
    (S_cut (S_sq (pc1 := 58) (S_I (pc1 := 56) (E_x (O_SN k_Pack_135 (v_PL_inLane _) ⟨rfl, rfl⟩ ho (rk hR rfl) (by decide) (pc2 := 53) (A_c catI (pc1 := 51) (E_aI (pc1 := 49) (pc2 := 50) (E_fR f_Pack_133 ho (pc1 := 46) (E_fR f_Pack_64 ho (pc1 := 43) (E_aln d_Pack_joinTree_42 rfl) d_Pack_joinTree_43) d_Pack_joinTree_46) (E_iln d_Pack_joinTree_49 rfl) d_Pack_joinTree_50) (A_c catI (pc1 := 53) (E_il d_Pack_joinTree_51) A_n)) d_Pack_joinTree_53)) d_Pack_joinTree_56)
    (S_AI (pc1 := 62) (pc2 := 64) (pc3 := 76) (E_fR f_Pack_15 ho (pc1 := 59) (E_aln d_Pack_joinTree_58 rfl) d_Pack_joinTree_59) (E_il d_Pack_joinTree_62) (E_if (pT := 68) (pF := 72) (pc1 := 69) (pc2 := 76) (J1_ne (pF := 72) (pc2 := 65) (E_iln d_Pack_joinTree_64 rfl) d_Pack_joinTree_65 rfl) (E_iln d_Pack_joinTree_68 rfl) d_Pack_joinTree_69 rfl (E_ishl (pc1 := 73) (pc2 := 75) (E_ic d_Pack_joinTree_72 rfl) (E_il d_Pack_joinTree_73) d_Pack_joinTree_75)) d_Pack_joinTree_76)))
    (S_Inc d_Pack_joinTree_77 rfl) d_Pack_joinTree_80 rfl)))))
    (S_Inc d_Pack_joinTree_83 rfl) d_Pack_joinTree_86 rfl)))
    (S_rv hrt d_Pack_joinTree_89))
end
