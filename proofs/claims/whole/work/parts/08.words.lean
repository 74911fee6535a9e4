/-! words, fields, methods, calls of this claim, by their places in the tables (printed by a program of mine out of the class) -/
theorem w_arrI : Cond.arrayClass .int ∈ BIG := (big_t 40 (by decide +kernel) (by decide +kernel))
theorem w_arrZ : Cond.arrayClass .boolean ∈ BIG := (big_t 121 (by decide +kernel) (by decide +kernel))
theorem w_oi : Cond.instanceMethod Lib.objectInit ∈ BIG := (big_t 21 (by decide +kernel) (by decide +kernel))
theorem w_oc : Cond.code Lib.objectInit ⟨#[0xb1]⟩ 1 none ∈ BIG := (big_t 22 (by decide +kernel) (by decide +kernel))
theorem w_acn : Cond.native arraycopyName ∈ BIG := (big_t 579 (by decide +kernel) (by decide +kernel))
theorem w_acs : Cond.static arraycopyName ∈ BIG := (big_t 578 (by decide +kernel) (by decide +kernel))
theorem w_aci : Cond.initialized "java/lang/System" ∈ BIG := (big_t 13 (by decide +kernel) (by decide +kernel))
theorem w_abs : Cond.static Lib.Math.abs.name ∈ BIG := (big_t 698 (by decide +kernel) (by decide +kernel))
theorem w_abi : Cond.initialized "java/lang/Math" ∈ BIG := (big_t 14 (by decide +kernel) (by decide +kernel))
theorem w_abc : Cond.code Lib.Math.abs.name Lib.Math.abs.code 1 (some .int) ∈ BIG := (big_t 699 (by decide +kernel) (by decide +kernel))
def y_Acts_clear : MethodName := ⟨"PackLanes$Acts", "clear", "()V"⟩
def rm_Acts_clear : Room := { frames := 0, cells := 0, slots := 0, locals := 0 }
def y_Slots_clear : MethodName := ⟨"PackLanes$Slots", "clear", "()V"⟩
def rm_Slots_clear : Room := { frames := 0, cells := 0, slots := 0, locals := 0 }
def y_PL_restart : MethodName := ⟨"PackLanes", "restart", "(III)V"⟩
def rm_PL_restart : Room := { frames := 1, cells := 0, slots := 0, locals := 21 }
def y_Src_init : MethodName := ⟨"PackLanes$Source", "<init>", "()V"⟩
def rm_Src_init : Room := { frames := 1, cells := 2, slots := 84, locals := 20 }
def y_Code_init : MethodName := ⟨"PackLanes$Code", "<init>", "()V"⟩
def rm_Code_init : Room := { frames := 1, cells := 6, slots := 96, locals := 20 }
def y_Acts_init : MethodName := ⟨"PackLanes$Acts", "<init>", "()V"⟩
def rm_Acts_init : Room := { frames := 1, cells := 2, slots := 28, locals := 20 }
def y_Slots_init : MethodName := ⟨"PackLanes$Slots", "<init>", "()V"⟩
def rm_Slots_init : Room := { frames := 1, cells := 4, slots := 42, locals := 20 }
def y_Sights_init : MethodName := ⟨"PackLanes$Sights", "<init>", "()V"⟩
def rm_Sights_init : Room := { frames := 1, cells := 2, slots := 12, locals := 20 }
def y_Links_init : MethodName := ⟨"PackLanes$Links", "<init>", "(LPackLanes$Code;)V"⟩
def rm_Links_init : Room := { frames := 1, cells := 3, slots := 48, locals := 20 }
def y_Tree_init : MethodName := ⟨"PackLanes$Tree", "<init>", "(LPackLanes$Code;LPackLanes$Links;)V"⟩
def rm_Tree_init : Room := { frames := 1, cells := 2, slots := 24, locals := 20 }
def y_Pack_init : MethodName := ⟨"PackLanes$Packer", "<init>", "(LPackLanes$Code;)V"⟩
def rm_Pack_init : Room := { frames := 2, cells := 12, slots := 168, locals := 42 }
def y_Mach_init : MethodName := ⟨"PackLanes$Machine", "<init>", "(LPackLanes$Code;)V"⟩
def rm_Mach_init : Room := { frames := 1, cells := 2, slots := 32, locals := 20 }
def y_PL_holds : MethodName := ⟨"PackLanes", "holds", "(II)Z"⟩
def rm_PL_holds : Room := { frames := 0, cells := 0, slots := 0, locals := 0 }
def y_Code_addressOf : MethodName := ⟨"PackLanes$Code", "addressOf", "(II)I"⟩
def rm_Code_addressOf : Room := { frames := 0, cells := 0, slots := 0, locals := 0 }
def y_Code_usesMemory : MethodName := ⟨"PackLanes$Code", "usesMemory", "(I)Z"⟩
def rm_Code_usesMemory : Room := { frames := 0, cells := 0, slots := 0, locals := 0 }
def y_Links_clashInMemory : MethodName := ⟨"PackLanes$Links", "clashInMemory", "(IIII)Z"⟩
def rm_Links_clashInMemory : Room := { frames := 1, cells := 0, slots := 0, locals := 22 }
def y_Links_clashByStop : MethodName := ⟨"PackLanes$Links", "clashByStop", "(II)Z"⟩
def rm_Links_clashByStop : Room := { frames := 0, cells := 0, slots := 0, locals := 0 }
def y_Code_operands : MethodName := ⟨"PackLanes$Code", "operands", "(I)I"⟩
def rm_Code_operands : Room := { frames := 0, cells := 0, slots := 0, locals := 0 }
def y_Links_link : MethodName := ⟨"PackLanes$Links", "link", "(IIII)V"⟩
def rm_Links_link : Room := { frames := 2, cells := 0, slots := 0, locals := 46 }
def y_Links_find : MethodName := ⟨"PackLanes$Links", "find", "(III)V"⟩
def rm_Links_find : Room := { frames := 3, cells := 0, slots := 0, locals := 71 }
def y_Pack_keepNothing : MethodName := ⟨"PackLanes$Packer", "keepNothing", "([II)V"⟩
def rm_Pack_keepNothing : Room := { frames := 4, cells := 0, slots := 0, locals := 96 }
def y_Pack_leastStore : MethodName := ⟨"PackLanes$Packer", "leastStore", "(II)I"⟩
def rm_Pack_leastStore : Room := { frames := 1, cells := 0, slots := 0, locals := 21 }
def y_PL_withLane : MethodName := ⟨"PackLanes", "withLane", "(III)I"⟩
def rm_PL_withLane : Room := { frames := 0, cells := 0, slots := 0, locals := 0 }
def y_PL_inLane : MethodName := ⟨"PackLanes", "inLane", "(II)I"⟩
def rm_PL_inLane : Room := { frames := 0, cells := 0, slots := 0, locals := 0 }
def y_PL_setOf : MethodName := ⟨"PackLanes", "setOf", "(II)I"⟩
def rm_PL_setOf : Room := { frames := 0, cells := 0, slots := 0, locals := 0 }
def y_Int_bitCount : MethodName := ⟨"java/lang/Integer", "bitCount", "(I)I"⟩
def rm_Int_bitCount : Room := { frames := 0, cells := 0, slots := 0, locals := 0 }
def y_Links_isPack : MethodName := ⟨"PackLanes$Links", "isPack", "(II)Z"⟩
def rm_Links_isPack : Room := { frames := 1, cells := 0, slots := 0, locals := 23 }
def y_Pack_rootAt : MethodName := ⟨"PackLanes$Packer", "rootAt", "(II)I"⟩
def rm_Pack_rootAt : Room := { frames := 2, cells := 0, slots := 0, locals := 50 }
def y_Pack_joinTree : MethodName := ⟨"PackLanes$Packer", "joinTree", "(Z)V"⟩
def rm_Pack_joinTree : Room := { frames := 1, cells := 0, slots := 0, locals := 23 }
def y_Pack_followedBy : MethodName := ⟨"PackLanes$Packer", "followedBy", "(I)I"⟩
def rm_Pack_followedBy : Room := { frames := 1, cells := 0, slots := 0, locals := 21 }
def y_Pack_leastReady : MethodName := ⟨"PackLanes$Packer", "leastReady", "(I)I"⟩
def rm_Pack_leastReady : Room := { frames := 2, cells := 0, slots := 0, locals := 44 }
def y_Pack_appendNode : MethodName := ⟨"PackLanes$Packer", "appendNode", "(II)V"⟩
def rm_Pack_appendNode : Room := { frames := 1, cells := 0, slots := 0, locals := 21 }
def y_Pack_putInOrder : MethodName := ⟨"PackLanes$Packer", "putInOrder", "()Z"⟩
def rm_Pack_putInOrder : Room := { frames := 3, cells := 0, slots := 0, locals := 66 }
def y_Tree_isTakenOut : MethodName := ⟨"PackLanes$Tree", "isTakenOut", "(I)Z"⟩
def rm_Tree_isTakenOut : Room := { frames := 1, cells := 0, slots := 0, locals := 21 }
def y_Tree_gain : MethodName := ⟨"PackLanes$Tree", "gain", "()I"⟩
def rm_Tree_gain : Room := { frames := 2, cells := 0, slots := 0, locals := 42 }
def y_Tree_addPack : MethodName := ⟨"PackLanes$Tree", "addPack", "(I)V"⟩
def rm_Tree_addPack : Room := { frames := 1, cells := 0, slots := 0, locals := 23 }
def y_Tree_append : MethodName := ⟨"PackLanes$Tree", "append", "(I)V"⟩
def rm_Tree_append : Room := { frames := 0, cells := 0, slots := 0, locals := 0 }
def y_Tree_operands : MethodName := ⟨"PackLanes$Tree", "operands", "(II)I"⟩
def rm_Tree_operands : Room := { frames := 1, cells := 0, slots := 0, locals := 22 }
def y_Tree_turnedLanes : MethodName := ⟨"PackLanes$Tree", "turnedLanes", "(I)I"⟩
def rm_Tree_turnedLanes : Room := { frames := 1, cells := 0, slots := 0, locals := 21 }
def y_Tree_hasPack : MethodName := ⟨"PackLanes$Tree", "hasPack", "(I)Z"⟩
def rm_Tree_hasPack : Room := { frames := 0, cells := 0, slots := 0, locals := 0 }
def y_Tree_takeOneByOne : MethodName := ⟨"PackLanes$Tree", "takeOneByOne", "(I)V"⟩
def rm_Tree_takeOneByOne : Room := { frames := 1, cells := 0, slots := 0, locals := 23 }
def y_Tree_handle : MethodName := ⟨"PackLanes$Tree", "handle", "(I)V"⟩
def rm_Tree_handle : Room := { frames := 2, cells := 0, slots := 0, locals := 50 }
def y_Tree_grow : MethodName := ⟨"PackLanes$Tree", "grow", "(III)V"⟩
def rm_Tree_grow : Room := { frames := 3, cells := 0, slots := 0, locals := 72 }
def y_Pack_considerRoot : MethodName := ⟨"PackLanes$Packer", "considerRoot", "(I)V"⟩
def rm_Pack_considerRoot : Room := { frames := 4, cells := 0, slots := 0, locals := 96 }
def y_Pack_choosePacks : MethodName := ⟨"PackLanes$Packer", "choosePacks", "([II)V"⟩
def rm_Pack_choosePacks : Room := { frames := 5, cells := 0, slots := 0, locals := 121 }
def y_PL_init : MethodName := ⟨"PackLanes", "<init>", "()V"⟩
def rm_PL_init : Room := { frames := 6, cells := 62, slots := 908, locals := 146 }
def y_Src_append : MethodName := ⟨"PackLanes$Source", "append", "(I)I"⟩
def rm_Src_append : Room := { frames := 0, cells := 0, slots := 0, locals := 0 }
def y_PL_write : MethodName := ⟨"PackLanes", "write", "(I)I"⟩
def rm_PL_write : Room := { frames := 1, cells := 0, slots := 0, locals := 21 }
def y_Src_clear : MethodName := ⟨"PackLanes$Source", "clear", "()I"⟩
def rm_Src_clear : Room := { frames := 0, cells := 0, slots := 0, locals := 0 }
def y_PL_wipe : MethodName := ⟨"PackLanes", "wipe", "()I"⟩
def rm_PL_wipe : Room := { frames := 1, cells := 0, slots := 0, locals := 21 }
def y_Src_headerAllows : MethodName := ⟨"PackLanes$Source", "headerAllows", "(II)Z"⟩
def rm_Src_headerAllows : Room := { frames := 0, cells := 0, slots := 0, locals := 0 }
def y_Src_kindOf : MethodName := ⟨"PackLanes$Source", "kindOf", "(I)I"⟩
def rm_Src_kindOf : Room := { frames := 0, cells := 0, slots := 0, locals := 0 }
def y_Src_partsOf : MethodName := ⟨"PackLanes$Source", "partsOf", "(I)I"⟩
def rm_Src_partsOf : Room := { frames := 0, cells := 0, slots := 0, locals := 0 }
def y_Src_digitBelow : MethodName := ⟨"PackLanes$Source", "digitBelow", "(II)I"⟩
def rm_Src_digitBelow : Room := { frames := 0, cells := 0, slots := 0, locals := 0 }
def y_Code_has : MethodName := ⟨"PackLanes$Code", "has", "(I)Z"⟩
def rm_Code_has : Room := { frames := 0, cells := 0, slots := 0, locals := 0 }
def y_Code_operandNamed : MethodName := ⟨"PackLanes$Code", "operandNamed", "(I)I"⟩
def rm_Code_operandNamed : Room := { frames := 1, cells := 0, slots := 0, locals := 21 }
def y_Src_partOf : MethodName := ⟨"PackLanes$Source", "partOf", "(IIILPackLanes$Code;)I"⟩
def rm_Src_partOf : Room := { frames := 2, cells := 0, slots := 0, locals := 43 }
def y_Code_stores : MethodName := ⟨"PackLanes$Code", "stores", "()I"⟩
def rm_Code_stores : Room := { frames := 0, cells := 0, slots := 0, locals := 0 }
def y_Code_canBegin : MethodName := ⟨"PackLanes$Code", "canBegin", "(I)Z"⟩
def rm_Code_canBegin : Room := { frames := 1, cells := 0, slots := 0, locals := 22 }
def y_Code_clear : MethodName := ⟨"PackLanes$Code", "clear", "()V"⟩
def rm_Code_clear : Room := { frames := 0, cells := 0, slots := 0, locals := 0 }
def y_Code_add : MethodName := ⟨"PackLanes$Code", "add", "(IIII)V"⟩
def rm_Code_add : Room := { frames := 0, cells := 0, slots := 0, locals := 0 }
def y_Src_parse : MethodName := ⟨"PackLanes$Source", "parse", "(LPackLanes$Code;)I"⟩
def rm_Src_parse : Room := { frames := 3, cells := 0, slots := 0, locals := 66 }
def y_PL_fault : MethodName := ⟨"PackLanes", "fault", "()I"⟩
def rm_PL_fault : Room := { frames := 4, cells := 0, slots := 0, locals := 93 }
def y_Src_headerDigit : MethodName := ⟨"PackLanes$Source", "headerDigit", "(I)I"⟩
def rm_Src_headerDigit : Room := { frames := 0, cells := 0, slots := 0, locals := 0 }
def y_PL_block : MethodName := ⟨"PackLanes", "block", "()I"⟩
def rm_PL_block : Room := { frames := 6, cells := 0, slots := 0, locals := 146 }
def y_PL_bestWidth : MethodName := ⟨"PackLanes", "bestWidth", "()I"⟩
def rm_PL_bestWidth : Room := { frames := 6, cells := 0, slots := 0, locals := 146 }
def y_Code_cost : MethodName := ⟨"PackLanes$Code", "cost", "()I"⟩
def rm_Code_cost : Room := { frames := 0, cells := 0, slots := 0, locals := 0 }
def y_Mach_begin : MethodName := ⟨"PackLanes$Machine", "begin", "([I)V"⟩
def rm_Mach_begin : Room := { frames := 1, cells := 0, slots := 0, locals := 26 }
def y_Mach_carryOut : MethodName := ⟨"PackLanes$Machine", "carryOut", "(I)V"⟩
def rm_Mach_carryOut : Room := { frames := 1, cells := 0, slots := 0, locals := 22 }
def y_Mach_runInOrder : MethodName := ⟨"PackLanes$Machine", "runInOrder", "([II)V"⟩
def rm_Mach_runInOrder : Room := { frames := 2, cells := 0, slots := 0, locals := 48 }
def y_Mach_runPacked : MethodName := ⟨"PackLanes$Machine", "runPacked", "([ILPackLanes$Packer;)V"⟩
def rm_Mach_runPacked : Room := { frames := 2, cells := 0, slots := 0, locals := 48 }
def y_PL_about : MethodName := ⟨"PackLanes", "about", "(I)I"⟩
def rm_PL_about : Room := { frames := 7, cells := 0, slots := 0, locals := 167 }
def y_PL_instruction : MethodName := ⟨"PackLanes", "instruction", "(II)I"⟩
def rm_PL_instruction : Room := { frames := 3, cells := 0, slots := 0, locals := 71 }
def y_PL_address : MethodName := ⟨"PackLanes", "address", "(II)I"⟩
def rm_PL_address : Room := { frames := 3, cells := 0, slots := 0, locals := 71 }
def y_PL_depends : MethodName := ⟨"PackLanes", "depends", "(II)I"⟩
def rm_PL_depends : Room := { frames := 1, cells := 0, slots := 0, locals := 21 }
def y_Acts_remember : MethodName := ⟨"PackLanes$Acts", "remember", "(II)V"⟩
def rm_Acts_remember : Room := { frames := 1, cells := 0, slots := 0, locals := 26 }
def y_PL_start : MethodName := ⟨"PackLanes", "start", "(II)I"⟩
def rm_PL_start : Room := { frames := 2, cells := 0, slots := 0, locals := 48 }
def y_PL_settingAllows : MethodName := ⟨"PackLanes", "settingAllows", "(II)Z"⟩
def rm_PL_settingAllows : Room := { frames := 0, cells := 0, slots := 0, locals := 0 }
def y_PL_set : MethodName := ⟨"PackLanes", "set", "(II)I"⟩
def rm_PL_set : Room := { frames := 6, cells := 0, slots := 0, locals := 146 }
def y_Acts_takeBack : MethodName := ⟨"PackLanes$Acts", "takeBack", "([I)V"⟩
def rm_Acts_takeBack : Room := { frames := 0, cells := 0, slots := 0, locals := 0 }
def y_PL_undo : MethodName := ⟨"PackLanes", "undo", "()I"⟩
def rm_PL_undo : Room := { frames := 6, cells := 0, slots := 0, locals := 146 }
def y_Pack_gainOfTree : MethodName := ⟨"PackLanes$Packer", "gainOfTree", "(I)I"⟩
def rm_Pack_gainOfTree : Room := { frames := 4, cells := 0, slots := 0, locals := 96 }
def y_PL_tried : MethodName := ⟨"PackLanes", "tried", "(II)I"⟩
def rm_PL_tried : Room := { frames := 5, cells := 0, slots := 0, locals := 119 }
def y_PL_isRight : MethodName := ⟨"PackLanes", "isRight", "(I)Z"⟩
def rm_PL_isRight : Room := { frames := 6, cells := 0, slots := 0, locals := 146 }
def y_PL_judge : MethodName := ⟨"PackLanes", "judge", "(IJ)I"⟩
def rm_PL_judge : Room := { frames := 7, cells := 0, slots := 0, locals := 171 }
def y_Sights_add : MethodName := ⟨"PackLanes$Sights", "add", "(II)I"⟩
def rm_Sights_add : Room := { frames := 0, cells := 0, slots := 0, locals := 0 }
def y_PL_see : MethodName := ⟨"PackLanes", "see", "(II)I"⟩
def rm_PL_see : Room := { frames := 1, cells := 0, slots := 0, locals := 22 }
def y_Sights_clear : MethodName := ⟨"PackLanes$Sights", "clear", "()I"⟩
def rm_Sights_clear : Room := { frames := 0, cells := 0, slots := 0, locals := 0 }
def y_PL_unsee : MethodName := ⟨"PackLanes", "unsee", "()I"⟩
def rm_PL_unsee : Room := { frames := 1, cells := 0, slots := 0, locals := 21 }
def y_Sights_agreeWith : MethodName := ⟨"PackLanes$Sights", "agreeWith", "([I)Z"⟩
def rm_Sights_agreeWith : Room := { frames := 0, cells := 0, slots := 0, locals := 0 }
def y_PL_which : MethodName := ⟨"PackLanes", "which", "()I"⟩
def rm_PL_which : Room := { frames := 3, cells := 0, slots := 0, locals := 71 }
def y_PL_storesOutside : MethodName := ⟨"PackLanes", "storesOutside", "(I)I"⟩
def rm_PL_storesOutside : Room := { frames := 1, cells := 0, slots := 0, locals := 21 }
def y_PL_sumGainsOfAllChoices : MethodName := ⟨"PackLanes", "sumGainsOfAllChoices", "(I)V"⟩
def rm_PL_sumGainsOfAllChoices : Room := { frames := 6, cells := 0, slots := 0, locals := 146 }
def y_PL_ordersThrough : MethodName := ⟨"PackLanes", "ordersThrough", "(II)I"⟩
def rm_PL_ordersThrough : Room := { frames := 1, cells := 0, slots := 0, locals := 20 }
def y_PL_commonDivisor : MethodName := ⟨"PackLanes", "commonDivisor", "(II)I"⟩
def rm_PL_commonDivisor : Room := { frames := 0, cells := 0, slots := 0, locals := 0 }
def y_PL_partOfFraction : MethodName := ⟨"PackLanes", "partOfFraction", "(IIZ)I"⟩
def rm_PL_partOfFraction : Room := { frames := 1, cells := 0, slots := 0, locals := 25 }
def y_PL_share : MethodName := ⟨"PackLanes", "share", "(IZ)I"⟩
def rm_PL_share : Room := { frames := 7, cells := 0, slots := 0, locals := 168 }
def y_PL_power : MethodName := ⟨"PackLanes", "power", "(JI)J"⟩
def rm_PL_power : Room := { frames := 0, cells := 0, slots := 0, locals := 0 }
def y_PL_chance : MethodName := ⟨"PackLanes", "chance", "(IIZ)I"⟩
def rm_PL_chance : Room := { frames := 7, cells := 0, slots := 0, locals := 168 }
def y_PL_seed : MethodName := ⟨"PackLanes", "seed", "(J)J"⟩
def rm_PL_seed : Room := { frames := 0, cells := 0, slots := 0, locals := 0 }
def y_PL_drawStartValues : MethodName := ⟨"PackLanes", "drawStartValues", "()V"⟩
def rm_PL_drawStartValues : Room := { frames := 0, cells := 0, slots := 0, locals := 0 }
def y_PL_drawn : MethodName := ⟨"PackLanes", "drawn", "(I)I"⟩
def rm_PL_drawn : Room := { frames := 3, cells := 0, slots := 0, locals := 71 }
def y_Slots_fill : MethodName := ⟨"PackLanes$Slots", "fill", "(I[I)V"⟩
def rm_Slots_fill : Room := { frames := 1, cells := 0, slots := 0, locals := 26 }
def y_PL_keep : MethodName := ⟨"PackLanes", "keep", "(I)I"⟩
def rm_PL_keep : Room := { frames := 2, cells := 0, slots := 0, locals := 48 }
def y_Slots_restore : MethodName := ⟨"PackLanes$Slots", "restore", "(I[I)V"⟩
def rm_Slots_restore : Room := { frames := 1, cells := 0, slots := 0, locals := 26 }
def y_PL_again : MethodName := ⟨"PackLanes", "again", "(I)I"⟩
def rm_PL_again : Room := { frames := 6, cells := 0, slots := 0, locals := 146 }
def y_R_first : MethodName := ⟨"PackLanesModel", "first", "([I)V"⟩
def rm_R_first : Room := { frames := 0, cells := 0, slots := 0, locals := 0 }
def y_R_init : MethodName := ⟨"PackLanesModel", "<init>", "()V"⟩
def rm_R_init : Room := { frames := 1, cells := 28, slots := 858, locals := 21 }
def y_R_copy : MethodName := ⟨"PackLanesModel", "copy", "([I[I)V"⟩
def rm_R_copy : Room := { frames := 0, cells := 0, slots := 0, locals := 0 }
def y_R_in : MethodName := ⟨"PackLanesModel", "in", "(JJJ)Z"⟩
def rm_R_in : Room := { frames := 0, cells := 0, slots := 0, locals := 0 }
def y_R_has : MethodName := ⟨"PackLanesModel", "has", "(II)Z"⟩
def rm_R_has : Room := { frames := 0, cells := 0, slots := 0, locals := 0 }
def y_R_ones : MethodName := ⟨"PackLanesModel", "ones", "(I)I"⟩
def rm_R_ones : Room := { frames := 0, cells := 0, slots := 0, locals := 0 }
def y_R_power : MethodName := ⟨"PackLanesModel", "power", "(II)I"⟩
def rm_R_power : Room := { frames := 0, cells := 0, slots := 0, locals := 0 }
def y_R_factorial : MethodName := ⟨"PackLanesModel", "factorial", "(I)I"⟩
def rm_R_factorial : Room := { frames := 0, cells := 0, slots := 0, locals := 0 }
def y_R_fraction : MethodName := ⟨"PackLanesModel", "fraction", "(IIZ)I"⟩
def rm_R_fraction : Room := { frames := 0, cells := 0, slots := 0, locals := 0 }
def y_R_isThere : MethodName := ⟨"PackLanesModel", "isThere", "(I)Z"⟩
def rm_R_isThere : Room := { frames := 1, cells := 0, slots := 0, locals := 25 }
def y_R_isAddress : MethodName := ⟨"PackLanesModel", "isAddress", "(I)Z"⟩
def rm_R_isAddress : Room := { frames := 1, cells := 0, slots := 0, locals := 25 }
def y_R_write : MethodName := ⟨"PackLanesModel", "write", "(I)I"⟩
def rm_R_write : Room := { frames := 1, cells := 0, slots := 0, locals := 25 }
def y_R_wipe : MethodName := ⟨"PackLanesModel", "wipe", "()I"⟩
def rm_R_wipe : Room := { frames := 0, cells := 0, slots := 0, locals := 0 }
def y_R_isValueAsRead : MethodName := ⟨"PackLanesModel", "isValueAsRead", "(I)Z"⟩
def rm_R_isValueAsRead : Room := { frames := 1, cells := 0, slots := 0, locals := 25 }
def y_R_isAnyValueAsRead : MethodName := ⟨"PackLanesModel", "isAnyValueAsRead", "()Z"⟩
def rm_R_isAnyValueAsRead : Room := { frames := 0, cells := 0, slots := 0, locals := 0 }
def y_R_takeHead : MethodName := ⟨"PackLanesModel", "takeHead", "(I)Z"⟩
def rm_R_takeHead : Room := { frames := 1, cells := 0, slots := 0, locals := 25 }
def y_R_kindOf : MethodName := ⟨"PackLanesModel", "kindOf", "(I)I"⟩
def rm_R_kindOf : Room := { frames := 0, cells := 0, slots := 0, locals := 0 }
def y_R_takeSign : MethodName := ⟨"PackLanesModel", "takeSign", "(I)Z"⟩
def rm_R_takeSign : Room := { frames := 1, cells := 0, slots := 0, locals := 22 }
def y_R_done : MethodName := ⟨"PackLanesModel", "done", "(Z)Z"⟩
def rm_R_done : Room := { frames := 0, cells := 0, slots := 0, locals := 0 }
def y_R_takeOf : MethodName := ⟨"PackLanesModel", "takeOf", "(I)Z"⟩
def rm_R_takeOf : Room := { frames := 2, cells := 0, slots := 0, locals := 46 }
def y_R_readText : MethodName := ⟨"PackLanesModel", "readText", "()I"⟩
def rm_R_readText : Room := { frames := 3, cells := 0, slots := 0, locals := 70 }
def y_R_fault : MethodName := ⟨"PackLanesModel", "fault", "()I"⟩
def rm_R_fault : Room := { frames := 4, cells := 0, slots := 0, locals := 92 }
def y_R_block : MethodName := ⟨"PackLanesModel", "block", "()I"⟩
def rm_R_block : Room := { frames := 4, cells := 0, slots := 0, locals := 92 }
def y_R_isMemory : MethodName := ⟨"PackLanesModel", "isMemory", "(I)Z"⟩
def rm_R_isMemory : Room := { frames := 0, cells := 0, slots := 0, locals := 0 }
def y_R_isBinary : MethodName := ⟨"PackLanesModel", "isBinary", "(I)Z"⟩
def rm_R_isBinary : Room := { frames := 1, cells := 0, slots := 0, locals := 25 }
def y_R_addressOf : MethodName := ⟨"PackLanesModel", "addressOf", "([III)I"⟩
def rm_R_addressOf : Room := { frames := 0, cells := 0, slots := 0, locals := 0 }
def y_R_uses : MethodName := ⟨"PackLanesModel", "uses", "(II)Z"⟩
def rm_R_uses : Room := { frames := 2, cells := 0, slots := 0, locals := 46 }
def y_R_meet : MethodName := ⟨"PackLanesModel", "meet", "([III)Z"⟩
def rm_R_meet : Room := { frames := 1, cells := 0, slots := 0, locals := 22 }
def y_R_doesFollow : MethodName := ⟨"PackLanesModel", "doesFollow", "([III)Z"⟩
def rm_R_doesFollow : Room := { frames := 3, cells := 0, slots := 0, locals := 68 }
def y_R_layFollows : MethodName := ⟨"PackLanesModel", "layFollows", "([I)V"⟩
def rm_R_layFollows : Room := { frames := 4, cells := 0, slots := 0, locals := 94 }
def y_R_isPack : MethodName := ⟨"PackLanesModel", "isPack", "(I)Z"⟩
def rm_R_isPack : Room := { frames := 1, cells := 0, slots := 0, locals := 21 }
def y_R_isFree : MethodName := ⟨"PackLanesModel", "isFree", "(I)Z"⟩
def rm_R_isFree : Room := { frames := 0, cells := 0, slots := 0, locals := 0 }
def y_R_addPack : MethodName := ⟨"PackLanesModel", "addPack", "(I)V"⟩
def rm_R_addPack : Room := { frames := 0, cells := 0, slots := 0, locals := 0 }
def y_R_waitBoth : MethodName := ⟨"PackLanesModel", "waitBoth", "(I)V"⟩
def rm_R_waitBoth : Room := { frames := 0, cells := 0, slots := 0, locals := 0 }
def y_R_isTreePack : MethodName := ⟨"PackLanesModel", "isTreePack", "(I)Z"⟩
def rm_R_isTreePack : Room := { frames := 0, cells := 0, slots := 0, locals := 0 }
def y_R_costOf : MethodName := ⟨"PackLanesModel", "costOf", "(I)I"⟩
def rm_R_costOf : Room := { frames := 0, cells := 0, slots := 0, locals := 0 }
def y_R_look : MethodName := ⟨"PackLanesModel", "look", "(I)V"⟩
def rm_R_look : Room := { frames := 2, cells := 0, slots := 0, locals := 48 }
def y_R_grow : MethodName := ⟨"PackLanesModel", "grow", "()V"⟩
def rm_R_grow : Room := { frames := 3, cells := 0, slots := 0, locals := 70 }
def y_R_isUsedOutside : MethodName := ⟨"PackLanesModel", "isUsedOutside", "(I)Z"⟩
def rm_R_isUsedOutside : Room := { frames := 3, cells := 0, slots := 0, locals := 68 }
def y_R_gainOfTree : MethodName := ⟨"PackLanesModel", "gainOfTree", "()I"⟩
def rm_R_gainOfTree : Room := { frames := 4, cells := 0, slots := 0, locals := 91 }
def y_R_laySeed : MethodName := ⟨"PackLanesModel", "laySeed", "(II)Z"⟩
def rm_R_laySeed : Room := { frames := 2, cells := 0, slots := 0, locals := 48 }
def y_R_nodeOf : MethodName := ⟨"PackLanesModel", "nodeOf", "(I)I"⟩
def rm_R_nodeOf : Room := { frames := 0, cells := 0, slots := 0, locals := 0 }
def y_R_isReady : MethodName := ⟨"PackLanesModel", "isReady", "(II)Z"⟩
def rm_R_isReady : Room := { frames := 1, cells := 0, slots := 0, locals := 21 }
def y_R_setInOrder : MethodName := ⟨"PackLanesModel", "setInOrder", "()Z"⟩
def rm_R_setInOrder : Room := { frames := 2, cells := 0, slots := 0, locals := 45 }
def y_R_noTree : MethodName := ⟨"PackLanesModel", "noTree", "()V"⟩
def rm_R_noTree : Room := { frames := 0, cells := 0, slots := 0, locals := 0 }
def y_R_keepTree : MethodName := ⟨"PackLanesModel", "keepTree", "(I)V"⟩
def rm_R_keepTree : Room := { frames := 0, cells := 0, slots := 0, locals := 0 }
def y_R_nothingKept : MethodName := ⟨"PackLanesModel", "nothingKept", "([II)V"⟩
def rm_R_nothingKept : Room := { frames := 5, cells := 0, slots := 0, locals := 117 }
def y_R_pack : MethodName := ⟨"PackLanesModel", "pack", "([II)V"⟩
def rm_R_pack : Room := { frames := 6, cells := 0, slots := 0, locals := 140 }
def y_R_costNow : MethodName := ⟨"PackLanesModel", "costNow", "()I"⟩
def rm_R_costNow : Room := { frames := 0, cells := 0, slots := 0, locals := 0 }
def y_R_packedCost : MethodName := ⟨"PackLanesModel", "packedCost", "([I)I"⟩
def rm_R_packedCost : Room := { frames := 7, cells := 0, slots := 0, locals := 164 }
def y_R_beginRun : MethodName := ⟨"PackLanesModel", "beginRun", "([I)V"⟩
def rm_R_beginRun : Room := { frames := 0, cells := 0, slots := 0, locals := 0 }
def y_R_doOne : MethodName := ⟨"PackLanesModel", "doOne", "([II)V"⟩
def rm_R_doOne : Room := { frames := 2, cells := 0, slots := 0, locals := 46 }
def y_R_run : MethodName := ⟨"PackLanesModel", "run", "([II)V"⟩
def rm_R_run : Room := { frames := 3, cells := 0, slots := 0, locals := 70 }
def y_R_packedRun : MethodName := ⟨"PackLanesModel", "packedRun", "([I)V"⟩
def rm_R_packedRun : Room := { frames := 7, cells := 0, slots := 0, locals := 164 }
def y_R_bestWidth : MethodName := ⟨"PackLanesModel", "bestWidth", "()I"⟩
def rm_R_bestWidth : Room := { frames := 8, cells := 0, slots := 0, locals := 185 }
def y_R_packed : MethodName := ⟨"PackLanesModel", "packed", "()I"⟩
def rm_R_packed : Room := { frames := 0, cells := 0, slots := 0, locals := 0 }
def y_R_found : MethodName := ⟨"PackLanesModel", "found", "(I)I"⟩
def rm_R_found : Room := { frames := 7, cells := 0, slots := 0, locals := 164 }
def y_R_runFaults : MethodName := ⟨"PackLanesModel", "runFaults", "(Z)I"⟩
def rm_R_runFaults : Room := { frames := 8, cells := 0, slots := 0, locals := 187 }
def y_R_about : MethodName := ⟨"PackLanesModel", "about", "(I)I"⟩
def rm_R_about : Room := { frames := 9, cells := 0, slots := 0, locals := 208 }
def y_R_instruction : MethodName := ⟨"PackLanesModel", "instruction", "(II)I"⟩
def rm_R_instruction : Room := { frames := 7, cells := 0, slots := 0, locals := 164 }
def y_R_address : MethodName := ⟨"PackLanesModel", "address", "(II)I"⟩
def rm_R_address : Room := { frames := 8, cells := 0, slots := 0, locals := 187 }
def y_R_depends : MethodName := ⟨"PackLanesModel", "depends", "(II)I"⟩
def rm_R_depends : Room := { frames := 6, cells := 0, slots := 0, locals := 140 }
def y_R_note : MethodName := ⟨"PackLanesModel", "note", "()V"⟩
def rm_R_note : Room := { frames := 0, cells := 0, slots := 0, locals := 0 }
def y_R_start : MethodName := ⟨"PackLanesModel", "start", "(II)I"⟩
def rm_R_start : Room := { frames := 2, cells := 0, slots := 0, locals := 45 }
def y_R_maySet : MethodName := ⟨"PackLanesModel", "maySet", "(II)Z"⟩
def rm_R_maySet : Room := { frames := 1, cells := 0, slots := 0, locals := 25 }
def y_R_set : MethodName := ⟨"PackLanesModel", "set", "(II)I"⟩
def rm_R_set : Room := { frames := 2, cells := 0, slots := 0, locals := 46 }
def y_R_undo : MethodName := ⟨"PackLanesModel", "undo", "()I"⟩
def rm_R_undo : Room := { frames := 0, cells := 0, slots := 0, locals := 0 }
def y_R_tried : MethodName := ⟨"PackLanesModel", "tried", "(II)I"⟩
def rm_R_tried : Room := { frames := 6, cells := 0, slots := 0, locals := 140 }
def y_R_isDependent : MethodName := ⟨"PackLanesModel", "isDependent", "(II)Z"⟩
def rm_R_isDependent : Room := { frames := 6, cells := 0, slots := 0, locals := 140 }
def y_R_isPackedAs : MethodName := ⟨"PackLanesModel", "isPackedAs", "(II)Z"⟩
def rm_R_isPackedAs : Room := { frames := 7, cells := 0, slots := 0, locals := 164 }
def y_R_judged : MethodName := ⟨"PackLanesModel", "judged", "(II)Z"⟩
def rm_R_judged : Room := { frames := 8, cells := 0, slots := 0, locals := 186 }
def y_R_hundredThousands : MethodName := ⟨"PackLanesModel", "hundredThousands", "(I)J"⟩
def rm_R_hundredThousands : Room := { frames := 0, cells := 0, slots := 0, locals := 0 }
def y_R_judge : MethodName := ⟨"PackLanesModel", "judge", "(IJ)I"⟩
def rm_R_judge : Room := { frames := 9, cells := 0, slots := 0, locals := 208 }
def y_R_see : MethodName := ⟨"PackLanesModel", "see", "(II)I"⟩
def rm_R_see : Room := { frames := 2, cells := 0, slots := 0, locals := 45 }
def y_R_unsee : MethodName := ⟨"PackLanesModel", "unsee", "()I"⟩
def rm_R_unsee : Room := { frames := 0, cells := 0, slots := 0, locals := 0 }
def y_R_which : MethodName := ⟨"PackLanesModel", "which", "()I"⟩
def rm_R_which : Room := { frames := 4, cells := 0, slots := 0, locals := 93 }
def y_R_layStores : MethodName := ⟨"PackLanesModel", "layStores", "()I"⟩
def rm_R_layStores : Room := { frames := 0, cells := 0, slots := 0, locals := 0 }
def y_R_gainsBy : MethodName := ⟨"PackLanesModel", "gainsBy", "(II)I"⟩
def rm_R_gainsBy : Room := { frames := 7, cells := 0, slots := 0, locals := 164 }
def y_R_share : MethodName := ⟨"PackLanesModel", "share", "(IZ)I"⟩
def rm_R_share : Room := { frames := 8, cells := 0, slots := 0, locals := 188 }
def y_R_chance : MethodName := ⟨"PackLanesModel", "chance", "(IIZ)I"⟩
def rm_R_chance : Room := { frames := 8, cells := 0, slots := 0, locals := 188 }
def y_R_seed : MethodName := ⟨"PackLanesModel", "seed", "(J)J"⟩
def rm_R_seed : Room := { frames := 0, cells := 0, slots := 0, locals := 0 }
def y_R_drawn : MethodName := ⟨"PackLanesModel", "drawn", "(I)I"⟩
def rm_R_drawn : Room := { frames := 4, cells := 0, slots := 0, locals := 93 }
def y_R_keep : MethodName := ⟨"PackLanesModel", "keep", "(I)I"⟩
def rm_R_keep : Room := { frames := 1, cells := 0, slots := 0, locals := 25 }
def y_R_again : MethodName := ⟨"PackLanesModel", "again", "(I)I"⟩
def rm_R_again : Room := { frames := 1, cells := 0, slots := 0, locals := 25 }
theorem k_Pack_52 : CallI "PackLanes$Packer" 52 y_Links_init prog_4_method_1_code 2 1 := ⟨Or.inl (big_t 147 (by decide +kernel) (by decide +kernel)), (big_t 148 (by decide +kernel) (by decide +kernel)), (big_t 8 (by decide +kernel) (by decide +kernel)), (big_t 149 (by decide +kernel) (by decide +kernel)), rfl, ⟨by decide, by decide, by decide +kernel⟩⟩
theorem k_Pack_61 : CallI "PackLanes$Packer" 61 y_Tree_init prog_10_method_1_code 3 2 := ⟨Or.inl (big_t 173 (by decide +kernel) (by decide +kernel)), (big_t 174 (by decide +kernel) (by decide +kernel)), (big_t 9 (by decide +kernel) (by decide +kernel)), (big_t 175 (by decide +kernel) (by decide +kernel)), rfl, ⟨by decide, by decide, by decide +kernel⟩⟩
theorem k_PL_18 : CallI "PackLanes" 18 y_Code_init prog_3_method_1_code 1 0 := ⟨Or.inr ⟨"PackLanes", (big_n 43 (by decide +kernel) (by decide +kernel))⟩, (big_t 44 (by decide +kernel) (by decide +kernel)), (big_t 3 (by decide +kernel) (by decide +kernel)), (big_t 45 (by decide +kernel) (by decide +kernel)), rfl, ⟨by decide, by decide, by decide +kernel⟩⟩
theorem k_PL_41 : CallI "PackLanes" 41 y_Acts_init prog_2_method_1_code 1 0 := ⟨Or.inr ⟨"PackLanes", (big_n 90 (by decide +kernel) (by decide +kernel))⟩, (big_t 91 (by decide +kernel) (by decide +kernel)), (big_t 4 (by decide +kernel) (by decide +kernel)), (big_t 92 (by decide +kernel) (by decide +kernel)), rfl, ⟨by decide, by decide, by decide +kernel⟩⟩
theorem k_PL_48 : CallI "PackLanes" 48 y_Slots_init prog_8_method_1_code 1 0 := ⟨Or.inr ⟨"PackLanes", (big_n 107 (by decide +kernel) (by decide +kernel))⟩, (big_t 108 (by decide +kernel) (by decide +kernel)), (big_t 5 (by decide +kernel) (by decide +kernel)), (big_t 109 (by decide +kernel) (by decide +kernel)), rfl, ⟨by decide, by decide, by decide +kernel⟩⟩
theorem k_PL_55 : CallI "PackLanes" 55 y_Sights_init prog_7_method_1_code 1 0 := ⟨Or.inr ⟨"PackLanes", (big_n 124 (by decide +kernel) (by decide +kernel))⟩, (big_t 125 (by decide +kernel) (by decide +kernel)), (big_t 6 (by decide +kernel) (by decide +kernel)), (big_t 126 (by decide +kernel) (by decide +kernel)), rfl, ⟨by decide, by decide, by decide +kernel⟩⟩
theorem k_PL_62 : CallI "PackLanes" 62 y_Pack_init prog_6_method_1_code 2 1 := ⟨Or.inl (big_t 141 (by decide +kernel) (by decide +kernel)), (big_t 142 (by decide +kernel) (by decide +kernel)), (big_t 7 (by decide +kernel) (by decide +kernel)), (big_t 143 (by decide +kernel) (by decide +kernel)), rfl, ⟨by decide, by decide, by decide +kernel⟩⟩
theorem k_PL_74 : CallI "PackLanes" 74 y_Mach_init prog_5_method_1_code 2 1 := ⟨Or.inl (big_t 269 (by decide +kernel) (by decide +kernel)), (big_t 270 (by decide +kernel) (by decide +kernel)), (big_t 10 (by decide +kernel) (by decide +kernel)), (big_t 271 (by decide +kernel) (by decide +kernel)), rfl, ⟨by decide, by decide, by decide +kernel⟩⟩
theorem k_PL_9 : CallI "PackLanes" 9 y_Src_init prog_9_method_1_code 1 0 := ⟨Or.inr ⟨"PackLanes", (big_n 25 (by decide +kernel) (by decide +kernel))⟩, (big_t 26 (by decide +kernel) (by decide +kernel)), (big_t 2 (by decide +kernel) (by decide +kernel)), (big_t 27 (by decide +kernel) (by decide +kernel)), rfl, ⟨by decide, by decide, by decide +kernel⟩⟩
theorem k_Code_38 : CallS "PackLanes$Code" 38 y_Int_bitCount prog_13_method_49_code 1 (some .int) 1 := ⟨(big_t 531 (by decide +kernel) (by decide +kernel)), (big_t 366 (by decide +kernel) (by decide +kernel)), (big_t 11 (by decide +kernel) (by decide +kernel)), (big_t 367 (by decide +kernel) (by decide +kernel)), ⟨by decide, by decide, by decide +kernel⟩⟩
theorem k_Links_76 : CallS "PackLanes$Links" 76 y_Int_bitCount prog_13_method_49_code 1 (some .int) 1 := ⟨(big_t 365 (by decide +kernel) (by decide +kernel)), (big_t 366 (by decide +kernel) (by decide +kernel)), (big_t 11 (by decide +kernel) (by decide +kernel)), (big_t 367 (by decide +kernel) (by decide +kernel)), ⟨by decide, by decide, by decide +kernel⟩⟩
theorem k_Src_27 : CallS "PackLanes$Source" 27 y_Src_headerAllows prog_9_method_6_code 2 (some .boolean) 2 := ⟨(big_t 517 (by decide +kernel) (by decide +kernel)), (big_t 518 (by decide +kernel) (by decide +kernel)), (big_t 2 (by decide +kernel) (by decide +kernel)), (big_t 519 (by decide +kernel) (by decide +kernel)), ⟨by decide, by decide, by decide +kernel⟩⟩
theorem k_Src_31 : CallS "PackLanes$Source" 31 y_Src_kindOf prog_9_method_7_code 1 (some .int) 1 := ⟨(big_t 520 (by decide +kernel) (by decide +kernel)), (big_t 521 (by decide +kernel) (by decide +kernel)), (big_t 2 (by decide +kernel) (by decide +kernel)), (big_t 522 (by decide +kernel) (by decide +kernel)), ⟨by decide, by decide, by decide +kernel⟩⟩
theorem k_Src_39 : CallS "PackLanes$Source" 39 y_Src_partsOf prog_9_method_8_code 1 (some .int) 1 := ⟨(big_t 532 (by decide +kernel) (by decide +kernel)), (big_t 533 (by decide +kernel) (by decide +kernel)), (big_t 2 (by decide +kernel) (by decide +kernel)), (big_t 534 (by decide +kernel) (by decide +kernel)), ⟨by decide, by decide, by decide +kernel⟩⟩
theorem k_Src_42 : CallS "PackLanes$Source" 42 y_Src_partOf prog_9_method_9_code 4 (some .int) 4 := ⟨(big_t 535 (by decide +kernel) (by decide +kernel)), (big_t 536 (by decide +kernel) (by decide +kernel)), (big_t 2 (by decide +kernel) (by decide +kernel)), (big_t 537 (by decide +kernel) (by decide +kernel)), ⟨by decide, by decide, by decide +kernel⟩⟩
theorem k_Src_50 : CallS "PackLanes$Source" 50 y_Src_digitBelow prog_9_method_10_code 3 (some .int) 2 := ⟨(big_t 538 (by decide +kernel) (by decide +kernel)), (big_t 539 (by decide +kernel) (by decide +kernel)), (big_t 2 (by decide +kernel) (by decide +kernel)), (big_t 540 (by decide +kernel) (by decide +kernel)), ⟨by decide, by decide, by decide +kernel⟩⟩
theorem k_Tree_102 : CallS "PackLanes$Tree" 102 y_Int_bitCount prog_13_method_49_code 1 (some .int) 1 := ⟨(big_t 412 (by decide +kernel) (by decide +kernel)), (big_t 366 (by decide +kernel) (by decide +kernel)), (big_t 11 (by decide +kernel) (by decide +kernel)), (big_t 367 (by decide +kernel) (by decide +kernel)), ⟨by decide, by decide, by decide +kernel⟩⟩
theorem k_PL_171 : CallS "PackLanes" 171 y_Int_bitCount prog_13_method_49_code 1 (some .int) 1 := ⟨(big_t 599 (by decide +kernel) (by decide +kernel)), (big_t 366 (by decide +kernel) (by decide +kernel)), (big_t 11 (by decide +kernel) (by decide +kernel)), (big_t 367 (by decide +kernel) (by decide +kernel)), ⟨by decide, by decide, by decide +kernel⟩⟩
theorem k_PL_182 : CallS "PackLanes" 182 y_PL_holds prog_1_method_35_code 2 (some .boolean) 2 := ⟨(big_t 608 (by decide +kernel) (by decide +kernel)), (big_t 317 (by decide +kernel) (by decide +kernel)), (big_t 1 (by decide +kernel) (by decide +kernel)), (big_t 318 (by decide +kernel) (by decide +kernel)), ⟨by decide, by decide, by decide +kernel⟩⟩
theorem k_PL_190 : CallS "PackLanes" 190 y_PL_settingAllows prog_1_method_27_code 2 (some .boolean) 2 := ⟨(big_t 622 (by decide +kernel) (by decide +kernel)), (big_t 623 (by decide +kernel) (by decide +kernel)), (big_t 1 (by decide +kernel) (by decide +kernel)), (big_t 624 (by decide +kernel) (by decide +kernel)), ⟨by decide, by decide, by decide +kernel⟩⟩
theorem k_PL_233 : CallS "PackLanes" 233 y_PL_ordersThrough prog_1_method_30_code 4 (some .int) 2 := ⟨(big_t 689 (by decide +kernel) (by decide +kernel)), (big_t 690 (by decide +kernel) (by decide +kernel)), (big_t 1 (by decide +kernel) (by decide +kernel)), (big_t 691 (by decide +kernel) (by decide +kernel)), ⟨by decide, by decide, by decide +kernel⟩⟩
theorem k_PL_239 : CallS "PackLanes" 239 y_PL_partOfFraction prog_1_method_32_code 4 (some .int) 3 := ⟨(big_t 694 (by decide +kernel) (by decide +kernel)), (big_t 695 (by decide +kernel) (by decide +kernel)), (big_t 1 (by decide +kernel) (by decide +kernel)), (big_t 696 (by decide +kernel) (by decide +kernel)), ⟨by decide, by decide, by decide +kernel⟩⟩
theorem k_PL_243 : CallS "PackLanes" 243 y_PL_power prog_1_method_34_code 6 (some .long) 2 := ⟨(big_t 707 (by decide +kernel) (by decide +kernel)), (big_t 708 (by decide +kernel) (by decide +kernel)), (big_t 1 (by decide +kernel) (by decide +kernel)), (big_t 709 (by decide +kernel) (by decide +kernel)), ⟨by decide, by decide, by decide +kernel⟩⟩
theorem k_PL_278 : CallS "PackLanes" 278 y_PL_commonDivisor prog_1_method_33_code 6 (some .int) 2 := ⟨(big_t 700 (by decide +kernel) (by decide +kernel)), (big_t 701 (by decide +kernel) (by decide +kernel)), (big_t 1 (by decide +kernel) (by decide +kernel)), (big_t 702 (by decide +kernel) (by decide +kernel)), ⟨by decide, by decide, by decide +kernel⟩⟩
theorem k_R_103 : CallS "PackLanesModel" 103 y_R_in prog_12_method_5_code 6 (some .boolean) 3 := ⟨(big_t 907 (by decide +kernel) (by decide +kernel)), (big_t 908 (by decide +kernel) (by decide +kernel)), (big_t 12 (by decide +kernel) (by decide +kernel)), (big_t 909 (by decide +kernel) (by decide +kernel)), ⟨by decide, by decide, by decide +kernel⟩⟩
theorem k_R_134 : CallS "PackLanesModel" 134 y_R_kindOf prog_12_method_18_code 1 (some .int) 1 := ⟨(big_t 931 (by decide +kernel) (by decide +kernel)), (big_t 932 (by decide +kernel) (by decide +kernel)), (big_t 12 (by decide +kernel) (by decide +kernel)), (big_t 933 (by decide +kernel) (by decide +kernel)), ⟨by decide, by decide, by decide +kernel⟩⟩
theorem k_R_183 : CallS "PackLanesModel" 183 y_R_addressOf prog_12_method_27_code 3 (some .int) 3 := ⟨(big_t 1002 (by decide +kernel) (by decide +kernel)), (big_t 1003 (by decide +kernel) (by decide +kernel)), (big_t 12 (by decide +kernel) (by decide +kernel)), (big_t 1004 (by decide +kernel) (by decide +kernel)), ⟨by decide, by decide, by decide +kernel⟩⟩
theorem k_R_190 : CallS "PackLanesModel" 190 y_R_has prog_12_method_6_code 2 (some .boolean) 2 := ⟨(big_t 991 (by decide +kernel) (by decide +kernel)), (big_t 992 (by decide +kernel) (by decide +kernel)), (big_t 12 (by decide +kernel) (by decide +kernel)), (big_t 993 (by decide +kernel) (by decide +kernel)), ⟨by decide, by decide, by decide +kernel⟩⟩
theorem k_R_302 : CallS "PackLanesModel" 302 y_R_copy prog_12_method_4_code 3 none 2 := ⟨(big_t 1095 (by decide +kernel) (by decide +kernel)), (big_t 1096 (by decide +kernel) (by decide +kernel)), (big_t 12 (by decide +kernel) (by decide +kernel)), (big_t 1097 (by decide +kernel) (by decide +kernel)), ⟨by decide, by decide, by decide +kernel⟩⟩
theorem k_R_335 : CallS "PackLanesModel" 335 y_R_ones prog_12_method_7_code 3 (some .int) 1 := ⟨(big_t 1118 (by decide +kernel) (by decide +kernel)), (big_t 1119 (by decide +kernel) (by decide +kernel)), (big_t 12 (by decide +kernel) (by decide +kernel)), (big_t 1120 (by decide +kernel) (by decide +kernel)), ⟨by decide, by decide, by decide +kernel⟩⟩
theorem k_R_338 : CallS "PackLanesModel" 338 y_R_isAddress prog_12_method_12_code 1 (some .boolean) 1 := ⟨(big_t 1125 (by decide +kernel) (by decide +kernel)), (big_t 1126 (by decide +kernel) (by decide +kernel)), (big_t 12 (by decide +kernel) (by decide +kernel)), (big_t 1127 (by decide +kernel) (by decide +kernel)), ⟨by decide, by decide, by decide +kernel⟩⟩
theorem k_R_351 : CallS "PackLanesModel" 351 y_R_maySet prog_12_method_66_code 2 (some .boolean) 2 := ⟨(big_t 1147 (by decide +kernel) (by decide +kernel)), (big_t 1148 (by decide +kernel) (by decide +kernel)), (big_t 12 (by decide +kernel) (by decide +kernel)), (big_t 1149 (by decide +kernel) (by decide +kernel)), ⟨by decide, by decide, by decide +kernel⟩⟩
theorem k_R_364 : CallS "PackLanesModel" 364 y_R_hundredThousands prog_12_method_73_code 4 (some .long) 1 := ⟨(big_t 1163 (by decide +kernel) (by decide +kernel)), (big_t 1164 (by decide +kernel) (by decide +kernel)), (big_t 12 (by decide +kernel) (by decide +kernel)), (big_t 1165 (by decide +kernel) (by decide +kernel)), ⟨by decide, by decide, by decide +kernel⟩⟩
theorem k_R_378 : CallS "PackLanesModel" 378 y_R_factorial prog_12_method_9_code 3 (some .int) 1 := ⟨(big_t 1203 (by decide +kernel) (by decide +kernel)), (big_t 1204 (by decide +kernel) (by decide +kernel)), (big_t 12 (by decide +kernel) (by decide +kernel)), (big_t 1205 (by decide +kernel) (by decide +kernel)), ⟨by decide, by decide, by decide +kernel⟩⟩
theorem k_R_381 : CallS "PackLanesModel" 381 y_R_fraction prog_12_method_10_code 6 (some .int) 3 := ⟨(big_t 1206 (by decide +kernel) (by decide +kernel)), (big_t 1207 (by decide +kernel) (by decide +kernel)), (big_t 12 (by decide +kernel) (by decide +kernel)), (big_t 1208 (by decide +kernel) (by decide +kernel)), ⟨by decide, by decide, by decide +kernel⟩⟩
theorem k_R_387 : CallS "PackLanesModel" 387 y_R_power prog_12_method_8_code 4 (some .int) 2 := ⟨(big_t 1214 (by decide +kernel) (by decide +kernel)), (big_t 1215 (by decide +kernel) (by decide +kernel)), (big_t 12 (by decide +kernel) (by decide +kernel)), (big_t 1216 (by decide +kernel) (by decide +kernel)), ⟨by decide, by decide, by decide +kernel⟩⟩
theorem k_R_95 : CallS "PackLanesModel" 95 y_R_first prog_12_method_3_code 2 none 1 := ⟨(big_t 748 (by decide +kernel) (by decide +kernel)), (big_t 749 (by decide +kernel) (by decide +kernel)), (big_t 12 (by decide +kernel) (by decide +kernel)), (big_t 750 (by decide +kernel) (by decide +kernel)), ⟨by decide, by decide, by decide +kernel⟩⟩
theorem k_Links_34 : CallSN "PackLanes$Links" 34 y_PL_holds "PackLanes" prog_1_method_35_code 2 (some .boolean) 2 := ⟨(big_n 316 (by decide +kernel) (by decide +kernel)), (big_t 317 (by decide +kernel) (by decide +kernel)), (big_t 1 (by decide +kernel) (by decide +kernel)), (big_t 318 (by decide +kernel) (by decide +kernel)), ⟨by decide, by decide, by decide +kernel⟩⟩
theorem k_Links_70 : CallSN "PackLanes$Links" 70 y_PL_inLane "PackLanes" prog_1_method_36_code 2 (some .int) 2 := ⟨(big_n 359 (by decide +kernel) (by decide +kernel)), (big_t 360 (by decide +kernel) (by decide +kernel)), (big_t 1 (by decide +kernel) (by decide +kernel)), (big_t 361 (by decide +kernel) (by decide +kernel)), ⟨by decide, by decide, by decide +kernel⟩⟩
theorem k_Links_73 : CallSN "PackLanes$Links" 73 y_PL_setOf "PackLanes" prog_1_method_38_code 4 (some .int) 2 := ⟨(big_n 362 (by decide +kernel) (by decide +kernel)), (big_t 363 (by decide +kernel) (by decide +kernel)), (big_t 1 (by decide +kernel) (by decide +kernel)), (big_t 364 (by decide +kernel) (by decide +kernel)), ⟨by decide, by decide, by decide +kernel⟩⟩
theorem k_Pack_123 : CallSN "PackLanes$Packer" 123 y_PL_holds "PackLanes" prog_1_method_35_code 2 (some .boolean) 2 := ⟨(big_n 351 (by decide +kernel) (by decide +kernel)), (big_t 317 (by decide +kernel) (by decide +kernel)), (big_t 1 (by decide +kernel) (by decide +kernel)), (big_t 318 (by decide +kernel) (by decide +kernel)), ⟨by decide, by decide, by decide +kernel⟩⟩
theorem k_Pack_135 : CallSN "PackLanes$Packer" 135 y_PL_inLane "PackLanes" prog_1_method_36_code 2 (some .int) 2 := ⟨(big_n 426 (by decide +kernel) (by decide +kernel)), (big_t 360 (by decide +kernel) (by decide +kernel)), (big_t 1 (by decide +kernel) (by decide +kernel)), (big_t 361 (by decide +kernel) (by decide +kernel)), ⟨by decide, by decide, by decide +kernel⟩⟩
theorem k_Pack_139 : CallSN "PackLanes$Packer" 139 y_PL_setOf "PackLanes" prog_1_method_38_code 4 (some .int) 2 := ⟨(big_n 425 (by decide +kernel) (by decide +kernel)), (big_t 363 (by decide +kernel) (by decide +kernel)), (big_t 1 (by decide +kernel) (by decide +kernel)), (big_t 364 (by decide +kernel) (by decide +kernel)), ⟨by decide, by decide, by decide +kernel⟩⟩
theorem k_Pack_91 : CallSN "PackLanes$Packer" 91 y_PL_withLane "PackLanes" prog_1_method_37_code 3 (some .int) 3 := ⟨(big_n 352 (by decide +kernel) (by decide +kernel)), (big_t 353 (by decide +kernel) (by decide +kernel)), (big_t 1 (by decide +kernel) (by decide +kernel)), (big_t 354 (by decide +kernel) (by decide +kernel)), ⟨by decide, by decide, by decide +kernel⟩⟩
theorem k_Tree_113 : CallSN "PackLanes$Tree" 113 y_PL_withLane "PackLanes" prog_1_method_37_code 3 (some .int) 3 := ⟨(big_n 390 (by decide +kernel) (by decide +kernel)), (big_t 353 (by decide +kernel) (by decide +kernel)), (big_t 1 (by decide +kernel) (by decide +kernel)), (big_t 354 (by decide +kernel) (by decide +kernel)), ⟨by decide, by decide, by decide +kernel⟩⟩
theorem k_Tree_67 : CallSN "PackLanes$Tree" 67 y_PL_holds "PackLanes" prog_1_method_35_code 2 (some .boolean) 2 := ⟨(big_n 389 (by decide +kernel) (by decide +kernel)), (big_t 317 (by decide +kernel) (by decide +kernel)), (big_t 1 (by decide +kernel) (by decide +kernel)), (big_t 318 (by decide +kernel) (by decide +kernel)), ⟨by decide, by decide, by decide +kernel⟩⟩
theorem k_Tree_86 : CallSN "PackLanes$Tree" 86 y_PL_setOf "PackLanes" prog_1_method_38_code 4 (some .int) 2 := ⟨(big_n 383 (by decide +kernel) (by decide +kernel)), (big_t 363 (by decide +kernel) (by decide +kernel)), (big_t 1 (by decide +kernel) (by decide +kernel)), (big_t 364 (by decide +kernel) (by decide +kernel)), ⟨by decide, by decide, by decide +kernel⟩⟩
theorem k_Tree_89 : CallSN "PackLanes$Tree" 89 y_PL_inLane "PackLanes" prog_1_method_36_code 2 (some .int) 2 := ⟨(big_n 388 (by decide +kernel) (by decide +kernel)), (big_t 360 (by decide +kernel) (by decide +kernel)), (big_t 1 (by decide +kernel) (by decide +kernel)), (big_t 361 (by decide +kernel) (by decide +kernel)), ⟨by decide, by decide, by decide +kernel⟩⟩
theorem k_Code_34 : CallV "PackLanes$Code" 34 y_Code_stores prog_3_method_10_code 3 (some .int) 0 := ⟨(big_t 527 (by decide +kernel) (by decide +kernel)), (big_t 528 (by decide +kernel) (by decide +kernel)), (big_t 529 (by decide +kernel) (by decide +kernel)), (big_t 3 (by decide +kernel) (by decide +kernel)), (big_t 530 (by decide +kernel) (by decide +kernel)), ⟨rfl, by decide, by decide, by decide +kernel⟩⟩
theorem k_Code_44 : CallV "PackLanes$Code" 44 y_Code_has prog_3_method_3_code 2 (some .boolean) 1 := ⟨(big_t 545 (by decide +kernel) (by decide +kernel)), (big_t 546 (by decide +kernel) (by decide +kernel)), (big_t 547 (by decide +kernel) (by decide +kernel)), (big_t 3 (by decide +kernel) (by decide +kernel)), (big_t 548 (by decide +kernel) (by decide +kernel)), ⟨rfl, by decide, by decide, by decide +kernel⟩⟩
theorem k_Links_38 : CallV "PackLanes$Links" 38 y_Links_link prog_4_method_3_code 6 none 4 := ⟨(big_t 319 (by decide +kernel) (by decide +kernel)), (big_t 321 (by decide +kernel) (by decide +kernel)), (big_p 1 (by decide +kernel) (by decide +kernel)), (big_t 8 (by decide +kernel) (by decide +kernel)), (big_t 322 (by decide +kernel) (by decide +kernel)), ⟨rfl, by decide, by decide, by decide +kernel⟩⟩
theorem k_Links_42 : CallV "PackLanes$Links" 42 y_Code_operands prog_3_method_8_code 2 (some .int) 1 := ⟨(big_t 323 (by decide +kernel) (by decide +kernel)), (big_t 324 (by decide +kernel) (by decide +kernel)), (big_t 325 (by decide +kernel) (by decide +kernel)), (big_t 3 (by decide +kernel) (by decide +kernel)), (big_t 326 (by decide +kernel) (by decide +kernel)), ⟨rfl, by decide, by decide, by decide +kernel⟩⟩
theorem k_Links_46 : CallV "PackLanes$Links" 46 y_Links_clashInMemory prog_4_method_4_code 5 (some .boolean) 4 := ⟨(big_t 327 (by decide +kernel) (by decide +kernel)), (big_t 329 (by decide +kernel) (by decide +kernel)), (big_p 2 (by decide +kernel) (by decide +kernel)), (big_t 8 (by decide +kernel) (by decide +kernel)), (big_t 330 (by decide +kernel) (by decide +kernel)), ⟨rfl, by decide, by decide, by decide +kernel⟩⟩
theorem k_Links_50 : CallV "PackLanes$Links" 50 y_Links_clashByStop prog_4_method_5_code 5 (some .boolean) 2 := ⟨(big_t 339 (by decide +kernel) (by decide +kernel)), (big_t 341 (by decide +kernel) (by decide +kernel)), (big_p 3 (by decide +kernel) (by decide +kernel)), (big_t 8 (by decide +kernel) (by decide +kernel)), (big_t 342 (by decide +kernel) (by decide +kernel)), ⟨rfl, by decide, by decide, by decide +kernel⟩⟩
theorem k_Links_53 : CallV "PackLanes$Links" 53 y_Code_usesMemory prog_3_method_7_code 2 (some .boolean) 1 := ⟨(big_t 331 (by decide +kernel) (by decide +kernel)), (big_t 332 (by decide +kernel) (by decide +kernel)), (big_t 333 (by decide +kernel) (by decide +kernel)), (big_t 3 (by decide +kernel) (by decide +kernel)), (big_t 334 (by decide +kernel) (by decide +kernel)), ⟨rfl, by decide, by decide, by decide +kernel⟩⟩
theorem k_Links_66 : CallV "PackLanes$Links" 66 y_Code_addressOf prog_3_method_9_code 3 (some .int) 2 := ⟨(big_t 335 (by decide +kernel) (by decide +kernel)), (big_t 336 (by decide +kernel) (by decide +kernel)), (big_t 337 (by decide +kernel) (by decide +kernel)), (big_t 3 (by decide +kernel) (by decide +kernel)), (big_t 338 (by decide +kernel) (by decide +kernel)), ⟨rfl, by decide, by decide, by decide +kernel⟩⟩
theorem k_Mach_29 : CallV "PackLanes$Machine" 29 y_Mach_begin prog_5_method_4_code 3 none 1 := ⟨(big_t 573 (by decide +kernel) (by decide +kernel)), (big_t 575 (by decide +kernel) (by decide +kernel)), (big_p 19 (by decide +kernel) (by decide +kernel)), (big_t 10 (by decide +kernel) (by decide +kernel)), (big_t 576 (by decide +kernel) (by decide +kernel)), ⟨rfl, by decide, by decide, by decide +kernel⟩⟩
theorem k_Mach_38 : CallV "PackLanes$Machine" 38 y_Mach_carryOut prog_5_method_5_code 4 none 1 := ⟨(big_t 580 (by decide +kernel) (by decide +kernel)), (big_t 582 (by decide +kernel) (by decide +kernel)), (big_p 20 (by decide +kernel) (by decide +kernel)), (big_t 10 (by decide +kernel) (by decide +kernel)), (big_t 583 (by decide +kernel) (by decide +kernel)), ⟨rfl, by decide, by decide, by decide +kernel⟩⟩
theorem k_Mach_65 : CallV "PackLanes$Machine" 65 y_Code_addressOf prog_3_method_9_code 3 (some .int) 2 := ⟨(big_t 584 (by decide +kernel) (by decide +kernel)), (big_t 336 (by decide +kernel) (by decide +kernel)), (big_t 337 (by decide +kernel) (by decide +kernel)), (big_t 3 (by decide +kernel) (by decide +kernel)), (big_t 338 (by decide +kernel) (by decide +kernel)), ⟨rfl, by decide, by decide, by decide +kernel⟩⟩
theorem k_Pack_102 : CallV "PackLanes$Packer" 102 y_Tree_gain prog_10_method_3_code 3 (some .int) 0 := ⟨(big_t 413 (by decide +kernel) (by decide +kernel)), (big_t 414 (by decide +kernel) (by decide +kernel)), (big_t 415 (by decide +kernel) (by decide +kernel)), (big_t 9 (by decide +kernel) (by decide +kernel)), (big_t 416 (by decide +kernel) (by decide +kernel)), ⟨rfl, by decide, by decide, by decide +kernel⟩⟩
theorem k_Pack_126 : CallV "PackLanes$Packer" 126 y_Pack_joinTree prog_6_method_8_code 6 none 1 := ⟨(big_t 421 (by decide +kernel) (by decide +kernel)), (big_t 423 (by decide +kernel) (by decide +kernel)), (big_p 14 (by decide +kernel) (by decide +kernel)), (big_t 7 (by decide +kernel) (by decide +kernel)), (big_t 424 (by decide +kernel) (by decide +kernel)), ⟨rfl, by decide, by decide, by decide +kernel⟩⟩
theorem k_Pack_142 : CallV "PackLanes$Packer" 142 y_Pack_leastReady prog_6_method_10_code 3 (some .int) 1 := ⟨(big_t 431 (by decide +kernel) (by decide +kernel)), (big_t 433 (by decide +kernel) (by decide +kernel)), (big_p 16 (by decide +kernel) (by decide +kernel)), (big_t 7 (by decide +kernel) (by decide +kernel)), (big_t 434 (by decide +kernel) (by decide +kernel)), ⟨rfl, by decide, by decide, by decide +kernel⟩⟩
theorem k_Pack_146 : CallV "PackLanes$Packer" 146 y_Pack_appendNode prog_6_method_12_code 4 none 2 := ⟨(big_t 439 (by decide +kernel) (by decide +kernel)), (big_t 441 (by decide +kernel) (by decide +kernel)), (big_p 18 (by decide +kernel) (by decide +kernel)), (big_t 7 (by decide +kernel) (by decide +kernel)), (big_t 442 (by decide +kernel) (by decide +kernel)), ⟨rfl, by decide, by decide, by decide +kernel⟩⟩
theorem k_Pack_150 : CallV "PackLanes$Packer" 150 y_Pack_followedBy prog_6_method_11_code 4 (some .int) 1 := ⟨(big_t 435 (by decide +kernel) (by decide +kernel)), (big_t 437 (by decide +kernel) (by decide +kernel)), (big_p 17 (by decide +kernel) (by decide +kernel)), (big_t 7 (by decide +kernel) (by decide +kernel)), (big_t 438 (by decide +kernel) (by decide +kernel)), ⟨rfl, by decide, by decide, by decide +kernel⟩⟩
theorem k_Pack_68 : CallV "PackLanes$Packer" 68 y_Links_find prog_4_method_2_code 6 none 3 := ⟨(big_t 312 (by decide +kernel) (by decide +kernel)), (big_t 313 (by decide +kernel) (by decide +kernel)), (big_t 314 (by decide +kernel) (by decide +kernel)), (big_t 8 (by decide +kernel) (by decide +kernel)), (big_t 315 (by decide +kernel) (by decide +kernel)), ⟨rfl, by decide, by decide, by decide +kernel⟩⟩
theorem k_Pack_72 : CallV "PackLanes$Packer" 72 y_Pack_keepNothing prog_6_method_2_code 4 none 2 := ⟨(big_t 308 (by decide +kernel) (by decide +kernel)), (big_t 309 (by decide +kernel) (by decide +kernel)), (big_t 310 (by decide +kernel) (by decide +kernel)), (big_t 7 (by decide +kernel) (by decide +kernel)), (big_t 311 (by decide +kernel) (by decide +kernel)), ⟨rfl, by decide, by decide, by decide +kernel⟩⟩
theorem k_Pack_76 : CallV "PackLanes$Packer" 76 y_Pack_rootAt prog_6_method_4_code 6 (some .int) 2 := ⟨(big_t 343 (by decide +kernel) (by decide +kernel)), (big_t 344 (by decide +kernel) (by decide +kernel)), (big_t 345 (by decide +kernel) (by decide +kernel)), (big_t 7 (by decide +kernel) (by decide +kernel)), (big_t 346 (by decide +kernel) (by decide +kernel)), ⟨rfl, by decide, by decide, by decide +kernel⟩⟩
theorem k_Pack_80 : CallV "PackLanes$Packer" 80 y_Pack_considerRoot prog_6_method_7_code 6 none 1 := ⟨(big_t 371 (by decide +kernel) (by decide +kernel)), (big_t 373 (by decide +kernel) (by decide +kernel)), (big_p 5 (by decide +kernel) (by decide +kernel)), (big_t 7 (by decide +kernel) (by decide +kernel)), (big_t 374 (by decide +kernel) (by decide +kernel)), ⟨rfl, by decide, by decide, by decide +kernel⟩⟩
theorem k_Pack_84 : CallV "PackLanes$Packer" 84 y_Pack_putInOrder prog_6_method_9_code 6 (some .boolean) 0 := ⟨(big_t 427 (by decide +kernel) (by decide +kernel)), (big_t 429 (by decide +kernel) (by decide +kernel)), (big_p 15 (by decide +kernel) (by decide +kernel)), (big_t 7 (by decide +kernel) (by decide +kernel)), (big_t 430 (by decide +kernel) (by decide +kernel)), ⟨rfl, by decide, by decide, by decide +kernel⟩⟩
theorem k_Pack_88 : CallV "PackLanes$Packer" 88 y_Pack_leastStore prog_6_method_6_code 4 (some .int) 2 := ⟨(big_t 347 (by decide +kernel) (by decide +kernel)), (big_t 349 (by decide +kernel) (by decide +kernel)), (big_p 4 (by decide +kernel) (by decide +kernel)), (big_t 7 (by decide +kernel) (by decide +kernel)), (big_t 350 (by decide +kernel) (by decide +kernel)), ⟨rfl, by decide, by decide, by decide +kernel⟩⟩
theorem k_Pack_95 : CallV "PackLanes$Packer" 95 y_Links_isPack prog_4_method_6_code 8 (some .boolean) 2 := ⟨(big_t 355 (by decide +kernel) (by decide +kernel)), (big_t 356 (by decide +kernel) (by decide +kernel)), (big_t 357 (by decide +kernel) (by decide +kernel)), (big_t 8 (by decide +kernel) (by decide +kernel)), (big_t 358 (by decide +kernel) (by decide +kernel)), ⟨rfl, by decide, by decide, by decide +kernel⟩⟩
theorem k_Pack_99 : CallV "PackLanes$Packer" 99 y_Tree_grow prog_10_method_2_code 5 none 3 := ⟨(big_t 375 (by decide +kernel) (by decide +kernel)), (big_t 376 (by decide +kernel) (by decide +kernel)), (big_t 377 (by decide +kernel) (by decide +kernel)), (big_t 9 (by decide +kernel) (by decide +kernel)), (big_t 378 (by decide +kernel) (by decide +kernel)), ⟨rfl, by decide, by decide, by decide +kernel⟩⟩
theorem k_Src_22 : CallV "PackLanes$Source" 22 y_Code_clear prog_3_method_2_code 1 none 0 := ⟨(big_t 513 (by decide +kernel) (by decide +kernel)), (big_t 514 (by decide +kernel) (by decide +kernel)), (big_t 515 (by decide +kernel) (by decide +kernel)), (big_t 3 (by decide +kernel) (by decide +kernel)), (big_t 516 (by decide +kernel) (by decide +kernel)), ⟨rfl, by decide, by decide, by decide +kernel⟩⟩
theorem k_Src_35 : CallV "PackLanes$Source" 35 y_Code_canBegin prog_3_method_4_code 2 (some .boolean) 1 := ⟨(big_t 523 (by decide +kernel) (by decide +kernel)), (big_t 524 (by decide +kernel) (by decide +kernel)), (big_t 525 (by decide +kernel) (by decide +kernel)), (big_t 3 (by decide +kernel) (by decide +kernel)), (big_t 526 (by decide +kernel) (by decide +kernel)), ⟨rfl, by decide, by decide, by decide +kernel⟩⟩
theorem k_Src_46 : CallV "PackLanes$Source" 46 y_Code_add prog_3_method_6_code 6 none 4 := ⟨(big_t 549 (by decide +kernel) (by decide +kernel)), (big_t 550 (by decide +kernel) (by decide +kernel)), (big_t 551 (by decide +kernel) (by decide +kernel)), (big_t 3 (by decide +kernel) (by decide +kernel)), (big_t 552 (by decide +kernel) (by decide +kernel)), ⟨rfl, by decide, by decide, by decide +kernel⟩⟩
theorem k_Src_54 : CallV "PackLanes$Source" 54 y_Code_operandNamed prog_3_method_5_code 3 (some .int) 1 := ⟨(big_t 541 (by decide +kernel) (by decide +kernel)), (big_t 542 (by decide +kernel) (by decide +kernel)), (big_t 543 (by decide +kernel) (by decide +kernel)), (big_t 3 (by decide +kernel) (by decide +kernel)), (big_t 544 (by decide +kernel) (by decide +kernel)), ⟨rfl, by decide, by decide, by decide +kernel⟩⟩
theorem k_Tree_48 : CallV "PackLanes$Tree" 48 y_Tree_addPack prog_10_method_8_code 2 none 1 := ⟨(big_t 379 (by decide +kernel) (by decide +kernel)), (big_t 381 (by decide +kernel) (by decide +kernel)), (big_p 6 (by decide +kernel) (by decide +kernel)), (big_t 9 (by decide +kernel) (by decide +kernel)), (big_t 382 (by decide +kernel) (by decide +kernel)), ⟨rfl, by decide, by decide, by decide +kernel⟩⟩
theorem k_Tree_52 : CallV "PackLanes$Tree" 52 y_Tree_operands prog_10_method_10_code 6 (some .int) 2 := ⟨(big_t 384 (by decide +kernel) (by decide +kernel)), (big_t 386 (by decide +kernel) (by decide +kernel)), (big_p 7 (by decide +kernel) (by decide +kernel)), (big_t 9 (by decide +kernel) (by decide +kernel)), (big_t 387 (by decide +kernel) (by decide +kernel)), ⟨rfl, by decide, by decide, by decide +kernel⟩⟩
theorem k_Tree_56 : CallV "PackLanes$Tree" 56 y_Tree_append prog_10_method_9_code 2 none 1 := ⟨(big_t 391 (by decide +kernel) (by decide +kernel)), (big_t 393 (by decide +kernel) (by decide +kernel)), (big_p 8 (by decide +kernel) (by decide +kernel)), (big_t 9 (by decide +kernel) (by decide +kernel)), (big_t 394 (by decide +kernel) (by decide +kernel)), ⟨rfl, by decide, by decide, by decide +kernel⟩⟩
theorem k_Tree_59 : CallV "PackLanes$Tree" 59 y_Tree_handle prog_10_method_5_code 3 none 1 := ⟨(big_t 395 (by decide +kernel) (by decide +kernel)), (big_t 397 (by decide +kernel) (by decide +kernel)), (big_p 9 (by decide +kernel) (by decide +kernel)), (big_t 9 (by decide +kernel) (by decide +kernel)), (big_t 398 (by decide +kernel) (by decide +kernel)), ⟨rfl, by decide, by decide, by decide +kernel⟩⟩
theorem k_Tree_74 : CallV "PackLanes$Tree" 74 y_Tree_isTakenOut prog_10_method_4_code 2 (some .boolean) 1 := ⟨(big_t 417 (by decide +kernel) (by decide +kernel)), (big_t 419 (by decide +kernel) (by decide +kernel)), (big_p 13 (by decide +kernel) (by decide +kernel)), (big_t 9 (by decide +kernel) (by decide +kernel)), (big_t 420 (by decide +kernel) (by decide +kernel)), ⟨rfl, by decide, by decide, by decide +kernel⟩⟩
theorem k_Tree_83 : CallV "PackLanes$Tree" 83 y_Links_isPack prog_4_method_6_code 8 (some .boolean) 2 := ⟨(big_t 399 (by decide +kernel) (by decide +kernel)), (big_t 356 (by decide +kernel) (by decide +kernel)), (big_t 357 (by decide +kernel) (by decide +kernel)), (big_t 8 (by decide +kernel) (by decide +kernel)), (big_t 358 (by decide +kernel) (by decide +kernel)), ⟨rfl, by decide, by decide, by decide +kernel⟩⟩
theorem k_Tree_92 : CallV "PackLanes$Tree" 92 y_Tree_turnedLanes prog_10_method_11_code 7 (some .int) 1 := ⟨(big_t 400 (by decide +kernel) (by decide +kernel)), (big_t 402 (by decide +kernel) (by decide +kernel)), (big_p 10 (by decide +kernel) (by decide +kernel)), (big_t 9 (by decide +kernel) (by decide +kernel)), (big_t 403 (by decide +kernel) (by decide +kernel)), ⟨rfl, by decide, by decide, by decide +kernel⟩⟩
theorem k_Tree_96 : CallV "PackLanes$Tree" 96 y_Tree_hasPack prog_10_method_7_code 3 (some .boolean) 1 := ⟨(big_t 404 (by decide +kernel) (by decide +kernel)), (big_t 406 (by decide +kernel) (by decide +kernel)), (big_p 11 (by decide +kernel) (by decide +kernel)), (big_t 9 (by decide +kernel) (by decide +kernel)), (big_t 407 (by decide +kernel) (by decide +kernel)), ⟨rfl, by decide, by decide, by decide +kernel⟩⟩
theorem k_Tree_99 : CallV "PackLanes$Tree" 99 y_Tree_takeOneByOne prog_10_method_6_code 5 none 1 := ⟨(big_t 408 (by decide +kernel) (by decide +kernel)), (big_t 410 (by decide +kernel) (by decide +kernel)), (big_p 12 (by decide +kernel) (by decide +kernel)), (big_t 9 (by decide +kernel) (by decide +kernel)), (big_t 411 (by decide +kernel) (by decide +kernel)), ⟨rfl, by decide, by decide, by decide +kernel⟩⟩
theorem k_PL_102 : CallV "PackLanes" 102 y_Src_parse prog_9_method_5_code 8 (some .int) 1 := ⟨(big_t 509 (by decide +kernel) (by decide +kernel)), (big_t 510 (by decide +kernel) (by decide +kernel)), (big_t 511 (by decide +kernel) (by decide +kernel)), (big_t 2 (by decide +kernel) (by decide +kernel)), (big_t 512 (by decide +kernel) (by decide +kernel)), ⟨rfl, by decide, by decide, by decide +kernel⟩⟩
theorem k_PL_106 : CallV "PackLanes" 106 y_Src_headerDigit prog_9_method_4_code 2 (some .int) 1 := ⟨(big_t 557 (by decide +kernel) (by decide +kernel)), (big_t 558 (by decide +kernel) (by decide +kernel)), (big_t 559 (by decide +kernel) (by decide +kernel)), (big_t 2 (by decide +kernel) (by decide +kernel)), (big_t 560 (by decide +kernel) (by decide +kernel)), ⟨rfl, by decide, by decide, by decide +kernel⟩⟩
theorem k_PL_113 : CallV "PackLanes" 113 y_Code_cost prog_3_method_11_code 3 (some .int) 0 := ⟨(big_t 565 (by decide +kernel) (by decide +kernel)), (big_t 566 (by decide +kernel) (by decide +kernel)), (big_t 567 (by decide +kernel) (by decide +kernel)), (big_t 3 (by decide +kernel) (by decide +kernel)), (big_t 568 (by decide +kernel) (by decide +kernel)), ⟨rfl, by decide, by decide, by decide +kernel⟩⟩
theorem k_PL_128 : CallV "PackLanes" 128 y_Mach_runInOrder prog_5_method_2_code 4 none 2 := ⟨(big_t 569 (by decide +kernel) (by decide +kernel)), (big_t 570 (by decide +kernel) (by decide +kernel)), (big_t 571 (by decide +kernel) (by decide +kernel)), (big_t 10 (by decide +kernel) (by decide +kernel)), (big_t 572 (by decide +kernel) (by decide +kernel)), ⟨rfl, by decide, by decide, by decide +kernel⟩⟩
theorem k_PL_134 : CallV "PackLanes" 134 y_Mach_runPacked prog_5_method_3_code 4 none 2 := ⟨(big_t 585 (by decide +kernel) (by decide +kernel)), (big_t 586 (by decide +kernel) (by decide +kernel)), (big_t 587 (by decide +kernel) (by decide +kernel)), (big_t 10 (by decide +kernel) (by decide +kernel)), (big_t 588 (by decide +kernel) (by decide +kernel)), ⟨rfl, by decide, by decide, by decide +kernel⟩⟩
theorem k_PL_138 : CallV "PackLanes" 138 y_PL_bestWidth prog_1_method_25_code 2 (some .int) 0 := ⟨(big_t 589 (by decide +kernel) (by decide +kernel)), (big_t 591 (by decide +kernel) (by decide +kernel)), (big_p 21 (by decide +kernel) (by decide +kernel)), (big_t 1 (by decide +kernel) (by decide +kernel)), (big_t 592 (by decide +kernel) (by decide +kernel)), ⟨rfl, by decide, by decide, by decide +kernel⟩⟩
theorem k_PL_146 : CallV "PackLanes" 146 y_Code_has prog_3_method_3_code 2 (some .boolean) 1 := ⟨(big_t 598 (by decide +kernel) (by decide +kernel)), (big_t 546 (by decide +kernel) (by decide +kernel)), (big_t 547 (by decide +kernel) (by decide +kernel)), (big_t 3 (by decide +kernel) (by decide +kernel)), (big_t 548 (by decide +kernel) (by decide +kernel)), ⟨rfl, by decide, by decide, by decide +kernel⟩⟩
theorem k_PL_186 : CallV "PackLanes" 186 y_Acts_remember prog_2_method_3_code 3 none 2 := ⟨(big_t 613 (by decide +kernel) (by decide +kernel)), (big_t 614 (by decide +kernel) (by decide +kernel)), (big_t 615 (by decide +kernel) (by decide +kernel)), (big_t 4 (by decide +kernel) (by decide +kernel)), (big_t 616 (by decide +kernel) (by decide +kernel)), ⟨rfl, by decide, by decide, by decide +kernel⟩⟩
theorem k_PL_193 : CallV "PackLanes" 193 y_Acts_takeBack prog_2_method_4_code 3 none 1 := ⟨(big_t 629 (by decide +kernel) (by decide +kernel)), (big_t 630 (by decide +kernel) (by decide +kernel)), (big_t 631 (by decide +kernel) (by decide +kernel)), (big_t 4 (by decide +kernel) (by decide +kernel)), (big_t 632 (by decide +kernel) (by decide +kernel)), ⟨rfl, by decide, by decide, by decide +kernel⟩⟩
theorem k_PL_197 : CallV "PackLanes" 197 y_Pack_keepNothing prog_6_method_2_code 4 none 2 := ⟨(big_t 637 (by decide +kernel) (by decide +kernel)), (big_t 309 (by decide +kernel) (by decide +kernel)), (big_t 310 (by decide +kernel) (by decide +kernel)), (big_t 7 (by decide +kernel) (by decide +kernel)), (big_t 311 (by decide +kernel) (by decide +kernel)), ⟨rfl, by decide, by decide, by decide +kernel⟩⟩
theorem k_PL_200 : CallV "PackLanes" 200 y_Pack_rootAt prog_6_method_4_code 6 (some .int) 2 := ⟨(big_t 638 (by decide +kernel) (by decide +kernel)), (big_t 344 (by decide +kernel) (by decide +kernel)), (big_t 345 (by decide +kernel) (by decide +kernel)), (big_t 7 (by decide +kernel) (by decide +kernel)), (big_t 346 (by decide +kernel) (by decide +kernel)), ⟨rfl, by decide, by decide, by decide +kernel⟩⟩
theorem k_PL_204 : CallV "PackLanes" 204 y_Pack_gainOfTree prog_6_method_5_code 2 (some .int) 1 := ⟨(big_t 639 (by decide +kernel) (by decide +kernel)), (big_t 640 (by decide +kernel) (by decide +kernel)), (big_t 641 (by decide +kernel) (by decide +kernel)), (big_t 7 (by decide +kernel) (by decide +kernel)), (big_t 642 (by decide +kernel) (by decide +kernel)), ⟨rfl, by decide, by decide, by decide +kernel⟩⟩
theorem k_PL_215 : CallV "PackLanes" 215 y_PL_isRight prog_1_method_26_code 6 (some .boolean) 1 := ⟨(big_t 648 (by decide +kernel) (by decide +kernel)), (big_t 650 (by decide +kernel) (by decide +kernel)), (big_p 22 (by decide +kernel) (by decide +kernel)), (big_t 1 (by decide +kernel) (by decide +kernel)), (big_t 651 (by decide +kernel) (by decide +kernel)), ⟨rfl, by decide, by decide, by decide +kernel⟩⟩
theorem k_PL_218 : CallV "PackLanes" 218 y_Sights_add prog_7_method_2_code 3 (some .int) 2 := ⟨(big_t 656 (by decide +kernel) (by decide +kernel)), (big_t 657 (by decide +kernel) (by decide +kernel)), (big_t 658 (by decide +kernel) (by decide +kernel)), (big_t 6 (by decide +kernel) (by decide +kernel)), (big_t 659 (by decide +kernel) (by decide +kernel)), ⟨rfl, by decide, by decide, by decide +kernel⟩⟩
theorem k_PL_221 : CallV "PackLanes" 221 y_Sights_clear prog_7_method_3_code 2 (some .int) 0 := ⟨(big_t 664 (by decide +kernel) (by decide +kernel)), (big_t 665 (by decide +kernel) (by decide +kernel)), (big_t 666 (by decide +kernel) (by decide +kernel)), (big_t 6 (by decide +kernel) (by decide +kernel)), (big_t 667 (by decide +kernel) (by decide +kernel)), ⟨rfl, by decide, by decide, by decide +kernel⟩⟩
theorem k_PL_222 : CallV "PackLanes" 222 y_Sights_agreeWith prog_7_method_4_code 3 (some .boolean) 1 := ⟨(big_t 672 (by decide +kernel) (by decide +kernel)), (big_t 673 (by decide +kernel) (by decide +kernel)), (big_t 674 (by decide +kernel) (by decide +kernel)), (big_t 6 (by decide +kernel) (by decide +kernel)), (big_t 675 (by decide +kernel) (by decide +kernel)), ⟨rfl, by decide, by decide, by decide +kernel⟩⟩
theorem k_PL_226 : CallV "PackLanes" 226 y_Code_stores prog_3_method_10_code 3 (some .int) 0 := ⟨(big_t 680 (by decide +kernel) (by decide +kernel)), (big_t 528 (by decide +kernel) (by decide +kernel)), (big_t 529 (by decide +kernel) (by decide +kernel)), (big_t 3 (by decide +kernel) (by decide +kernel)), (big_t 530 (by decide +kernel) (by decide +kernel)), ⟨rfl, by decide, by decide, by decide +kernel⟩⟩
theorem k_PL_229 : CallV "PackLanes" 229 y_PL_sumGainsOfAllChoices prog_1_method_28_code 3 none 1 := ⟨(big_t 681 (by decide +kernel) (by decide +kernel)), (big_t 683 (by decide +kernel) (by decide +kernel)), (big_p 23 (by decide +kernel) (by decide +kernel)), (big_t 1 (by decide +kernel) (by decide +kernel)), (big_t 684 (by decide +kernel) (by decide +kernel)), ⟨rfl, by decide, by decide, by decide +kernel⟩⟩
theorem k_PL_249 : CallV "PackLanes" 249 y_PL_drawStartValues prog_1_method_31_code 3 none 0 := ⟨(big_t 719 (by decide +kernel) (by decide +kernel)), (big_t 721 (by decide +kernel) (by decide +kernel)), (big_p 25 (by decide +kernel) (by decide +kernel)), (big_t 1 (by decide +kernel) (by decide +kernel)), (big_t 722 (by decide +kernel) (by decide +kernel)), ⟨rfl, by decide, by decide, by decide +kernel⟩⟩
theorem k_PL_252 : CallV "PackLanes" 252 y_Slots_fill prog_8_method_3_code 3 none 2 := ⟨(big_t 729 (by decide +kernel) (by decide +kernel)), (big_t 730 (by decide +kernel) (by decide +kernel)), (big_t 731 (by decide +kernel) (by decide +kernel)), (big_t 5 (by decide +kernel) (by decide +kernel)), (big_t 732 (by decide +kernel) (by decide +kernel)), ⟨rfl, by decide, by decide, by decide +kernel⟩⟩
theorem k_PL_260 : CallV "PackLanes" 260 y_Slots_restore prog_8_method_4_code 3 none 2 := ⟨(big_t 738 (by decide +kernel) (by decide +kernel)), (big_t 739 (by decide +kernel) (by decide +kernel)), (big_t 740 (by decide +kernel) (by decide +kernel)), (big_t 5 (by decide +kernel) (by decide +kernel)), (big_t 741 (by decide +kernel) (by decide +kernel)), ⟨rfl, by decide, by decide, by decide +kernel⟩⟩
theorem k_PL_263 : CallV "PackLanes" 263 y_Acts_clear prog_2_method_2_code 1 none 0 := ⟨(big_t 296 (by decide +kernel) (by decide +kernel)), (big_t 297 (by decide +kernel) (by decide +kernel)), (big_t 298 (by decide +kernel) (by decide +kernel)), (big_t 4 (by decide +kernel) (by decide +kernel)), (big_t 299 (by decide +kernel) (by decide +kernel)), ⟨rfl, by decide, by decide, by decide +kernel⟩⟩
theorem k_PL_265 : CallV "PackLanes" 265 y_Slots_clear prog_8_method_2_code 2 none 0 := ⟨(big_t 300 (by decide +kernel) (by decide +kernel)), (big_t 301 (by decide +kernel) (by decide +kernel)), (big_t 302 (by decide +kernel) (by decide +kernel)), (big_t 5 (by decide +kernel) (by decide +kernel)), (big_t 303 (by decide +kernel) (by decide +kernel)), ⟨rfl, by decide, by decide, by decide +kernel⟩⟩
theorem k_PL_266 : CallV "PackLanes" 266 y_PL_storesOutside prog_1_method_29_code 5 (some .int) 1 := ⟨(big_t 685 (by decide +kernel) (by decide +kernel)), (big_t 687 (by decide +kernel) (by decide +kernel)), (big_p 24 (by decide +kernel) (by decide +kernel)), (big_t 1 (by decide +kernel) (by decide +kernel)), (big_t 688 (by decide +kernel) (by decide +kernel)), ⟨rfl, by decide, by decide, by decide +kernel⟩⟩
theorem k_PL_86 : CallV "PackLanes" 86 y_PL_restart prog_1_method_24_code 5 none 3 := ⟨(big_t 292 (by decide +kernel) (by decide +kernel)), (big_t 294 (by decide +kernel) (by decide +kernel)), (big_p 0 (by decide +kernel) (by decide +kernel)), (big_t 1 (by decide +kernel) (by decide +kernel)), (big_t 295 (by decide +kernel) (by decide +kernel)), ⟨rfl, by decide, by decide, by decide +kernel⟩⟩
theorem k_PL_90 : CallV "PackLanes" 90 y_Pack_choosePacks prog_6_method_3_code 6 none 2 := ⟨(big_t 304 (by decide +kernel) (by decide +kernel)), (big_t 305 (by decide +kernel) (by decide +kernel)), (big_t 306 (by decide +kernel) (by decide +kernel)), (big_t 7 (by decide +kernel) (by decide +kernel)), (big_t 307 (by decide +kernel) (by decide +kernel)), ⟨rfl, by decide, by decide, by decide +kernel⟩⟩
theorem k_PL_94 : CallV "PackLanes" 94 y_Src_append prog_9_method_2_code 2 (some .int) 1 := ⟨(big_t 493 (by decide +kernel) (by decide +kernel)), (big_t 494 (by decide +kernel) (by decide +kernel)), (big_t 495 (by decide +kernel) (by decide +kernel)), (big_t 2 (by decide +kernel) (by decide +kernel)), (big_t 496 (by decide +kernel) (by decide +kernel)), ⟨rfl, by decide, by decide, by decide +kernel⟩⟩
theorem k_PL_98 : CallV "PackLanes" 98 y_Src_clear prog_9_method_3_code 2 (some .int) 0 := ⟨(big_t 501 (by decide +kernel) (by decide +kernel)), (big_t 502 (by decide +kernel) (by decide +kernel)), (big_t 503 (by decide +kernel) (by decide +kernel)), (big_t 2 (by decide +kernel) (by decide +kernel)), (big_t 504 (by decide +kernel) (by decide +kernel)), ⟨rfl, by decide, by decide, by decide +kernel⟩⟩
theorem k_R_138 : CallV "PackLanesModel" 138 y_R_isAnyValueAsRead prog_12_method_16_code 3 (some .boolean) 0 := ⟨(big_t 934 (by decide +kernel) (by decide +kernel)), (big_t 936 (by decide +kernel) (by decide +kernel)), (big_p 29 (by decide +kernel) (by decide +kernel)), (big_t 12 (by decide +kernel) (by decide +kernel)), (big_t 937 (by decide +kernel) (by decide +kernel)), ⟨rfl, by decide, by decide, by decide +kernel⟩⟩
theorem k_R_146 : CallV "PackLanesModel" 146 y_R_done prog_12_method_20_code 2 (some .boolean) 1 := ⟨(big_t 944 (by decide +kernel) (by decide +kernel)), (big_t 946 (by decide +kernel) (by decide +kernel)), (big_p 31 (by decide +kernel) (by decide +kernel)), (big_t 12 (by decide +kernel) (by decide +kernel)), (big_t 947 (by decide +kernel) (by decide +kernel)), ⟨rfl, by decide, by decide, by decide +kernel⟩⟩
theorem k_R_156 : CallV "PackLanesModel" 156 y_R_isValueAsRead prog_12_method_15_code 2 (some .boolean) 1 := ⟨(big_t 951 (by decide +kernel) (by decide +kernel)), (big_t 953 (by decide +kernel) (by decide +kernel)), (big_p 32 (by decide +kernel) (by decide +kernel)), (big_t 12 (by decide +kernel) (by decide +kernel)), (big_t 954 (by decide +kernel) (by decide +kernel)), ⟨rfl, by decide, by decide, by decide +kernel⟩⟩
theorem k_R_160 : CallV "PackLanesModel" 160 y_R_takeHead prog_12_method_17_code 2 (some .boolean) 1 := ⟨(big_t 922 (by decide +kernel) (by decide +kernel)), (big_t 924 (by decide +kernel) (by decide +kernel)), (big_p 27 (by decide +kernel) (by decide +kernel)), (big_t 12 (by decide +kernel) (by decide +kernel)), (big_t 925 (by decide +kernel) (by decide +kernel)), ⟨rfl, by decide, by decide, by decide +kernel⟩⟩
theorem k_R_163 : CallV "PackLanesModel" 163 y_R_takeSign prog_12_method_19_code 3 (some .boolean) 1 := ⟨(big_t 927 (by decide +kernel) (by decide +kernel)), (big_t 929 (by decide +kernel) (by decide +kernel)), (big_p 28 (by decide +kernel) (by decide +kernel)), (big_t 12 (by decide +kernel) (by decide +kernel)), (big_t 930 (by decide +kernel) (by decide +kernel)), ⟨rfl, by decide, by decide, by decide +kernel⟩⟩
theorem k_R_166 : CallV "PackLanesModel" 166 y_R_takeOf prog_12_method_21_code 5 (some .boolean) 1 := ⟨(big_t 938 (by decide +kernel) (by decide +kernel)), (big_t 940 (by decide +kernel) (by decide +kernel)), (big_p 30 (by decide +kernel) (by decide +kernel)), (big_t 12 (by decide +kernel) (by decide +kernel)), (big_t 941 (by decide +kernel) (by decide +kernel)), ⟨rfl, by decide, by decide, by decide +kernel⟩⟩
theorem k_R_169 : CallV "PackLanesModel" 169 y_R_readText prog_12_method_22_code 3 (some .int) 0 := ⟨(big_t 918 (by decide +kernel) (by decide +kernel)), (big_t 920 (by decide +kernel) (by decide +kernel)), (big_p 26 (by decide +kernel) (by decide +kernel)), (big_t 12 (by decide +kernel) (by decide +kernel)), (big_t 921 (by decide +kernel) (by decide +kernel)), ⟨rfl, by decide, by decide, by decide +kernel⟩⟩
theorem k_R_180 : CallV "PackLanesModel" 180 y_R_isBinary prog_12_method_26_code 2 (some .boolean) 1 := ⟨(big_t 1009 (by decide +kernel) (by decide +kernel)), (big_t 1011 (by decide +kernel) (by decide +kernel)), (big_p 43 (by decide +kernel) (by decide +kernel)), (big_t 12 (by decide +kernel) (by decide +kernel)), (big_t 1012 (by decide +kernel) (by decide +kernel)), ⟨rfl, by decide, by decide, by decide +kernel⟩⟩
theorem k_R_194 : CallV "PackLanesModel" 194 y_R_isMemory prog_12_method_25_code 2 (some .boolean) 1 := ⟨(big_t 994 (by decide +kernel) (by decide +kernel)), (big_t 996 (by decide +kernel) (by decide +kernel)), (big_p 40 (by decide +kernel) (by decide +kernel)), (big_t 12 (by decide +kernel) (by decide +kernel)), (big_t 997 (by decide +kernel) (by decide +kernel)), ⟨rfl, by decide, by decide, by decide +kernel⟩⟩
theorem k_R_197 : CallV "PackLanesModel" 197 y_R_meet prog_12_method_29_code 4 (some .boolean) 3 := ⟨(big_t 998 (by decide +kernel) (by decide +kernel)), (big_t 1000 (by decide +kernel) (by decide +kernel)), (big_p 41 (by decide +kernel) (by decide +kernel)), (big_t 12 (by decide +kernel) (by decide +kernel)), (big_t 1001 (by decide +kernel) (by decide +kernel)), ⟨rfl, by decide, by decide, by decide +kernel⟩⟩
theorem k_R_201 : CallV "PackLanesModel" 201 y_R_uses prog_12_method_28_code 3 (some .boolean) 2 := ⟨(big_t 1005 (by decide +kernel) (by decide +kernel)), (big_t 1007 (by decide +kernel) (by decide +kernel)), (big_p 42 (by decide +kernel) (by decide +kernel)), (big_t 12 (by decide +kernel) (by decide +kernel)), (big_t 1008 (by decide +kernel) (by decide +kernel)), ⟨rfl, by decide, by decide, by decide +kernel⟩⟩
theorem k_R_204 : CallV "PackLanesModel" 204 y_R_doesFollow prog_12_method_30_code 7 (some .boolean) 3 := ⟨(big_t 987 (by decide +kernel) (by decide +kernel)), (big_t 989 (by decide +kernel) (by decide +kernel)), (big_p 39 (by decide +kernel) (by decide +kernel)), (big_t 12 (by decide +kernel) (by decide +kernel)), (big_t 990 (by decide +kernel) (by decide +kernel)), ⟨rfl, by decide, by decide, by decide +kernel⟩⟩
theorem k_R_216 : CallV "PackLanesModel" 216 y_R_isPack prog_12_method_32_code 8 (some .boolean) 1 := ⟨(big_t 1019 (by decide +kernel) (by decide +kernel)), (big_t 1021 (by decide +kernel) (by decide +kernel)), (big_p 45 (by decide +kernel) (by decide +kernel)), (big_t 12 (by decide +kernel) (by decide +kernel)), (big_t 1022 (by decide +kernel) (by decide +kernel)), ⟨rfl, by decide, by decide, by decide +kernel⟩⟩
theorem k_R_219 : CallV "PackLanesModel" 219 y_R_isFree prog_12_method_33_code 4 (some .boolean) 1 := ⟨(big_t 1035 (by decide +kernel) (by decide +kernel)), (big_t 1037 (by decide +kernel) (by decide +kernel)), (big_p 49 (by decide +kernel) (by decide +kernel)), (big_t 12 (by decide +kernel) (by decide +kernel)), (big_t 1038 (by decide +kernel) (by decide +kernel)), ⟨rfl, by decide, by decide, by decide +kernel⟩⟩
theorem k_R_222 : CallV "PackLanesModel" 222 y_R_addPack prog_12_method_34_code 3 none 1 := ⟨(big_t 1027 (by decide +kernel) (by decide +kernel)), (big_t 1029 (by decide +kernel) (by decide +kernel)), (big_p 47 (by decide +kernel) (by decide +kernel)), (big_t 12 (by decide +kernel) (by decide +kernel)), (big_t 1030 (by decide +kernel) (by decide +kernel)), ⟨rfl, by decide, by decide, by decide +kernel⟩⟩
theorem k_R_226 : CallV "PackLanesModel" 226 y_R_waitBoth prog_12_method_35_code 10 none 1 := ⟨(big_t 1039 (by decide +kernel) (by decide +kernel)), (big_t 1041 (by decide +kernel) (by decide +kernel)), (big_p 50 (by decide +kernel) (by decide +kernel)), (big_t 12 (by decide +kernel) (by decide +kernel)), (big_t 1042 (by decide +kernel) (by decide +kernel)), ⟨rfl, by decide, by decide, by decide +kernel⟩⟩
theorem k_R_229 : CallV "PackLanesModel" 229 y_R_isTreePack prog_12_method_36_code 5 (some .boolean) 1 := ⟨(big_t 1043 (by decide +kernel) (by decide +kernel)), (big_t 1045 (by decide +kernel) (by decide +kernel)), (big_p 51 (by decide +kernel) (by decide +kernel)), (big_t 12 (by decide +kernel) (by decide +kernel)), (big_t 1046 (by decide +kernel) (by decide +kernel)), ⟨rfl, by decide, by decide, by decide +kernel⟩⟩
theorem k_R_235 : CallV "PackLanesModel" 235 y_R_costOf prog_12_method_37_code 5 (some .int) 1 := ⟨(big_t 1047 (by decide +kernel) (by decide +kernel)), (big_t 1049 (by decide +kernel) (by decide +kernel)), (big_p 52 (by decide +kernel) (by decide +kernel)), (big_t 12 (by decide +kernel) (by decide +kernel)), (big_t 1050 (by decide +kernel) (by decide +kernel)), ⟨rfl, by decide, by decide, by decide +kernel⟩⟩
theorem k_R_241 : CallV "PackLanesModel" 241 y_R_look prog_12_method_38_code 3 none 1 := ⟨(big_t 1031 (by decide +kernel) (by decide +kernel)), (big_t 1033 (by decide +kernel) (by decide +kernel)), (big_p 48 (by decide +kernel) (by decide +kernel)), (big_t 12 (by decide +kernel) (by decide +kernel)), (big_t 1034 (by decide +kernel) (by decide +kernel)), ⟨rfl, by decide, by decide, by decide +kernel⟩⟩
theorem k_R_244 : CallV "PackLanesModel" 244 y_R_isUsedOutside prog_12_method_40_code 4 (some .boolean) 1 := ⟨(big_t 1055 (by decide +kernel) (by decide +kernel)), (big_t 1057 (by decide +kernel) (by decide +kernel)), (big_p 54 (by decide +kernel) (by decide +kernel)), (big_t 12 (by decide +kernel) (by decide +kernel)), (big_t 1058 (by decide +kernel) (by decide +kernel)), ⟨rfl, by decide, by decide, by decide +kernel⟩⟩
theorem k_R_247 : CallV "PackLanesModel" 247 y_R_nodeOf prog_12_method_43_code 6 (some .int) 1 := ⟨(big_t 1063 (by decide +kernel) (by decide +kernel)), (big_t 1065 (by decide +kernel) (by decide +kernel)), (big_p 56 (by decide +kernel) (by decide +kernel)), (big_t 12 (by decide +kernel) (by decide +kernel)), (big_t 1066 (by decide +kernel) (by decide +kernel)), ⟨rfl, by decide, by decide, by decide +kernel⟩⟩
theorem k_R_250 : CallV "PackLanesModel" 250 y_R_isReady prog_12_method_44_code 5 (some .boolean) 2 := ⟨(big_t 1067 (by decide +kernel) (by decide +kernel)), (big_t 1069 (by decide +kernel) (by decide +kernel)), (big_p 57 (by decide +kernel) (by decide +kernel)), (big_t 12 (by decide +kernel) (by decide +kernel)), (big_t 1070 (by decide +kernel) (by decide +kernel)), ⟨rfl, by decide, by decide, by decide +kernel⟩⟩
theorem k_R_262 : CallV "PackLanesModel" 262 y_R_layFollows prog_12_method_31_code 4 none 1 := ⟨(big_t 983 (by decide +kernel) (by decide +kernel)), (big_t 985 (by decide +kernel) (by decide +kernel)), (big_p 38 (by decide +kernel) (by decide +kernel)), (big_t 12 (by decide +kernel) (by decide +kernel)), (big_t 986 (by decide +kernel) (by decide +kernel)), ⟨rfl, by decide, by decide, by decide +kernel⟩⟩
theorem k_R_265 : CallV "PackLanesModel" 265 y_R_nothingKept prog_12_method_48_code 4 none 2 := ⟨(big_t 979 (by decide +kernel) (by decide +kernel)), (big_t 981 (by decide +kernel) (by decide +kernel)), (big_p 37 (by decide +kernel) (by decide +kernel)), (big_t 12 (by decide +kernel) (by decide +kernel)), (big_t 982 (by decide +kernel) (by decide +kernel)), ⟨rfl, by decide, by decide, by decide +kernel⟩⟩
theorem k_R_269 : CallV "PackLanesModel" 269 y_R_laySeed prog_12_method_42_code 8 (some .boolean) 2 := ⟨(big_t 1015 (by decide +kernel) (by decide +kernel)), (big_t 1017 (by decide +kernel) (by decide +kernel)), (big_p 44 (by decide +kernel) (by decide +kernel)), (big_t 12 (by decide +kernel) (by decide +kernel)), (big_t 1018 (by decide +kernel) (by decide +kernel)), ⟨rfl, by decide, by decide, by decide +kernel⟩⟩
theorem k_R_272 : CallV "PackLanesModel" 272 y_R_grow prog_12_method_39_code 2 none 0 := ⟨(big_t 1023 (by decide +kernel) (by decide +kernel)), (big_t 1025 (by decide +kernel) (by decide +kernel)), (big_p 46 (by decide +kernel) (by decide +kernel)), (big_t 12 (by decide +kernel) (by decide +kernel)), (big_t 1026 (by decide +kernel) (by decide +kernel)), ⟨rfl, by decide, by decide, by decide +kernel⟩⟩
theorem k_R_275 : CallV "PackLanesModel" 275 y_R_gainOfTree prog_12_method_41_code 3 (some .int) 0 := ⟨(big_t 1051 (by decide +kernel) (by decide +kernel)), (big_t 1053 (by decide +kernel) (by decide +kernel)), (big_p 53 (by decide +kernel) (by decide +kernel)), (big_t 12 (by decide +kernel) (by decide +kernel)), (big_t 1054 (by decide +kernel) (by decide +kernel)), ⟨rfl, by decide, by decide, by decide +kernel⟩⟩
theorem k_R_278 : CallV "PackLanesModel" 278 y_R_setInOrder prog_12_method_45_code 7 (some .boolean) 0 := ⟨(big_t 1059 (by decide +kernel) (by decide +kernel)), (big_t 1061 (by decide +kernel) (by decide +kernel)), (big_p 55 (by decide +kernel) (by decide +kernel)), (big_t 12 (by decide +kernel) (by decide +kernel)), (big_t 1062 (by decide +kernel) (by decide +kernel)), ⟨rfl, by decide, by decide, by decide +kernel⟩⟩
theorem k_R_281 : CallV "PackLanesModel" 281 y_R_keepTree prog_12_method_47_code 3 none 1 := ⟨(big_t 1071 (by decide +kernel) (by decide +kernel)), (big_t 1073 (by decide +kernel) (by decide +kernel)), (big_p 58 (by decide +kernel) (by decide +kernel)), (big_t 12 (by decide +kernel) (by decide +kernel)), (big_t 1074 (by decide +kernel) (by decide +kernel)), ⟨rfl, by decide, by decide, by decide +kernel⟩⟩
theorem k_R_284 : CallV "PackLanesModel" 284 y_R_noTree prog_12_method_46_code 2 none 0 := ⟨(big_t 1075 (by decide +kernel) (by decide +kernel)), (big_t 1077 (by decide +kernel) (by decide +kernel)), (big_p 59 (by decide +kernel) (by decide +kernel)), (big_t 12 (by decide +kernel) (by decide +kernel)), (big_t 1078 (by decide +kernel) (by decide +kernel)), ⟨rfl, by decide, by decide, by decide +kernel⟩⟩
theorem k_R_287 : CallV "PackLanesModel" 287 y_R_pack prog_12_method_49_code 5 none 2 := ⟨(big_t 975 (by decide +kernel) (by decide +kernel)), (big_t 977 (by decide +kernel) (by decide +kernel)), (big_p 36 (by decide +kernel) (by decide +kernel)), (big_t 12 (by decide +kernel) (by decide +kernel)), (big_t 978 (by decide +kernel) (by decide +kernel)), ⟨rfl, by decide, by decide, by decide +kernel⟩⟩
theorem k_R_290 : CallV "PackLanesModel" 290 y_R_costNow prog_12_method_50_code 3 (some .int) 0 := ⟨(big_t 963 (by decide +kernel) (by decide +kernel)), (big_t 965 (by decide +kernel) (by decide +kernel)), (big_p 33 (by decide +kernel) (by decide +kernel)), (big_t 12 (by decide +kernel) (by decide +kernel)), (big_t 966 (by decide +kernel) (by decide +kernel)), ⟨rfl, by decide, by decide, by decide +kernel⟩⟩
theorem k_R_296 : CallV "PackLanesModel" 296 y_R_beginRun prog_12_method_52_code 3 none 1 := ⟨(big_t 1079 (by decide +kernel) (by decide +kernel)), (big_t 1081 (by decide +kernel) (by decide +kernel)), (big_p 60 (by decide +kernel) (by decide +kernel)), (big_t 12 (by decide +kernel) (by decide +kernel)), (big_t 1082 (by decide +kernel) (by decide +kernel)), ⟨rfl, by decide, by decide, by decide +kernel⟩⟩
theorem k_R_299 : CallV "PackLanesModel" 299 y_R_doOne prog_12_method_53_code 5 none 2 := ⟨(big_t 1083 (by decide +kernel) (by decide +kernel)), (big_t 1085 (by decide +kernel) (by decide +kernel)), (big_p 61 (by decide +kernel) (by decide +kernel)), (big_t 12 (by decide +kernel) (by decide +kernel)), (big_t 1086 (by decide +kernel) (by decide +kernel)), ⟨rfl, by decide, by decide, by decide +kernel⟩⟩
theorem k_R_306 : CallV "PackLanesModel" 306 y_R_packedCost prog_12_method_51_code 2 (some .int) 1 := ⟨(big_t 1098 (by decide +kernel) (by decide +kernel)), (big_t 1100 (by decide +kernel) (by decide +kernel)), (big_p 64 (by decide +kernel) (by decide +kernel)), (big_t 12 (by decide +kernel) (by decide +kernel)), (big_t 1101 (by decide +kernel) (by decide +kernel)), ⟨rfl, by decide, by decide, by decide +kernel⟩⟩
theorem k_R_310 : CallV "PackLanesModel" 310 y_R_packed prog_12_method_57_code 3 (some .int) 0 := ⟨(big_t 1106 (by decide +kernel) (by decide +kernel)), (big_t 1108 (by decide +kernel) (by decide +kernel)), (big_p 66 (by decide +kernel) (by decide +kernel)), (big_t 12 (by decide +kernel) (by decide +kernel)), (big_t 1109 (by decide +kernel) (by decide +kernel)), ⟨rfl, by decide, by decide, by decide +kernel⟩⟩
theorem k_R_313 : CallV "PackLanesModel" 313 y_R_packedRun prog_12_method_55_code 4 none 1 := ⟨(big_t 971 (by decide +kernel) (by decide +kernel)), (big_t 973 (by decide +kernel) (by decide +kernel)), (big_p 35 (by decide +kernel) (by decide +kernel)), (big_t 12 (by decide +kernel) (by decide +kernel)), (big_t 974 (by decide +kernel) (by decide +kernel)), ⟨rfl, by decide, by decide, by decide +kernel⟩⟩
theorem k_R_316 : CallV "PackLanesModel" 316 y_R_run prog_12_method_54_code 4 none 2 := ⟨(big_t 1087 (by decide +kernel) (by decide +kernel)), (big_t 1089 (by decide +kernel) (by decide +kernel)), (big_p 62 (by decide +kernel) (by decide +kernel)), (big_t 12 (by decide +kernel) (by decide +kernel)), (big_t 1090 (by decide +kernel) (by decide +kernel)), ⟨rfl, by decide, by decide, by decide +kernel⟩⟩
theorem k_R_319 : CallV "PackLanesModel" 319 y_R_runFaults prog_12_method_59_code 2 (some .int) 1 := ⟨(big_t 967 (by decide +kernel) (by decide +kernel)), (big_t 969 (by decide +kernel) (by decide +kernel)), (big_p 34 (by decide +kernel) (by decide +kernel)), (big_t 12 (by decide +kernel) (by decide +kernel)), (big_t 970 (by decide +kernel) (by decide +kernel)), ⟨rfl, by decide, by decide, by decide +kernel⟩⟩
theorem k_R_323 : CallV "PackLanesModel" 323 y_R_bestWidth prog_12_method_56_code 2 (some .int) 0 := ⟨(big_t 1091 (by decide +kernel) (by decide +kernel)), (big_t 1093 (by decide +kernel) (by decide +kernel)), (big_p 63 (by decide +kernel) (by decide +kernel)), (big_t 12 (by decide +kernel) (by decide +kernel)), (big_t 1094 (by decide +kernel) (by decide +kernel)), ⟨rfl, by decide, by decide, by decide +kernel⟩⟩
theorem k_R_329 : CallV "PackLanesModel" 329 y_R_found prog_12_method_58_code 2 (some .int) 1 := ⟨(big_t 1102 (by decide +kernel) (by decide +kernel)), (big_t 1104 (by decide +kernel) (by decide +kernel)), (big_p 65 (by decide +kernel) (by decide +kernel)), (big_t 12 (by decide +kernel) (by decide +kernel)), (big_t 1105 (by decide +kernel) (by decide +kernel)), ⟨rfl, by decide, by decide, by decide +kernel⟩⟩
theorem k_R_332 : CallV "PackLanesModel" 332 y_R_isThere prog_12_method_11_code 2 (some .boolean) 1 := ⟨(big_t 1114 (by decide +kernel) (by decide +kernel)), (big_t 1116 (by decide +kernel) (by decide +kernel)), (big_p 67 (by decide +kernel) (by decide +kernel)), (big_t 12 (by decide +kernel) (by decide +kernel)), (big_t 1117 (by decide +kernel) (by decide +kernel)), ⟨rfl, by decide, by decide, by decide +kernel⟩⟩
theorem k_R_348 : CallV "PackLanesModel" 348 y_R_note prog_12_method_64_code 2 none 0 := ⟨(big_t 1139 (by decide +kernel) (by decide +kernel)), (big_t 1141 (by decide +kernel) (by decide +kernel)), (big_p 68 (by decide +kernel) (by decide +kernel)), (big_t 12 (by decide +kernel) (by decide +kernel)), (big_t 1142 (by decide +kernel) (by decide +kernel)), ⟨rfl, by decide, by decide, by decide +kernel⟩⟩
theorem k_R_354 : CallV "PackLanesModel" 354 y_R_isDependent prog_12_method_70_code 3 (some .boolean) 2 := ⟨(big_t 1171 (by decide +kernel) (by decide +kernel)), (big_t 1173 (by decide +kernel) (by decide +kernel)), (big_p 70 (by decide +kernel) (by decide +kernel)), (big_t 12 (by decide +kernel) (by decide +kernel)), (big_t 1174 (by decide +kernel) (by decide +kernel)), ⟨rfl, by decide, by decide, by decide +kernel⟩⟩
theorem k_R_357 : CallV "PackLanesModel" 357 y_R_isPackedAs prog_12_method_71_code 3 (some .boolean) 2 := ⟨(big_t 1175 (by decide +kernel) (by decide +kernel)), (big_t 1177 (by decide +kernel) (by decide +kernel)), (big_p 71 (by decide +kernel) (by decide +kernel)), (big_t 12 (by decide +kernel) (by decide +kernel)), (big_t 1178 (by decide +kernel) (by decide +kernel)), ⟨rfl, by decide, by decide, by decide +kernel⟩⟩
theorem k_R_368 : CallV "PackLanesModel" 368 y_R_judged prog_12_method_72_code 3 (some .boolean) 2 := ⟨(big_t 1167 (by decide +kernel) (by decide +kernel)), (big_t 1169 (by decide +kernel) (by decide +kernel)), (big_p 69 (by decide +kernel) (by decide +kernel)), (big_t 12 (by decide +kernel) (by decide +kernel)), (big_t 1170 (by decide +kernel) (by decide +kernel)), ⟨rfl, by decide, by decide, by decide +kernel⟩⟩
theorem k_R_371 : CallV "PackLanesModel" 371 y_R_layStores prog_12_method_78_code 3 (some .int) 0 := ⟨(big_t 1195 (by decide +kernel) (by decide +kernel)), (big_t 1197 (by decide +kernel) (by decide +kernel)), (big_p 72 (by decide +kernel) (by decide +kernel)), (big_t 12 (by decide +kernel) (by decide +kernel)), (big_t 1198 (by decide +kernel) (by decide +kernel)), ⟨rfl, by decide, by decide, by decide +kernel⟩⟩
theorem k_R_374 : CallV "PackLanesModel" 374 y_R_gainsBy prog_12_method_79_code 5 (some .int) 2 := ⟨(big_t 1199 (by decide +kernel) (by decide +kernel)), (big_t 1201 (by decide +kernel) (by decide +kernel)), (big_p 73 (by decide +kernel) (by decide +kernel)), (big_t 12 (by decide +kernel) (by decide +kernel)), (big_t 1202 (by decide +kernel) (by decide +kernel)), ⟨rfl, by decide, by decide, by decide +kernel⟩⟩
theorem w_ab_PL_273 : Cond.methodLink "PackLanes" 273 Lib.Math.abs.name ∈ BIG := (big_t 697 (by decide +kernel) (by decide +kernel))
theorem w_ac_Acts_22 : Cond.methodLink "PackLanes$Acts" 22 arraycopyName ∈ BIG := (big_t 617 (by decide +kernel) (by decide +kernel))
theorem w_ac_Mach_50 : Cond.methodLink "PackLanes$Machine" 50 arraycopyName ∈ BIG := (big_t 577 (by decide +kernel) (by decide +kernel))
theorem w_ac_Slots_20 : Cond.methodLink "PackLanes$Slots" 20 arraycopyName ∈ BIG := (big_t 733 (by decide +kernel) (by decide +kernel))
theorem w_ac_PL_209 : Cond.methodLink "PackLanes" 209 arraycopyName ∈ BIG := (big_t 593 (by decide +kernel) (by decide +kernel))
theorem w_c_Int_265 : Cond.constant "java/lang/Integer" 265 1431655765 ∈ BIG := (big_t 368 (by decide +kernel) (by decide +kernel))
theorem w_c_Int_266 : Cond.constant "java/lang/Integer" 266 858993459 ∈ BIG := (big_t 369 (by decide +kernel) (by decide +kernel))
theorem w_c_Int_267 : Cond.constant "java/lang/Integer" 267 252645135 ∈ BIG := (big_t 370 (by decide +kernel) (by decide +kernel))
theorem w_cl_PL_207 : Cond.constantLong "PackLanes" 207 100000 ∈ BIG := (big_t 647 (by decide +kernel) (by decide +kernel))
theorem w_cl_PL_247 : Cond.constantLong "PackLanes" 247 10 ∈ BIG := (big_t 710 (by decide +kernel) (by decide +kernel))
theorem w_cl_PL_269 : Cond.constantLong "PackLanes" 269 6364136223846793005 ∈ BIG := (big_t 723 (by decide +kernel) (by decide +kernel))
theorem w_cl_PL_271 : Cond.constantLong "PackLanes" 271 1442695040888963407 ∈ BIG := (big_t 724 (by decide +kernel) (by decide +kernel))
theorem w_cl_R_107 : Cond.constantLong "PackLanesModel" 107 15 ∈ BIG := (big_t 1128 (by decide +kernel) (by decide +kernel))
theorem w_cl_R_109 : Cond.constantLong "PackLanesModel" 109 255 ∈ BIG := (big_t 906 (by decide +kernel) (by decide +kernel))
theorem w_cl_R_123 : Cond.constantLong "PackLanesModel" 123 8 ∈ BIG := (big_t 926 (by decide +kernel) (by decide +kernel))
theorem w_cl_R_142 : Cond.constantLong "PackLanesModel" 142 48 ∈ BIG := (big_t 942 (by decide +kernel) (by decide +kernel))
theorem w_cl_R_144 : Cond.constantLong "PackLanesModel" 144 57 ∈ BIG := (big_t 943 (by decide +kernel) (by decide +kernel))
theorem w_cl_R_150 : Cond.constantLong "PackLanesModel" 150 65 ∈ BIG := (big_t 948 (by decide +kernel) (by decide +kernel))
theorem w_cl_R_152 : Cond.constantLong "PackLanesModel" 152 66 ∈ BIG := (big_t 949 (by decide +kernel) (by decide +kernel))
theorem w_cl_R_154 : Cond.constantLong "PackLanesModel" 154 55 ∈ BIG := (big_t 950 (by decide +kernel) (by decide +kernel))
theorem w_cl_R_176 : Cond.constantLong "PackLanesModel" 176 2 ∈ BIG := (big_t 1013 (by decide +kernel) (by decide +kernel))
theorem w_cl_R_178 : Cond.constantLong "PackLanesModel" 178 5 ∈ BIG := (big_t 1014 (by decide +kernel) (by decide +kernel))
theorem w_cl_R_344 : Cond.constantLong "PackLanesModel" 344 (-99) ∈ BIG := (big_t 1137 (by decide +kernel) (by decide +kernel))
theorem w_cl_R_346 : Cond.constantLong "PackLanesModel" 346 99 ∈ BIG := (big_t 1138 (by decide +kernel) (by decide +kernel))
theorem w_cl_R_360 : Cond.constantLong "PackLanesModel" 360 100000 ∈ BIG := (big_t 1166 (by decide +kernel) (by decide +kernel))
theorem w_cl_R_362 : Cond.constantLong "PackLanesModel" 362 3 ∈ BIG := (big_t 1162 (by decide +kernel) (by decide +kernel))
theorem w_cl_R_385 : Cond.constantLong "PackLanesModel" 385 10 ∈ BIG := (big_t 1213 (by decide +kernel) (by decide +kernel))
theorem w_cl_R_394 : Cond.constantLong "PackLanesModel" 394 6364136223846793005 ∈ BIG := (big_t 1225 (by decide +kernel) (by decide +kernel))
theorem w_cl_R_396 : Cond.constantLong "PackLanesModel" 396 1442695040888963407 ∈ BIG := (big_t 1226 (by decide +kernel) (by decide +kernel))
theorem f_Acts_15 : FldOK "PackLanes$Acts" 15 0 1 (.array .int) 1 := ⟨KR0, KT0, 3, Kt0, by decide, rfl, by decide, Ki0, Kp0, Kn0, (big_t 95 (by decide +kernel) (by decide +kernel)), by decide +kernel, (fun h => absurd h (by decide)), (fun _ => ⟨rfl, rfl⟩)⟩
theorem f_Acts_18 : FldOK "PackLanes$Acts" 18 0 2 .int 0 := ⟨KR0, KT0, 3, Kt0, by decide, rfl, by decide, Ki0, Kp0, Kn0, (big_t 96 (by decide +kernel) (by decide +kernel)), by decide +kernel, (fun _ => rfl), (fun h => absurd h (by decide))⟩
theorem f_Acts_9 : FldOK "PackLanes$Acts" 9 0 0 (.array .int) 1 := ⟨KR0, KT0, 3, Kt0, by decide, rfl, by decide, Ki0, Kp0, Kn0, (big_t 94 (by decide +kernel) (by decide +kernel)), by decide +kernel, (fun h => absurd h (by decide)), (fun _ => ⟨rfl, rfl⟩)⟩
theorem f_Code_15 : FldOK "PackLanes$Code" 15 1 1 (.array .int) 1 := ⟨KR1, KT1, 7, Kt1, by decide, rfl, by decide, Ki1, Kp1, Kn1, (big_t 53 (by decide +kernel) (by decide +kernel)), by decide +kernel, (fun h => absurd h (by decide)), (fun _ => ⟨rfl, rfl⟩)⟩
theorem f_Code_18 : FldOK "PackLanes$Code" 18 1 2 (.array .int) 1 := ⟨KR1, KT1, 7, Kt1, by decide, rfl, by decide, Ki1, Kp1, Kn1, (big_t 56 (by decide +kernel) (by decide +kernel)), by decide +kernel, (fun h => absurd h (by decide)), (fun _ => ⟨rfl, rfl⟩)⟩
theorem f_Code_21 : FldOK "PackLanes$Code" 21 1 3 (.array .int) 1 := ⟨KR1, KT1, 7, Kt1, by decide, rfl, by decide, Ki1, Kp1, Kn1, (big_t 59 (by decide +kernel) (by decide +kernel)), by decide +kernel, (fun h => absurd h (by decide)), (fun _ => ⟨rfl, rfl⟩)⟩
theorem f_Code_24 : FldOK "PackLanes$Code" 24 1 4 (.array .int) 1 := ⟨KR1, KT1, 7, Kt1, by decide, rfl, by decide, Ki1, Kp1, Kn1, (big_t 61 (by decide +kernel) (by decide +kernel)), by decide +kernel, (fun h => absurd h (by decide)), (fun _ => ⟨rfl, rfl⟩)⟩
theorem f_Code_27 : FldOK "PackLanes$Code" 27 1 5 (.array .int) 1 := ⟨KR1, KT1, 7, Kt1, by decide, rfl, by decide, Ki1, Kp1, Kn1, (big_t 64 (by decide +kernel) (by decide +kernel)), by decide +kernel, (fun h => absurd h (by decide)), (fun _ => ⟨rfl, rfl⟩)⟩
theorem f_Code_30 : FldOK "PackLanes$Code" 30 1 6 .int 0 := ⟨KR1, KT1, 7, Kt1, by decide, rfl, by decide, Ki1, Kp1, Kn1, (big_t 67 (by decide +kernel) (by decide +kernel)), by decide +kernel, (fun _ => rfl), (fun h => absurd h (by decide))⟩
theorem f_Code_9 : FldOK "PackLanes$Code" 9 1 0 (.array .int) 1 := ⟨KR1, KT1, 7, Kt1, by decide, rfl, by decide, Ki1, Kp1, Kn1, (big_t 47 (by decide +kernel) (by decide +kernel)), by decide +kernel, (fun h => absurd h (by decide)), (fun _ => ⟨rfl, rfl⟩)⟩
theorem f_Links_15 : FldOK "PackLanes$Links" 15 2 2 (.array .int) 1 := ⟨KR2, KT2, 5, Kt2, by decide, rfl, by decide, Ki2, Kp2, Kn2, (big_t 154 (by decide +kernel) (by decide +kernel)), by decide +kernel, (fun h => absurd h (by decide)), (fun _ => ⟨rfl, rfl⟩)⟩
theorem f_Links_18 : FldOK "PackLanes$Links" 18 2 3 (.array .int) 1 := ⟨KR2, KT2, 5, Kt2, by decide, rfl, by decide, Ki2, Kp2, Kn2, (big_t 156 (by decide +kernel) (by decide +kernel)), by decide +kernel, (fun h => absurd h (by decide)), (fun _ => ⟨rfl, rfl⟩)⟩
theorem f_Links_21 : FldOK "PackLanes$Links" 21 2 4 .int 0 := ⟨KR2, KT2, 5, Kt2, by decide, rfl, by decide, Ki2, Kp2, Kn2, (big_t 158 (by decide +kernel) (by decide +kernel)), by decide +kernel, (fun _ => rfl), (fun h => absurd h (by decide))⟩
theorem f_Links_25 : FldOK "PackLanes$Links" 25 2 0 (.object "PackLanes$Code") 1 := ⟨KR2, KT2, 5, Kt2, by decide, rfl, by decide, Ki2, Kp2, Kn2, (big_t 151 (by decide +kernel) (by decide +kernel)), by decide +kernel, (fun h => absurd h (by decide)), (fun _ => ⟨rfl, rfl⟩)⟩
theorem f_Links_29 : FldOK "PackLanes$Links" 29 1 6 .int 0 := ⟨KR1, KT1, 7, Kt1, by decide, rfl, by decide, Ki1, Kp1, Kn1, (big_t 69 (by decide +kernel) (by decide +kernel)), by decide +kernel, (fun _ => rfl), (fun h => absurd h (by decide))⟩
theorem f_Links_57 : FldOK "PackLanes$Links" 57 1 0 (.array .int) 2 := ⟨KR1, KT1, 7, Kt1, by decide, rfl, by decide, Ki1, Kp1, Kn1, (big_t 49 (by decide +kernel) (by decide +kernel)), by decide +kernel, (fun h => absurd h (by decide)), (fun h => absurd h (by decide))⟩
theorem f_Links_60 : FldOK "PackLanes$Links" 60 1 1 (.array .int) 2 := ⟨KR1, KT1, 7, Kt1, by decide, rfl, by decide, Ki1, Kp1, Kn1, (big_t 54 (by decide +kernel) (by decide +kernel)), by decide +kernel, (fun h => absurd h (by decide)), (fun h => absurd h (by decide))⟩
theorem f_Links_63 : FldOK "PackLanes$Links" 63 1 2 (.array .int) 2 := ⟨KR1, KT1, 7, Kt1, by decide, rfl, by decide, Ki1, Kp1, Kn1, (big_t 57 (by decide +kernel) (by decide +kernel)), by decide +kernel, (fun h => absurd h (by decide)), (fun h => absurd h (by decide))⟩
theorem f_Links_9 : FldOK "PackLanes$Links" 9 2 1 (.array .int) 1 := ⟨KR2, KT2, 5, Kt2, by decide, rfl, by decide, Ki2, Kp2, Kn2, (big_t 152 (by decide +kernel) (by decide +kernel)), by decide +kernel, (fun h => absurd h (by decide)), (fun _ => ⟨rfl, rfl⟩)⟩
theorem f_Mach_15 : FldOK "PackLanes$Machine" 15 3 2 (.array .int) 1 := ⟨KR3, KT3, 5, Kt3, by decide, rfl, by decide, Ki3, Kp3, Kn3, (big_t 276 (by decide +kernel) (by decide +kernel)), by decide +kernel, (fun h => absurd h (by decide)), (fun _ => ⟨rfl, rfl⟩)⟩
theorem f_Mach_18 : FldOK "PackLanes$Machine" 18 3 3 .int 0 := ⟨KR3, KT3, 5, Kt3, by decide, rfl, by decide, Ki3, Kp3, Kn3, (big_t 278 (by decide +kernel) (by decide +kernel)), by decide +kernel, (fun _ => rfl), (fun h => absurd h (by decide))⟩
theorem f_Mach_22 : FldOK "PackLanes$Machine" 22 3 4 .int 0 := ⟨KR3, KT3, 5, Kt3, by decide, rfl, by decide, Ki3, Kp3, Kn3, (big_t 280 (by decide +kernel) (by decide +kernel)), by decide +kernel, (fun _ => rfl), (fun h => absurd h (by decide))⟩
theorem f_Mach_25 : FldOK "PackLanes$Machine" 25 3 0 (.object "PackLanes$Code") 1 := ⟨KR3, KT3, 5, Kt3, by decide, rfl, by decide, Ki3, Kp3, Kn3, (big_t 273 (by decide +kernel) (by decide +kernel)), by decide +kernel, (fun h => absurd h (by decide)), (fun _ => ⟨rfl, rfl⟩)⟩
theorem f_Mach_33 : FldOK "PackLanes$Machine" 33 1 6 .int 0 := ⟨KR1, KT1, 7, Kt1, by decide, rfl, by decide, Ki1, Kp1, Kn1, (big_t 68 (by decide +kernel) (by decide +kernel)), by decide +kernel, (fun _ => rfl), (fun h => absurd h (by decide))⟩
theorem f_Mach_42 : FldOK "PackLanes$Machine" 42 4 9 .int 0 := ⟨KR4, KT4, 14, Kt4, by decide, rfl, by decide, Ki4, Kp4, Kn4, (big_t 229 (by decide +kernel) (by decide +kernel)), by decide +kernel, (fun _ => rfl), (fun h => absurd h (by decide))⟩
theorem f_Mach_47 : FldOK "PackLanes$Machine" 47 4 8 (.array .int) 2 := ⟨KR4, KT4, 14, Kt4, by decide, rfl, by decide, Ki4, Kp4, Kn4, (big_t 227 (by decide +kernel) (by decide +kernel)), by decide +kernel, (fun h => absurd h (by decide)), (fun h => absurd h (by decide))⟩
theorem f_Mach_56 : FldOK "PackLanes$Machine" 56 1 4 (.array .int) 2 := ⟨KR1, KT1, 7, Kt1, by decide, rfl, by decide, Ki1, Kp1, Kn1, (big_t 62 (by decide +kernel) (by decide +kernel)), by decide +kernel, (fun h => absurd h (by decide)), (fun h => absurd h (by decide))⟩
theorem f_Mach_59 : FldOK "PackLanes$Machine" 59 1 5 (.array .int) 2 := ⟨KR1, KT1, 7, Kt1, by decide, rfl, by decide, Ki1, Kp1, Kn1, (big_t 65 (by decide +kernel) (by decide +kernel)), by decide +kernel, (fun h => absurd h (by decide)), (fun h => absurd h (by decide))⟩
theorem f_Mach_62 : FldOK "PackLanes$Machine" 62 1 0 (.array .int) 2 := ⟨KR1, KT1, 7, Kt1, by decide, rfl, by decide, Ki1, Kp1, Kn1, (big_t 50 (by decide +kernel) (by decide +kernel)), by decide +kernel, (fun h => absurd h (by decide)), (fun h => absurd h (by decide))⟩
theorem f_Mach_69 : FldOK "PackLanes$Machine" 69 1 3 (.array .int) 2 := ⟨KR1, KT1, 7, Kt1, by decide, rfl, by decide, Ki1, Kp1, Kn1, (big_t 60 (by decide +kernel) (by decide +kernel)), by decide +kernel, (fun h => absurd h (by decide)), (fun h => absurd h (by decide))⟩
theorem f_Mach_9 : FldOK "PackLanes$Machine" 9 3 1 (.array .int) 1 := ⟨KR3, KT3, 5, Kt3, by decide, rfl, by decide, Ki3, Kp3, Kn3, (big_t 274 (by decide +kernel) (by decide +kernel)), by decide +kernel, (fun h => absurd h (by decide)), (fun _ => ⟨rfl, rfl⟩)⟩
theorem f_Pack_106 : FldOK "PackLanes$Packer" 106 1 6 .int 0 := ⟨KR1, KT1, 7, Kt1, by decide, rfl, by decide, Ki1, Kp1, Kn1, (big_t 72 (by decide +kernel) (by decide +kernel)), by decide +kernel, (fun _ => rfl), (fun h => absurd h (by decide))⟩
theorem f_Pack_111 : FldOK "PackLanes$Packer" 111 1 0 (.array .int) 2 := ⟨KR1, KT1, 7, Kt1, by decide, rfl, by decide, Ki1, Kp1, Kn1, (big_t 51 (by decide +kernel) (by decide +kernel)), by decide +kernel, (fun h => absurd h (by decide)), (fun h => absurd h (by decide))⟩
theorem f_Pack_114 : FldOK "PackLanes$Packer" 114 1 1 (.array .int) 2 := ⟨KR1, KT1, 7, Kt1, by decide, rfl, by decide, Ki1, Kp1, Kn1, (big_t 55 (by decide +kernel) (by decide +kernel)), by decide +kernel, (fun h => absurd h (by decide)), (fun h => absurd h (by decide))⟩
theorem f_Pack_117 : FldOK "PackLanes$Packer" 117 1 2 (.array .int) 2 := ⟨KR1, KT1, 7, Kt1, by decide, rfl, by decide, Ki1, Kp1, Kn1, (big_t 58 (by decide +kernel) (by decide +kernel)), by decide +kernel, (fun h => absurd h (by decide)), (fun h => absurd h (by decide))⟩
theorem f_Pack_120 : FldOK "PackLanes$Packer" 120 2 4 .int 0 := ⟨KR2, KT2, 5, Kt2, by decide, rfl, by decide, Ki2, Kp2, Kn2, (big_t 159 (by decide +kernel) (by decide +kernel)), by decide +kernel, (fun _ => rfl), (fun h => absurd h (by decide))⟩
theorem f_Pack_130 : FldOK "PackLanes$Packer" 130 8 3 .int 0 := ⟨KR8, KT8, 11, Kt8, by decide, rfl, by decide, Ki8, Kp8, Kn8, (big_t 182 (by decide +kernel) (by decide +kernel)), by decide +kernel, (fun _ => rfl), (fun h => absurd h (by decide))⟩
theorem f_Pack_133 : FldOK "PackLanes$Packer" 133 8 2 (.array .int) 2 := ⟨KR8, KT8, 11, Kt8, by decide, rfl, by decide, Ki8, Kp8, Kn8, (big_t 180 (by decide +kernel) (by decide +kernel)), by decide +kernel, (fun h => absurd h (by decide)), (fun h => absurd h (by decide))⟩
theorem f_Pack_138 : FldOK "PackLanes$Packer" 138 8 4 .int 0 := ⟨KR8, KT8, 11, Kt8, by decide, rfl, by decide, Ki8, Kp8, Kn8, (big_t 184 (by decide +kernel) (by decide +kernel)), by decide +kernel, (fun _ => rfl), (fun h => absurd h (by decide))⟩
theorem f_Pack_15 : FldOK "PackLanes$Packer" 15 4 4 (.array .int) 1 := ⟨KR4, KT4, 14, Kt4, by decide, rfl, by decide, Ki4, Kp4, Kn4, (big_t 219 (by decide +kernel) (by decide +kernel)), by decide +kernel, (fun h => absurd h (by decide)), (fun _ => ⟨rfl, rfl⟩)⟩
theorem f_Pack_153 : FldOK "PackLanes$Packer" 153 2 1 (.array .int) 2 := ⟨KR2, KT2, 5, Kt2, by decide, rfl, by decide, Ki2, Kp2, Kn2, (big_t 153 (by decide +kernel) (by decide +kernel)), by decide +kernel, (fun h => absurd h (by decide)), (fun h => absurd h (by decide))⟩
theorem f_Pack_19 : FldOK "PackLanes$Packer" 19 4 5 (.array .int) 1 := ⟨KR4, KT4, 14, Kt4, by decide, rfl, by decide, Ki4, Kp4, Kn4, (big_t 220 (by decide +kernel) (by decide +kernel)), by decide +kernel, (fun h => absurd h (by decide)), (fun _ => ⟨rfl, rfl⟩)⟩
theorem f_Pack_22 : FldOK "PackLanes$Packer" 22 4 6 (.array .int) 1 := ⟨KR4, KT4, 14, Kt4, by decide, rfl, by decide, Ki4, Kp4, Kn4, (big_t 222 (by decide +kernel) (by decide +kernel)), by decide +kernel, (fun h => absurd h (by decide)), (fun _ => ⟨rfl, rfl⟩)⟩
theorem f_Pack_25 : FldOK "PackLanes$Packer" 25 4 7 (.array .int) 1 := ⟨KR4, KT4, 14, Kt4, by decide, rfl, by decide, Ki4, Kp4, Kn4, (big_t 224 (by decide +kernel) (by decide +kernel)), by decide +kernel, (fun h => absurd h (by decide)), (fun _ => ⟨rfl, rfl⟩)⟩
theorem f_Pack_28 : FldOK "PackLanes$Packer" 28 4 8 (.array .int) 1 := ⟨KR4, KT4, 14, Kt4, by decide, rfl, by decide, Ki4, Kp4, Kn4, (big_t 226 (by decide +kernel) (by decide +kernel)), by decide +kernel, (fun h => absurd h (by decide)), (fun _ => ⟨rfl, rfl⟩)⟩
theorem f_Pack_31 : FldOK "PackLanes$Packer" 31 4 9 .int 0 := ⟨KR4, KT4, 14, Kt4, by decide, rfl, by decide, Ki4, Kp4, Kn4, (big_t 228 (by decide +kernel) (by decide +kernel)), by decide +kernel, (fun _ => rfl), (fun h => absurd h (by decide))⟩
theorem f_Pack_34 : FldOK "PackLanes$Packer" 34 4 10 .int 0 := ⟨KR4, KT4, 14, Kt4, by decide, rfl, by decide, Ki4, Kp4, Kn4, (big_t 230 (by decide +kernel) (by decide +kernel)), by decide +kernel, (fun _ => rfl), (fun h => absurd h (by decide))⟩
theorem f_Pack_37 : FldOK "PackLanes$Packer" 37 4 11 .int 0 := ⟨KR4, KT4, 14, Kt4, by decide, rfl, by decide, Ki4, Kp4, Kn4, (big_t 232 (by decide +kernel) (by decide +kernel)), by decide +kernel, (fun _ => rfl), (fun h => absurd h (by decide))⟩
theorem f_Pack_40 : FldOK "PackLanes$Packer" 40 4 12 .int 0 := ⟨KR4, KT4, 14, Kt4, by decide, rfl, by decide, Ki4, Kp4, Kn4, (big_t 234 (by decide +kernel) (by decide +kernel)), by decide +kernel, (fun _ => rfl), (fun h => absurd h (by decide))⟩
theorem f_Pack_43 : FldOK "PackLanes$Packer" 43 4 13 .int 0 := ⟨KR4, KT4, 14, Kt4, by decide, rfl, by decide, Ki4, Kp4, Kn4, (big_t 236 (by decide +kernel) (by decide +kernel)), by decide +kernel, (fun _ => rfl), (fun h => absurd h (by decide))⟩
theorem f_Pack_46 : FldOK "PackLanes$Packer" 46 4 0 (.object "PackLanes$Code") 1 := ⟨KR4, KT4, 14, Kt4, by decide, rfl, by decide, Ki4, Kp4, Kn4, (big_t 214 (by decide +kernel) (by decide +kernel)), by decide +kernel, (fun h => absurd h (by decide)), (fun _ => ⟨rfl, rfl⟩)⟩
theorem f_Pack_55 : FldOK "PackLanes$Packer" 55 4 1 (.object "PackLanes$Links") 1 := ⟨KR4, KT4, 14, Kt4, by decide, rfl, by decide, Ki4, Kp4, Kn4, (big_t 215 (by decide +kernel) (by decide +kernel)), by decide +kernel, (fun h => absurd h (by decide)), (fun _ => ⟨rfl, rfl⟩)⟩
theorem f_Pack_64 : FldOK "PackLanes$Packer" 64 4 2 (.object "PackLanes$Tree") 1 := ⟨KR4, KT4, 14, Kt4, by decide, rfl, by decide, Ki4, Kp4, Kn4, (big_t 217 (by decide +kernel) (by decide +kernel)), by decide +kernel, (fun h => absurd h (by decide)), (fun _ => ⟨rfl, rfl⟩)⟩
theorem f_Pack_9 : FldOK "PackLanes$Packer" 9 4 3 .int 0 := ⟨KR4, KT4, 14, Kt4, by decide, rfl, by decide, Ki4, Kp4, Kn4, (big_t 218 (by decide +kernel) (by decide +kernel)), by decide +kernel, (fun _ => rfl), (fun h => absurd h (by decide))⟩
theorem f_Sights_15 : FldOK "PackLanes$Sights" 15 5 1 (.array .int) 1 := ⟨KR5, KT5, 3, Kt5, by decide, rfl, by decide, Ki5, Kp5, Kn5, (big_t 129 (by decide +kernel) (by decide +kernel)), by decide +kernel, (fun h => absurd h (by decide)), (fun _ => ⟨rfl, rfl⟩)⟩
theorem f_Sights_18 : FldOK "PackLanes$Sights" 18 5 2 .int 0 := ⟨KR5, KT5, 3, Kt5, by decide, rfl, by decide, Ki5, Kp5, Kn5, (big_t 130 (by decide +kernel) (by decide +kernel)), by decide +kernel, (fun _ => rfl), (fun h => absurd h (by decide))⟩
theorem f_Sights_9 : FldOK "PackLanes$Sights" 9 5 0 (.array .int) 1 := ⟨KR5, KT5, 3, Kt5, by decide, rfl, by decide, Ki5, Kp5, Kn5, (big_t 128 (by decide +kernel) (by decide +kernel)), by decide +kernel, (fun h => absurd h (by decide)), (fun _ => ⟨rfl, rfl⟩)⟩
theorem f_Slots_17 : FldOK "PackLanes$Slots" 17 6 1 (.array (.array .int)) 1 := ⟨KR6, KT6, 2, Kt6, by decide, rfl, by decide, Ki6, Kp6, Kn6, (big_t 115 (by decide +kernel) (by decide +kernel)), by decide +kernel, (fun h => absurd h (by decide)), (fun _ => ⟨rfl, rfl⟩)⟩
theorem f_Slots_9 : FldOK "PackLanes$Slots" 9 6 0 (.array .boolean) 1 := ⟨KR6, KT6, 2, Kt6, by decide, rfl, by decide, Ki6, Kp6, Kn6, (big_t 113 (by decide +kernel) (by decide +kernel)), by decide +kernel, (fun h => absurd h (by decide)), (fun _ => ⟨rfl, rfl⟩)⟩
theorem f_Src_15 : FldOK "PackLanes$Source" 15 7 1 (.array .int) 1 := ⟨KR7, KT7, 3, Kt7, by decide, rfl, by decide, Ki7, Kp7, Kn7, (big_t 30 (by decide +kernel) (by decide +kernel)), by decide +kernel, (fun h => absurd h (by decide)), (fun _ => ⟨rfl, rfl⟩)⟩
theorem f_Src_18 : FldOK "PackLanes$Source" 18 7 2 .int 0 := ⟨KR7, KT7, 3, Kt7, by decide, rfl, by decide, Ki7, Kp7, Kn7, (big_t 31 (by decide +kernel) (by decide +kernel)), by decide +kernel, (fun _ => rfl), (fun h => absurd h (by decide))⟩
theorem f_Src_9 : FldOK "PackLanes$Source" 9 7 0 (.array .int) 1 := ⟨KR7, KT7, 3, Kt7, by decide, rfl, by decide, Ki7, Kp7, Kn7, (big_t 29 (by decide +kernel) (by decide +kernel)), by decide +kernel, (fun h => absurd h (by decide)), (fun _ => ⟨rfl, rfl⟩)⟩
theorem f_Tree_107 : FldOK "PackLanes$Tree" 107 1 5 (.array .int) 2 := ⟨KR1, KT1, 7, Kt1, by decide, rfl, by decide, Ki1, Kp1, Kn1, (big_t 66 (by decide +kernel) (by decide +kernel)), by decide +kernel, (fun h => absurd h (by decide)), (fun h => absurd h (by decide))⟩
theorem f_Tree_11 : FldOK "PackLanes$Tree" 11 8 2 (.array .int) 1 := ⟨KR8, KT8, 11, Kt8, by decide, rfl, by decide, Ki8, Kp8, Kn8, (big_t 179 (by decide +kernel) (by decide +kernel)), by decide +kernel, (fun h => absurd h (by decide)), (fun _ => ⟨rfl, rfl⟩)⟩
theorem f_Tree_110 : FldOK "PackLanes$Tree" 110 1 4 (.array .int) 2 := ⟨KR1, KT1, 7, Kt1, by decide, rfl, by decide, Ki1, Kp1, Kn1, (big_t 63 (by decide +kernel) (by decide +kernel)), by decide +kernel, (fun h => absurd h (by decide)), (fun h => absurd h (by decide))⟩
theorem f_Tree_15 : FldOK "PackLanes$Tree" 15 8 3 .int 0 := ⟨KR8, KT8, 11, Kt8, by decide, rfl, by decide, Ki8, Kp8, Kn8, (big_t 181 (by decide +kernel) (by decide +kernel)), by decide +kernel, (fun _ => rfl), (fun h => absurd h (by decide))⟩
theorem f_Tree_19 : FldOK "PackLanes$Tree" 19 8 4 .int 0 := ⟨KR8, KT8, 11, Kt8, by decide, rfl, by decide, Ki8, Kp8, Kn8, (big_t 183 (by decide +kernel) (by decide +kernel)), by decide +kernel, (fun _ => rfl), (fun h => absurd h (by decide))⟩
theorem f_Tree_22 : FldOK "PackLanes$Tree" 22 8 5 (.array .int) 1 := ⟨KR8, KT8, 11, Kt8, by decide, rfl, by decide, Ki8, Kp8, Kn8, (big_t 185 (by decide +kernel) (by decide +kernel)), by decide +kernel, (fun h => absurd h (by decide)), (fun _ => ⟨rfl, rfl⟩)⟩
theorem f_Tree_25 : FldOK "PackLanes$Tree" 25 8 6 .int 0 := ⟨KR8, KT8, 11, Kt8, by decide, rfl, by decide, Ki8, Kp8, Kn8, (big_t 186 (by decide +kernel) (by decide +kernel)), by decide +kernel, (fun _ => rfl), (fun h => absurd h (by decide))⟩
theorem f_Tree_28 : FldOK "PackLanes$Tree" 28 8 7 .int 0 := ⟨KR8, KT8, 11, Kt8, by decide, rfl, by decide, Ki8, Kp8, Kn8, (big_t 187 (by decide +kernel) (by decide +kernel)), by decide +kernel, (fun _ => rfl), (fun h => absurd h (by decide))⟩
theorem f_Tree_31 : FldOK "PackLanes$Tree" 31 8 8 .int 0 := ⟨KR8, KT8, 11, Kt8, by decide, rfl, by decide, Ki8, Kp8, Kn8, (big_t 188 (by decide +kernel) (by decide +kernel)), by decide +kernel, (fun _ => rfl), (fun h => absurd h (by decide))⟩
theorem f_Tree_34 : FldOK "PackLanes$Tree" 34 8 9 .int 0 := ⟨KR8, KT8, 11, Kt8, by decide, rfl, by decide, Ki8, Kp8, Kn8, (big_t 189 (by decide +kernel) (by decide +kernel)), by decide +kernel, (fun _ => rfl), (fun h => absurd h (by decide))⟩
theorem f_Tree_37 : FldOK "PackLanes$Tree" 37 8 10 .int 0 := ⟨KR8, KT8, 11, Kt8, by decide, rfl, by decide, Ki8, Kp8, Kn8, (big_t 190 (by decide +kernel) (by decide +kernel)), by decide +kernel, (fun _ => rfl), (fun h => absurd h (by decide))⟩
theorem f_Tree_40 : FldOK "PackLanes$Tree" 40 8 0 (.object "PackLanes$Code") 1 := ⟨KR8, KT8, 11, Kt8, by decide, rfl, by decide, Ki8, Kp8, Kn8, (big_t 177 (by decide +kernel) (by decide +kernel)), by decide +kernel, (fun h => absurd h (by decide)), (fun _ => ⟨rfl, rfl⟩)⟩
theorem f_Tree_44 : FldOK "PackLanes$Tree" 44 8 1 (.object "PackLanes$Links") 1 := ⟨KR8, KT8, 11, Kt8, by decide, rfl, by decide, Ki8, Kp8, Kn8, (big_t 178 (by decide +kernel) (by decide +kernel)), by decide +kernel, (fun h => absurd h (by decide)), (fun _ => ⟨rfl, rfl⟩)⟩
theorem f_Tree_62 : FldOK "PackLanes$Tree" 62 1 6 .int 0 := ⟨KR1, KT1, 7, Kt1, by decide, rfl, by decide, Ki1, Kp1, Kn1, (big_t 70 (by decide +kernel) (by decide +kernel)), by decide +kernel, (fun _ => rfl), (fun h => absurd h (by decide))⟩
theorem f_Tree_71 : FldOK "PackLanes$Tree" 71 1 0 (.array .int) 2 := ⟨KR1, KT1, 7, Kt1, by decide, rfl, by decide, Ki1, Kp1, Kn1, (big_t 48 (by decide +kernel) (by decide +kernel)), by decide +kernel, (fun h => absurd h (by decide)), (fun h => absurd h (by decide))⟩
theorem f_Tree_78 : FldOK "PackLanes$Tree" 78 2 3 (.array .int) 2 := ⟨KR2, KT2, 5, Kt2, by decide, rfl, by decide, Ki2, Kp2, Kn2, (big_t 157 (by decide +kernel) (by decide +kernel)), by decide +kernel, (fun h => absurd h (by decide)), (fun h => absurd h (by decide))⟩
theorem f_PL_10 : FldOK "PackLanes" 10 9 0 (.object "PackLanes$Source") 1 := ⟨KR9, KT9, 15, Kt9, by decide, rfl, by decide, Ki9, Kp9, Kn9, (big_t 443 (by decide +kernel) (by decide +kernel)), by decide +kernel, (fun h => absurd h (by decide)), (fun _ => ⟨rfl, rfl⟩)⟩
theorem f_PL_109 : FldOK "PackLanes" 109 1 6 .int 0 := ⟨KR1, KT1, 7, Kt1, by decide, rfl, by decide, Ki1, Kp1, Kn1, (big_t 71 (by decide +kernel) (by decide +kernel)), by decide +kernel, (fun _ => rfl), (fun h => absurd h (by decide))⟩
theorem f_PL_116 : FldOK "PackLanes" 116 4 13 .int 0 := ⟨KR4, KT4, 14, Kt4, by decide, rfl, by decide, Ki4, Kp4, Kn4, (big_t 237 (by decide +kernel) (by decide +kernel)), by decide +kernel, (fun _ => rfl), (fun h => absurd h (by decide))⟩
theorem f_PL_119 : FldOK "PackLanes" 119 4 10 .int 0 := ⟨KR4, KT4, 14, Kt4, by decide, rfl, by decide, Ki4, Kp4, Kn4, (big_t 231 (by decide +kernel) (by decide +kernel)), by decide +kernel, (fun _ => rfl), (fun h => absurd h (by decide))⟩
theorem f_PL_122 : FldOK "PackLanes" 122 4 11 .int 0 := ⟨KR4, KT4, 14, Kt4, by decide, rfl, by decide, Ki4, Kp4, Kn4, (big_t 233 (by decide +kernel) (by decide +kernel)), by decide +kernel, (fun _ => rfl), (fun h => absurd h (by decide))⟩
theorem f_PL_125 : FldOK "PackLanes" 125 4 12 .int 0 := ⟨KR4, KT4, 14, Kt4, by decide, rfl, by decide, Ki4, Kp4, Kn4, (big_t 235 (by decide +kernel) (by decide +kernel)), by decide +kernel, (fun _ => rfl), (fun h => absurd h (by decide))⟩
theorem f_PL_131 : FldOK "PackLanes" 131 3 3 .int 0 := ⟨KR3, KT3, 5, Kt3, by decide, rfl, by decide, Ki3, Kp3, Kn3, (big_t 279 (by decide +kernel) (by decide +kernel)), by decide +kernel, (fun _ => rfl), (fun h => absurd h (by decide))⟩
theorem f_PL_141 : FldOK "PackLanes" 141 0 2 .int 0 := ⟨KR0, KT0, 3, Kt0, by decide, rfl, by decide, Ki0, Kp0, Kn0, (big_t 97 (by decide +kernel) (by decide +kernel)), by decide +kernel, (fun _ => rfl), (fun h => absurd h (by decide))⟩
theorem f_PL_142 : FldOK "PackLanes" 142 5 2 .int 0 := ⟨KR5, KT5, 3, Kt5, by decide, rfl, by decide, Ki5, Kp5, Kn5, (big_t 131 (by decide +kernel) (by decide +kernel)), by decide +kernel, (fun _ => rfl), (fun h => absurd h (by decide))⟩
theorem f_PL_150 : FldOK "PackLanes" 150 1 0 (.array .int) 2 := ⟨KR1, KT1, 7, Kt1, by decide, rfl, by decide, Ki1, Kp1, Kn1, (big_t 52 (by decide +kernel) (by decide +kernel)), by decide +kernel, (fun h => absurd h (by decide)), (fun h => absurd h (by decide))⟩
theorem f_PL_153 : FldOK "PackLanes" 153 4 5 (.array .int) 2 := ⟨KR4, KT4, 14, Kt4, by decide, rfl, by decide, Ki4, Kp4, Kn4, (big_t 221 (by decide +kernel) (by decide +kernel)), by decide +kernel, (fun h => absurd h (by decide)), (fun h => absurd h (by decide))⟩
theorem f_PL_156 : FldOK "PackLanes" 156 4 6 (.array .int) 2 := ⟨KR4, KT4, 14, Kt4, by decide, rfl, by decide, Ki4, Kp4, Kn4, (big_t 223 (by decide +kernel) (by decide +kernel)), by decide +kernel, (fun h => absurd h (by decide)), (fun h => absurd h (by decide))⟩
theorem f_PL_159 : FldOK "PackLanes" 159 4 7 (.array .int) 2 := ⟨KR4, KT4, 14, Kt4, by decide, rfl, by decide, Ki4, Kp4, Kn4, (big_t 225 (by decide +kernel) (by decide +kernel)), by decide +kernel, (fun h => absurd h (by decide)), (fun h => absurd h (by decide))⟩
theorem f_PL_162 : FldOK "PackLanes" 162 4 1 (.object "PackLanes$Links") 2 := ⟨KR4, KT4, 14, Kt4, by decide, rfl, by decide, Ki4, Kp4, Kn4, (big_t 216 (by decide +kernel) (by decide +kernel)), by decide +kernel, (fun h => absurd h (by decide)), (fun h => absurd h (by decide))⟩
theorem f_PL_166 : FldOK "PackLanes" 166 2 2 (.array .int) 2 := ⟨KR2, KT2, 5, Kt2, by decide, rfl, by decide, Ki2, Kp2, Kn2, (big_t 155 (by decide +kernel) (by decide +kernel)), by decide +kernel, (fun h => absurd h (by decide)), (fun h => absurd h (by decide))⟩
theorem f_PL_176 : FldOK "PackLanes" 176 3 2 (.array .int) 2 := ⟨KR3, KT3, 5, Kt3, by decide, rfl, by decide, Ki3, Kp3, Kn3, (big_t 277 (by decide +kernel) (by decide +kernel)), by decide +kernel, (fun h => absurd h (by decide)), (fun h => absurd h (by decide))⟩
theorem f_PL_179 : FldOK "PackLanes" 179 3 1 (.array .int) 2 := ⟨KR3, KT3, 5, Kt3, by decide, rfl, by decide, Ki3, Kp3, Kn3, (big_t 275 (by decide +kernel) (by decide +kernel)), by decide +kernel, (fun h => absurd h (by decide)), (fun h => absurd h (by decide))⟩
theorem f_PL_19 : FldOK "PackLanes" 19 9 1 (.object "PackLanes$Code") 1 := ⟨KR9, KT9, 15, Kt9, by decide, rfl, by decide, Ki9, Kp9, Kn9, (big_t 444 (by decide +kernel) (by decide +kernel)), by decide +kernel, (fun h => absurd h (by decide)), (fun _ => ⟨rfl, rfl⟩)⟩
theorem f_PL_23 : FldOK "PackLanes" 23 9 2 (.object "PackLanes$Code") 1 := ⟨KR9, KT9, 15, Kt9, by decide, rfl, by decide, Ki9, Kp9, Kn9, (big_t 445 (by decide +kernel) (by decide +kernel)), by decide +kernel, (fun h => absurd h (by decide)), (fun _ => ⟨rfl, rfl⟩)⟩
theorem f_PL_256 : FldOK "PackLanes" 256 6 0 (.array .boolean) 2 := ⟨KR6, KT6, 2, Kt6, by decide, rfl, by decide, Ki6, Kp6, Kn6, (big_t 114 (by decide +kernel) (by decide +kernel)), by decide +kernel, (fun h => absurd h (by decide)), (fun h => absurd h (by decide))⟩
theorem f_PL_26 : FldOK "PackLanes" 26 9 3 (.array .int) 1 := ⟨KR9, KT9, 15, Kt9, by decide, rfl, by decide, Ki9, Kp9, Kn9, (big_t 446 (by decide +kernel) (by decide +kernel)), by decide +kernel, (fun h => absurd h (by decide)), (fun _ => ⟨rfl, rfl⟩)⟩
theorem f_PL_30 : FldOK "PackLanes" 30 9 4 (.array .int) 1 := ⟨KR9, KT9, 15, Kt9, by decide, rfl, by decide, Ki9, Kp9, Kn9, (big_t 447 (by decide +kernel) (by decide +kernel)), by decide +kernel, (fun h => absurd h (by decide)), (fun _ => ⟨rfl, rfl⟩)⟩
theorem f_PL_33 : FldOK "PackLanes" 33 9 5 (.array .int) 1 := ⟨KR9, KT9, 15, Kt9, by decide, rfl, by decide, Ki9, Kp9, Kn9, (big_t 448 (by decide +kernel) (by decide +kernel)), by decide +kernel, (fun h => absurd h (by decide)), (fun _ => ⟨rfl, rfl⟩)⟩
theorem f_PL_36 : FldOK "PackLanes" 36 9 6 (.array .int) 1 := ⟨KR9, KT9, 15, Kt9, by decide, rfl, by decide, Ki9, Kp9, Kn9, (big_t 449 (by decide +kernel) (by decide +kernel)), by decide +kernel, (fun h => absurd h (by decide)), (fun _ => ⟨rfl, rfl⟩)⟩
theorem f_PL_42 : FldOK "PackLanes" 42 9 7 (.object "PackLanes$Acts") 1 := ⟨KR9, KT9, 15, Kt9, by decide, rfl, by decide, Ki9, Kp9, Kn9, (big_t 450 (by decide +kernel) (by decide +kernel)), by decide +kernel, (fun h => absurd h (by decide)), (fun _ => ⟨rfl, rfl⟩)⟩
theorem f_PL_49 : FldOK "PackLanes" 49 9 8 (.object "PackLanes$Slots") 1 := ⟨KR9, KT9, 15, Kt9, by decide, rfl, by decide, Ki9, Kp9, Kn9, (big_t 451 (by decide +kernel) (by decide +kernel)), by decide +kernel, (fun h => absurd h (by decide)), (fun _ => ⟨rfl, rfl⟩)⟩
theorem f_PL_56 : FldOK "PackLanes" 56 9 9 (.object "PackLanes$Sights") 1 := ⟨KR9, KT9, 15, Kt9, by decide, rfl, by decide, Ki9, Kp9, Kn9, (big_t 452 (by decide +kernel) (by decide +kernel)), by decide +kernel, (fun h => absurd h (by decide)), (fun _ => ⟨rfl, rfl⟩)⟩
theorem f_PL_65 : FldOK "PackLanes" 65 9 10 (.object "PackLanes$Packer") 1 := ⟨KR9, KT9, 15, Kt9, by decide, rfl, by decide, Ki9, Kp9, Kn9, (big_t 453 (by decide +kernel) (by decide +kernel)), by decide +kernel, (fun h => absurd h (by decide)), (fun _ => ⟨rfl, rfl⟩)⟩
theorem f_PL_69 : FldOK "PackLanes" 69 9 11 (.object "PackLanes$Packer") 1 := ⟨KR9, KT9, 15, Kt9, by decide, rfl, by decide, Ki9, Kp9, Kn9, (big_t 454 (by decide +kernel) (by decide +kernel)), by decide +kernel, (fun h => absurd h (by decide)), (fun _ => ⟨rfl, rfl⟩)⟩
theorem f_PL_75 : FldOK "PackLanes" 75 9 12 (.object "PackLanes$Machine") 1 := ⟨KR9, KT9, 15, Kt9, by decide, rfl, by decide, Ki9, Kp9, Kn9, (big_t 455 (by decide +kernel) (by decide +kernel)), by decide +kernel, (fun h => absurd h (by decide)), (fun _ => ⟨rfl, rfl⟩)⟩
theorem f_PL_79 : FldOK "PackLanes" 79 9 13 (.array .int) 1 := ⟨KR9, KT9, 15, Kt9, by decide, rfl, by decide, Ki9, Kp9, Kn9, (big_t 456 (by decide +kernel) (by decide +kernel)), by decide +kernel, (fun h => absurd h (by decide)), (fun _ => ⟨rfl, rfl⟩)⟩
theorem f_PL_82 : FldOK "PackLanes" 82 9 14 .long 0 := ⟨KR9, KT9, 15, Kt9, by decide, rfl, by decide, Ki9, Kp9, Kn9, (big_t 457 (by decide +kernel) (by decide +kernel)), by decide +kernel, (fun _ => rfl), (fun h => absurd h (by decide))⟩
theorem f_R_111 : FldOK "PackLanesModel" 111 10 1 .int 0 := ⟨KR10, KT10, 50, Kt10, by decide, rfl, by decide, Ki10, Kp10, Kn10, (big_t 752 (by decide +kernel) (by decide +kernel)), by decide +kernel, (fun _ => rfl), (fun h => absurd h (by decide))⟩
theorem f_R_114 : FldOK "PackLanesModel" 114 10 43 .int 0 := ⟨KR10, KT10, 50, Kt10, by decide, rfl, by decide, Ki10, Kp10, Kn10, (big_t 794 (by decide +kernel) (by decide +kernel)), by decide +kernel, (fun _ => rfl), (fun h => absurd h (by decide))⟩
theorem f_R_117 : FldOK "PackLanesModel" 117 10 49 .int 0 := ⟨KR10, KT10, 50, Kt10, by decide, rfl, by decide, Ki10, Kp10, Kn10, (big_t 800 (by decide +kernel) (by decide +kernel)), by decide +kernel, (fun _ => rfl), (fun h => absurd h (by decide))⟩
theorem f_R_120 : FldOK "PackLanesModel" 120 10 40 .int 0 := ⟨KR10, KT10, 50, Kt10, by decide, rfl, by decide, Ki10, Kp10, Kn10, (big_t 791 (by decide +kernel) (by decide +kernel)), by decide +kernel, (fun _ => rfl), (fun h => absurd h (by decide))⟩
theorem f_R_125 : FldOK "PackLanesModel" 125 10 41 .int 0 := ⟨KR10, KT10, 50, Kt10, by decide, rfl, by decide, Ki10, Kp10, Kn10, (big_t 792 (by decide +kernel) (by decide +kernel)), by decide +kernel, (fun _ => rfl), (fun h => absurd h (by decide))⟩
theorem f_R_128 : FldOK "PackLanesModel" 128 10 42 .int 0 := ⟨KR10, KT10, 50, Kt10, by decide, rfl, by decide, Ki10, Kp10, Kn10, (big_t 793 (by decide +kernel) (by decide +kernel)), by decide +kernel, (fun _ => rfl), (fun h => absurd h (by decide))⟩
theorem f_R_13 : FldOK "PackLanesModel" 13 10 3 (.array .int) 1 := ⟨KR10, KT10, 50, Kt10, by decide, rfl, by decide, Ki10, Kp10, Kn10, (big_t 754 (by decide +kernel) (by decide +kernel)), by decide +kernel, (fun h => absurd h (by decide)), (fun _ => ⟨rfl, rfl⟩)⟩
theorem f_R_131 : FldOK "PackLanesModel" 131 10 48 .int 0 := ⟨KR10, KT10, 50, Kt10, by decide, rfl, by decide, Ki10, Kp10, Kn10, (big_t 799 (by decide +kernel) (by decide +kernel)), by decide +kernel, (fun _ => rfl), (fun h => absurd h (by decide))⟩
theorem f_R_16 : FldOK "PackLanesModel" 16 10 4 (.array .int) 1 := ⟨KR10, KT10, 50, Kt10, by decide, rfl, by decide, Ki10, Kp10, Kn10, (big_t 755 (by decide +kernel) (by decide +kernel)), by decide +kernel, (fun h => absurd h (by decide)), (fun _ => ⟨rfl, rfl⟩)⟩
theorem f_R_173 : FldOK "PackLanesModel" 173 10 10 .int 0 := ⟨KR10, KT10, 50, Kt10, by decide, rfl, by decide, Ki10, Kp10, Kn10, (big_t 761 (by decide +kernel) (by decide +kernel)), by decide +kernel, (fun _ => rfl), (fun h => absurd h (by decide))⟩
theorem f_R_187 : FldOK "PackLanesModel" 187 10 18 .int 0 := ⟨KR10, KT10, 50, Kt10, by decide, rfl, by decide, Ki10, Kp10, Kn10, (big_t 769 (by decide +kernel) (by decide +kernel)), by decide +kernel, (fun _ => rfl), (fun h => absurd h (by decide))⟩
theorem f_R_19 : FldOK "PackLanesModel" 19 10 5 (.array .int) 1 := ⟨KR10, KT10, 50, Kt10, by decide, rfl, by decide, Ki10, Kp10, Kn10, (big_t 756 (by decide +kernel) (by decide +kernel)), by decide +kernel, (fun h => absurd h (by decide)), (fun _ => ⟨rfl, rfl⟩)⟩
theorem f_R_207 : FldOK "PackLanesModel" 207 10 19 .int 0 := ⟨KR10, KT10, 50, Kt10, by decide, rfl, by decide, Ki10, Kp10, Kn10, (big_t 770 (by decide +kernel) (by decide +kernel)), by decide +kernel, (fun _ => rfl), (fun h => absurd h (by decide))⟩
theorem f_R_210 : FldOK "PackLanesModel" 210 10 29 .int 0 := ⟨KR10, KT10, 50, Kt10, by decide, rfl, by decide, Ki10, Kp10, Kn10, (big_t 780 (by decide +kernel) (by decide +kernel)), by decide +kernel, (fun _ => rfl), (fun h => absurd h (by decide))⟩
theorem f_R_213 : FldOK "PackLanesModel" 213 10 31 .int 0 := ⟨KR10, KT10, 50, Kt10, by decide, rfl, by decide, Ki10, Kp10, Kn10, (big_t 782 (by decide +kernel) (by decide +kernel)), by decide +kernel, (fun _ => rfl), (fun h => absurd h (by decide))⟩
theorem f_R_22 : FldOK "PackLanesModel" 22 10 6 (.array .int) 1 := ⟨KR10, KT10, 50, Kt10, by decide, rfl, by decide, Ki10, Kp10, Kn10, (big_t 757 (by decide +kernel) (by decide +kernel)), by decide +kernel, (fun h => absurd h (by decide)), (fun _ => ⟨rfl, rfl⟩)⟩
theorem f_R_232 : FldOK "PackLanesModel" 232 10 33 .int 0 := ⟨KR10, KT10, 50, Kt10, by decide, rfl, by decide, Ki10, Kp10, Kn10, (big_t 784 (by decide +kernel) (by decide +kernel)), by decide +kernel, (fun _ => rfl), (fun h => absurd h (by decide))⟩
theorem f_R_238 : FldOK "PackLanesModel" 238 10 32 .int 0 := ⟨KR10, KT10, 50, Kt10, by decide, rfl, by decide, Ki10, Kp10, Kn10, (big_t 783 (by decide +kernel) (by decide +kernel)), by decide +kernel, (fun _ => rfl), (fun h => absurd h (by decide))⟩
theorem f_R_25 : FldOK "PackLanesModel" 25 10 7 (.array .int) 1 := ⟨KR10, KT10, 50, Kt10, by decide, rfl, by decide, Ki10, Kp10, Kn10, (big_t 758 (by decide +kernel) (by decide +kernel)), by decide +kernel, (fun h => absurd h (by decide)), (fun _ => ⟨rfl, rfl⟩)⟩
theorem f_R_253 : FldOK "PackLanesModel" 253 10 24 .int 0 := ⟨KR10, KT10, 50, Kt10, by decide, rfl, by decide, Ki10, Kp10, Kn10, (big_t 775 (by decide +kernel) (by decide +kernel)), by decide +kernel, (fun _ => rfl), (fun h => absurd h (by decide))⟩
theorem f_R_256 : FldOK "PackLanesModel" 256 10 25 .int 0 := ⟨KR10, KT10, 50, Kt10, by decide, rfl, by decide, Ki10, Kp10, Kn10, (big_t 776 (by decide +kernel) (by decide +kernel)), by decide +kernel, (fun _ => rfl), (fun h => absurd h (by decide))⟩
theorem f_R_259 : FldOK "PackLanesModel" 259 10 26 .int 0 := ⟨KR10, KT10, 50, Kt10, by decide, rfl, by decide, Ki10, Kp10, Kn10, (big_t 777 (by decide +kernel) (by decide +kernel)), by decide +kernel, (fun _ => rfl), (fun h => absurd h (by decide))⟩
theorem f_R_28 : FldOK "PackLanesModel" 28 10 8 (.array .int) 1 := ⟨KR10, KT10, 50, Kt10, by decide, rfl, by decide, Ki10, Kp10, Kn10, (big_t 759 (by decide +kernel) (by decide +kernel)), by decide +kernel, (fun h => absurd h (by decide)), (fun _ => ⟨rfl, rfl⟩)⟩
theorem f_R_293 : FldOK "PackLanesModel" 293 10 37 .int 0 := ⟨KR10, KT10, 50, Kt10, by decide, rfl, by decide, Ki10, Kp10, Kn10, (big_t 788 (by decide +kernel) (by decide +kernel)), by decide +kernel, (fun _ => rfl), (fun h => absurd h (by decide))⟩
theorem f_R_31 : FldOK "PackLanesModel" 31 10 9 (.array .int) 1 := ⟨KR10, KT10, 50, Kt10, by decide, rfl, by decide, Ki10, Kp10, Kn10, (big_t 760 (by decide +kernel) (by decide +kernel)), by decide +kernel, (fun h => absurd h (by decide)), (fun _ => ⟨rfl, rfl⟩)⟩
theorem f_R_326 : FldOK "PackLanesModel" 326 10 16 .int 0 := ⟨KR10, KT10, 50, Kt10, by decide, rfl, by decide, Ki10, Kp10, Kn10, (big_t 767 (by decide +kernel) (by decide +kernel)), by decide +kernel, (fun _ => rfl), (fun h => absurd h (by decide))⟩
theorem f_R_34 : FldOK "PackLanesModel" 34 10 12 (.array .int) 1 := ⟨KR10, KT10, 50, Kt10, by decide, rfl, by decide, Ki10, Kp10, Kn10, (big_t 763 (by decide +kernel) (by decide +kernel)), by decide +kernel, (fun h => absurd h (by decide)), (fun _ => ⟨rfl, rfl⟩)⟩
theorem f_R_341 : FldOK "PackLanesModel" 341 10 11 .int 0 := ⟨KR10, KT10, 50, Kt10, by decide, rfl, by decide, Ki10, Kp10, Kn10, (big_t 762 (by decide +kernel) (by decide +kernel)), by decide +kernel, (fun _ => rfl), (fun h => absurd h (by decide))⟩
theorem f_R_37 : FldOK "PackLanesModel" 37 10 13 (.array .boolean) 1 := ⟨KR10, KT10, 50, Kt10, by decide, rfl, by decide, Ki10, Kp10, Kn10, (big_t 764 (by decide +kernel) (by decide +kernel)), by decide +kernel, (fun h => absurd h (by decide)), (fun _ => ⟨rfl, rfl⟩)⟩
theorem f_R_390 : FldOK "PackLanesModel" 390 10 17 .long 0 := ⟨KR10, KT10, 50, Kt10, by decide, rfl, by decide, Ki10, Kp10, Kn10, (big_t 768 (by decide +kernel) (by decide +kernel)), by decide +kernel, (fun _ => rfl), (fun h => absurd h (by decide))⟩
theorem f_R_41 : FldOK "PackLanesModel" 41 10 14 (.array .int) 1 := ⟨KR10, KT10, 50, Kt10, by decide, rfl, by decide, Ki10, Kp10, Kn10, (big_t 765 (by decide +kernel) (by decide +kernel)), by decide +kernel, (fun h => absurd h (by decide)), (fun _ => ⟨rfl, rfl⟩)⟩
theorem f_R_44 : FldOK "PackLanesModel" 44 10 15 (.array .int) 1 := ⟨KR10, KT10, 50, Kt10, by decide, rfl, by decide, Ki10, Kp10, Kn10, (big_t 766 (by decide +kernel) (by decide +kernel)), by decide +kernel, (fun h => absurd h (by decide)), (fun _ => ⟨rfl, rfl⟩)⟩
theorem f_R_47 : FldOK "PackLanesModel" 47 10 20 (.array .int) 1 := ⟨KR10, KT10, 50, Kt10, by decide, rfl, by decide, Ki10, Kp10, Kn10, (big_t 771 (by decide +kernel) (by decide +kernel)), by decide +kernel, (fun h => absurd h (by decide)), (fun _ => ⟨rfl, rfl⟩)⟩
theorem f_R_50 : FldOK "PackLanesModel" 50 10 21 (.array .int) 1 := ⟨KR10, KT10, 50, Kt10, by decide, rfl, by decide, Ki10, Kp10, Kn10, (big_t 772 (by decide +kernel) (by decide +kernel)), by decide +kernel, (fun h => absurd h (by decide)), (fun _ => ⟨rfl, rfl⟩)⟩
theorem f_R_53 : FldOK "PackLanesModel" 53 10 22 (.array .int) 1 := ⟨KR10, KT10, 50, Kt10, by decide, rfl, by decide, Ki10, Kp10, Kn10, (big_t 773 (by decide +kernel) (by decide +kernel)), by decide +kernel, (fun h => absurd h (by decide)), (fun _ => ⟨rfl, rfl⟩)⟩
theorem f_R_56 : FldOK "PackLanesModel" 56 10 23 (.array .int) 1 := ⟨KR10, KT10, 50, Kt10, by decide, rfl, by decide, Ki10, Kp10, Kn10, (big_t 774 (by decide +kernel) (by decide +kernel)), by decide +kernel, (fun h => absurd h (by decide)), (fun _ => ⟨rfl, rfl⟩)⟩
theorem f_R_59 : FldOK "PackLanesModel" 59 10 27 (.array .int) 1 := ⟨KR10, KT10, 50, Kt10, by decide, rfl, by decide, Ki10, Kp10, Kn10, (big_t 778 (by decide +kernel) (by decide +kernel)), by decide +kernel, (fun h => absurd h (by decide)), (fun _ => ⟨rfl, rfl⟩)⟩
theorem f_R_62 : FldOK "PackLanesModel" 62 10 28 (.array .int) 1 := ⟨KR10, KT10, 50, Kt10, by decide, rfl, by decide, Ki10, Kp10, Kn10, (big_t 779 (by decide +kernel) (by decide +kernel)), by decide +kernel, (fun h => absurd h (by decide)), (fun _ => ⟨rfl, rfl⟩)⟩
theorem f_R_65 : FldOK "PackLanesModel" 65 10 30 (.array .int) 1 := ⟨KR10, KT10, 50, Kt10, by decide, rfl, by decide, Ki10, Kp10, Kn10, (big_t 781 (by decide +kernel) (by decide +kernel)), by decide +kernel, (fun h => absurd h (by decide)), (fun _ => ⟨rfl, rfl⟩)⟩
theorem f_R_68 : FldOK "PackLanesModel" 68 10 34 (.array .int) 1 := ⟨KR10, KT10, 50, Kt10, by decide, rfl, by decide, Ki10, Kp10, Kn10, (big_t 785 (by decide +kernel) (by decide +kernel)), by decide +kernel, (fun h => absurd h (by decide)), (fun _ => ⟨rfl, rfl⟩)⟩
theorem f_R_7 : FldOK "PackLanesModel" 7 10 0 (.array .int) 1 := ⟨KR10, KT10, 50, Kt10, by decide, rfl, by decide, Ki10, Kp10, Kn10, (big_t 751 (by decide +kernel) (by decide +kernel)), by decide +kernel, (fun h => absurd h (by decide)), (fun _ => ⟨rfl, rfl⟩)⟩
theorem f_R_71 : FldOK "PackLanesModel" 71 10 35 (.array .int) 1 := ⟨KR10, KT10, 50, Kt10, by decide, rfl, by decide, Ki10, Kp10, Kn10, (big_t 786 (by decide +kernel) (by decide +kernel)), by decide +kernel, (fun h => absurd h (by decide)), (fun _ => ⟨rfl, rfl⟩)⟩
theorem f_R_74 : FldOK "PackLanesModel" 74 10 36 (.array .int) 1 := ⟨KR10, KT10, 50, Kt10, by decide, rfl, by decide, Ki10, Kp10, Kn10, (big_t 787 (by decide +kernel) (by decide +kernel)), by decide +kernel, (fun h => absurd h (by decide)), (fun _ => ⟨rfl, rfl⟩)⟩
theorem f_R_77 : FldOK "PackLanesModel" 77 10 38 (.array .int) 1 := ⟨KR10, KT10, 50, Kt10, by decide, rfl, by decide, Ki10, Kp10, Kn10, (big_t 789 (by decide +kernel) (by decide +kernel)), by decide +kernel, (fun h => absurd h (by decide)), (fun _ => ⟨rfl, rfl⟩)⟩
theorem f_R_80 : FldOK "PackLanesModel" 80 10 39 (.array .int) 1 := ⟨KR10, KT10, 50, Kt10, by decide, rfl, by decide, Ki10, Kp10, Kn10, (big_t 790 (by decide +kernel) (by decide +kernel)), by decide +kernel, (fun h => absurd h (by decide)), (fun _ => ⟨rfl, rfl⟩)⟩
theorem f_R_83 : FldOK "PackLanesModel" 83 10 44 (.array .int) 1 := ⟨KR10, KT10, 50, Kt10, by decide, rfl, by decide, Ki10, Kp10, Kn10, (big_t 795 (by decide +kernel) (by decide +kernel)), by decide +kernel, (fun h => absurd h (by decide)), (fun _ => ⟨rfl, rfl⟩)⟩
theorem f_R_86 : FldOK "PackLanesModel" 86 10 45 (.array .int) 1 := ⟨KR10, KT10, 50, Kt10, by decide, rfl, by decide, Ki10, Kp10, Kn10, (big_t 796 (by decide +kernel) (by decide +kernel)), by decide +kernel, (fun h => absurd h (by decide)), (fun _ => ⟨rfl, rfl⟩)⟩
theorem f_R_89 : FldOK "PackLanesModel" 89 10 46 (.array .int) 1 := ⟨KR10, KT10, 50, Kt10, by decide, rfl, by decide, Ki10, Kp10, Kn10, (big_t 797 (by decide +kernel) (by decide +kernel)), by decide +kernel, (fun h => absurd h (by decide)), (fun _ => ⟨rfl, rfl⟩)⟩
theorem f_R_92 : FldOK "PackLanesModel" 92 10 47 (.array .int) 1 := ⟨KR10, KT10, 50, Kt10, by decide, rfl, by decide, Ki10, Kp10, Kn10, (big_t 798 (by decide +kernel) (by decide +kernel)), by decide +kernel, (fun h => absurd h (by decide)), (fun _ => ⟨rfl, rfl⟩)⟩
theorem f_R_99 : FldOK "PackLanesModel" 99 10 2 .int 0 := ⟨KR10, KT10, 50, Kt10, by decide, rfl, by decide, Ki10, Kp10, Kn10, (big_t 753 (by decide +kernel) (by decide +kernel)), by decide +kernel, (fun _ => rfl), (fun h => absurd h (by decide))⟩
theorem w_k_Slots_15 : Cond.classLink "PackLanes$Slots" 15 "[[I" ∈ BIG := (big_t 111 (by decide +kernel) (by decide +kernel))
theorem n_Pack_50 : NewOK "PackLanes$Packer" 50 2 [.null, .null, .null, .null, .int 0] := ⟨KR2, KT2, 5, Kt2, by decide, rfl, Ki2, Kp2, (big_t 145 (by decide +kernel) (by decide +kernel)), (big_t 146 (by decide +kernel) (by decide +kernel)), (big_t 8 (by decide +kernel) (by decide +kernel)), fun _ => rfl, rfl, by decide +kernel⟩
theorem n_Pack_59 : NewOK "PackLanes$Packer" 59 8 [.null, .null, .null, .int 0, .int 0, .null, .int 0, .int 0, .int 0, .int 0, .int 0] := ⟨KR8, KT8, 11, Kt8, by decide, rfl, Ki8, Kp8, (big_t 171 (by decide +kernel) (by decide +kernel)), (big_t 172 (by decide +kernel) (by decide +kernel)), (big_t 9 (by decide +kernel) (by decide +kernel)), fun _ => rfl, rfl, by decide +kernel⟩
theorem n_PL_16 : NewOK "PackLanes" 16 1 [.null, .null, .null, .null, .null, .null, .int 0] := ⟨KR1, KT1, 7, Kt1, by decide, rfl, Ki1, Kp1, (big_t 41 (by decide +kernel) (by decide +kernel)), (big_t 42 (by decide +kernel) (by decide +kernel)), (big_t 3 (by decide +kernel) (by decide +kernel)), fun _ => rfl, rfl, by decide +kernel⟩
theorem n_PL_39 : NewOK "PackLanes" 39 0 [.null, .null, .int 0] := ⟨KR0, KT0, 3, Kt0, by decide, rfl, Ki0, Kp0, (big_t 88 (by decide +kernel) (by decide +kernel)), (big_t 89 (by decide +kernel) (by decide +kernel)), (big_t 4 (by decide +kernel) (by decide +kernel)), fun _ => rfl, rfl, by decide +kernel⟩
theorem n_PL_46 : NewOK "PackLanes" 46 6 [.null, .null] := ⟨KR6, KT6, 2, Kt6, by decide, rfl, Ki6, Kp6, (big_t 105 (by decide +kernel) (by decide +kernel)), (big_t 106 (by decide +kernel) (by decide +kernel)), (big_t 5 (by decide +kernel) (by decide +kernel)), fun _ => rfl, rfl, by decide +kernel⟩
theorem n_PL_53 : NewOK "PackLanes" 53 5 [.null, .null, .int 0] := ⟨KR5, KT5, 3, Kt5, by decide, rfl, Ki5, Kp5, (big_t 122 (by decide +kernel) (by decide +kernel)), (big_t 123 (by decide +kernel) (by decide +kernel)), (big_t 6 (by decide +kernel) (by decide +kernel)), fun _ => rfl, rfl, by decide +kernel⟩
theorem n_PL_60 : NewOK "PackLanes" 60 4 [.null, .null, .null, .int 0, .null, .null, .null, .null, .null, .int 0, .int 0, .int 0, .int 0, .int 0] := ⟨KR4, KT4, 14, Kt4, by decide, rfl, Ki4, Kp4, (big_t 139 (by decide +kernel) (by decide +kernel)), (big_t 140 (by decide +kernel) (by decide +kernel)), (big_t 7 (by decide +kernel) (by decide +kernel)), fun _ => rfl, rfl, by decide +kernel⟩
theorem n_PL_7 : NewOK "PackLanes" 7 7 [.null, .null, .int 0] := ⟨KR7, KT7, 3, Kt7, by decide, rfl, Ki7, Kp7, (big_t 23 (by decide +kernel) (by decide +kernel)), (big_t 24 (by decide +kernel) (by decide +kernel)), (big_t 2 (by decide +kernel) (by decide +kernel)), fun _ => rfl, rfl, by decide +kernel⟩
theorem n_PL_72 : NewOK "PackLanes" 72 3 [.null, .null, .null, .int 0, .int 0] := ⟨KR3, KT3, 5, Kt3, by decide, rfl, Ki3, Kp3, (big_t 267 (by decide +kernel) (by decide +kernel)), (big_t 268 (by decide +kernel) (by decide +kernel)), (big_t 10 (by decide +kernel) (by decide +kernel)), fun _ => rfl, rfl, by decide +kernel⟩
theorem w_o_Acts_3 : Cond.methodLink "PackLanes$Acts" 3 Lib.objectInit ∈ BIG := (big_t 93 (by decide +kernel) (by decide +kernel))
theorem w_o_Code_3 : Cond.methodLink "PackLanes$Code" 3 Lib.objectInit ∈ BIG := (big_t 46 (by decide +kernel) (by decide +kernel))
theorem w_o_Links_3 : Cond.methodLink "PackLanes$Links" 3 Lib.objectInit ∈ BIG := (big_t 150 (by decide +kernel) (by decide +kernel))
theorem w_o_Mach_3 : Cond.methodLink "PackLanes$Machine" 3 Lib.objectInit ∈ BIG := (big_t 272 (by decide +kernel) (by decide +kernel))
theorem w_o_Pack_3 : Cond.methodLink "PackLanes$Packer" 3 Lib.objectInit ∈ BIG := (big_t 144 (by decide +kernel) (by decide +kernel))
theorem w_o_Sights_3 : Cond.methodLink "PackLanes$Sights" 3 Lib.objectInit ∈ BIG := (big_t 127 (by decide +kernel) (by decide +kernel))
theorem w_o_Slots_3 : Cond.methodLink "PackLanes$Slots" 3 Lib.objectInit ∈ BIG := (big_t 110 (by decide +kernel) (by decide +kernel))
theorem w_o_Src_3 : Cond.methodLink "PackLanes$Source" 3 Lib.objectInit ∈ BIG := (big_t 28 (by decide +kernel) (by decide +kernel))
theorem w_o_Tree_3 : Cond.methodLink "PackLanes$Tree" 3 Lib.objectInit ∈ BIG := (big_t 176 (by decide +kernel) (by decide +kernel))
theorem w_o_PL_1 : Cond.methodLink "PackLanes" 1 Lib.objectInit ∈ BIG := (big_t 20 (by decide +kernel) (by decide +kernel))
theorem w_o_R_1 : Cond.methodLink "PackLanesModel" 1 Lib.objectInit ∈ BIG := (big_t 747 (by decide +kernel) (by decide +kernel))
theorem w_s_PL_236 : Cond.fieldLink "PackLanes" 236 "PackLanes" "FACTORIALS" "[I" ∈ BIG := (big_t 692 (by decide +kernel) (by decide +kernel))
theorem w_fn_PL_143 : Cond.fieldLinkNest "PackLanes" 143 (KT7 2).1 (KT7 2).2.1 (KT7 2).2.2.1 "PackLanes" ∈ BIGN := (big_n 32 (by decide +kernel) (by decide +kernel))
