/-! THE JUDGEMENT wA: from this place of a method, with these locals, this stack and this abstract heap, the method comes to an end that its caller allows. -/
abbrev KT : Type := Program × Launch × Env × Room × State × MethodId × Array Value × List Frame × Method × Code × (State → Prop) × GT × Nat × Nat × Nat × String × Option FieldType × (Option Value → HV → Prop)
abbrev k_p (κ : KT) : Program := κ.1
abbrev k_l (κ : KT) : Launch := κ.2.1
abbrev k_e (κ : KT) : Env := κ.2.2.1
abbrev k_R (κ : KT) : Room := κ.2.2.2.1
abbrev k_s (κ : KT) : State := κ.2.2.2.2.1
abbrev k_m (κ : KT) : MethodId := κ.2.2.2.2.2.1
abbrev k_a (κ : KT) : Array Value := κ.2.2.2.2.2.2.1
abbrev k_b (κ : KT) : List Frame := κ.2.2.2.2.2.2.2.1
abbrev k_me (κ : KT) : Method := κ.2.2.2.2.2.2.2.2.1
abbrev k_c (κ : KT) : Code := κ.2.2.2.2.2.2.2.2.2.1
abbrev k_Q (κ : KT) : State → Prop := κ.2.2.2.2.2.2.2.2.2.2.1
abbrev k_G (κ : KT) : GT := κ.2.2.2.2.2.2.2.2.2.2.2.1
abbrev k_nL (κ : KT) : Nat := κ.2.2.2.2.2.2.2.2.2.2.2.2.1
abbrev k_n0 (κ : KT) : Nat := κ.2.2.2.2.2.2.2.2.2.2.2.2.2.1
abbrev k_t0 (κ : KT) : Nat := κ.2.2.2.2.2.2.2.2.2.2.2.2.2.2.1
abbrev k_own (κ : KT) : String := κ.2.2.2.2.2.2.2.2.2.2.2.2.2.2.2.1
abbrev k_rt (κ : KT) : Option FieldType := κ.2.2.2.2.2.2.2.2.2.2.2.2.2.2.2.2.1
abbrev k_ret (κ : KT) : Option Value → HV → Prop := κ.2.2.2.2.2.2.2.2.2.2.2.2.2.2.2.2.2
def facs : List Int32 := [1, 1, 2, 6, 24, 120, 720]
def facV : List Value := facs.map Value.int
def facF (j : Nat) : Value := .int (facs.getD j 0)
abbrev g_tys (G : GT) : List (ClassId × FieldType) := [(g_I G, .int), (g_Z G, .boolean), (g_R G, .array .int)]
/-- the world: what a real heap is when the abstract one is h -/
def Wo (G : GT) (h : HV) (H : Heap) : Prop := H.size + 2 = g_base G + h.length ∧ 2 ≤ h.length ∧ h[0]? = some (20, facV) ∧ va_P (g_D G) classes (wsOf G h) H
/-- what stays true of the tables and the statics -/
def Ta (G : GT) (s : State) (H : Heap) : Prop := va_K (g_D G) classes (g_tys G) s ∧ va_Z "PackLanes" "FACTORIALS" "[I" (.ref (g_t G)) (g_A G) s H ∧ va_T .int (g_t G) 7 facF (g_A G) s H ∧ (Cond.arrayOver (.array .int)).before #[] s = true ∧ g_base G ≤ H.size ∧ ∀ w ∈ BIGN, va_Nw w s
def Wd (κ : KT) (H : Heap) (locs : List Loc) (cells slots : Nat) (h : HV) : Prop :=
  Wo (k_G κ) h H ∧ va_S (g_A (k_G κ)) (k_s κ).heap H locs ∧ H.size = (k_s κ).heap.size + cells ∧ h.length = k_n0 κ + cells ∧ hsz h = k_t0 κ + slots ∧ cells ≤ (k_R κ).cells ∧ slots ≤ (k_R κ).slots
/-- does this instruction give this answer back, of a method with this return type -/
def retI (rt : Option FieldType) (i : Instr) (o : Option Value) : Prop := match rt with
  | none => i = .return_ ∧ o = none
  | some .long => i = .lreturn ∧ ∃ x, o = some (.long x)
  | some .int => i = .ireturn ∧ ∃ x, o = some (.int x)
  | some .boolean => i = .ireturn ∧ ∃ x : Int32, o = some (.int x) ∧ (x = 0 ∨ x = 1)
  | _ => False
abbrev kW (κ : KT) (H : Heap) (locs : List Loc) (cells slots : Nat) (pc : Nat) (mls : Array Slot) (st : List Value) : Prop :=
  W (k_p κ) (k_l κ) (k_e κ) (k_R κ) (k_s κ) (k_m κ) (k_a κ) (k_b κ) (k_me κ) (k_c κ) H locs cells slots (k_Q κ) (F0 (k_m κ) pc mls st)
def KO (cc : ByteArray) (κ : KT) : Prop :=
  (k_p κ).tables.exec = Jvm.exec ∧ (k_c κ).code = cc ∧ (k_c κ).maxLocals = k_nL κ ∧ (k_s κ).vm.findClass (k_own κ) = some (k_m κ).cls ∧ (∀ w ∈ BIG, w.before (k_a κ) (k_s κ) = true) ∧ Ta (k_G κ) (k_s κ) (k_s κ).heap ∧
  (∀ (pc : Nat) (i : Instr) (o : Option Value) (mls : Array Slot) (H : Heap) (locs : List Loc) (cells slots : Nat) (h : HV), retI (k_rt κ) i o → decode cc pc = .ok (i, 1) → Wd κ H locs cells slots h → k_ret κ o h → kW κ H locs cells slots pc mls (o.toList.map (cv (k_G κ))))
def wA (cc : ByteArray) (κ : KT) (pc : Nat) (ls st : LV) (h : HV) : Prop :=
  KO cc κ → ∀ (mls : Array Slot) (H : Heap) (locs : List Loc) (cells slots : Nat), Lh (k_G κ) (k_nL κ) mls ls → Wd κ H locs cells slots h → kW κ H locs cells slots pc mls (st.map (cv (k_G κ)))
section RU
variable {cc : ByteArray} {κ : KT} {pc : Nat} {ls st : LV} {h : HV}
theorem wA_cut (n : Nat) (k : wA cc κ pc (lcut n ls) st h) : wA cc κ pc ls st h := fun O mls H locs cells slots hL hW => k O mls H locs cells slots (Lh_cut n hL) hW
theorem r_iload_n {k : Fin 4} {i : Nat} {x : Int32} (hd : decode cc pc = .ok (.iload_n k, 1)) (hi : (k : Nat) = i) (hl : ls[i]? = some (.int x)) (kk : wA cc κ (pc + 1) ls (.int x :: st) h) : wA cc κ pc ls st h :=
  fun O mls H locs cells slots hL hW => lv_iload_n O.1 O.2.1 hd hi (Lh_at hL hl (by simp)) (kk O mls H locs cells slots hL hW)
theorem r_iload {i : Nat} {x : Int32} (hd : decode cc pc = .ok (.iload i, 2)) (hl : ls[i]? = some (.int x)) (kk : wA cc κ (pc + 2) ls (.int x :: st) h) : wA cc κ pc ls st h :=
  fun O mls H locs cells slots hL hW => lv_iload O.1 O.2.1 hd (Lh_at hL hl (by simp)) (kk O mls H locs cells slots hL hW)
theorem r_lload_n {k : Fin 4} {i : Nat} {x : Int64} (hd : decode cc pc = .ok (.lload_n k, 1)) (hi : (k : Nat) = i) (hl : ls[i]? = some (.long x)) (kk : wA cc κ (pc + 1) ls (.long x :: st) h) : wA cc κ pc ls st h :=
  fun O mls H locs cells slots hL hW => lv_lload_n O.1 O.2.1 hd hi (Lh_at hL hl (by simp)) (kk O mls H locs cells slots hL hW)
theorem r_lload {i : Nat} {x : Int64} (hd : decode cc pc = .ok (.lload i, 2)) (hl : ls[i]? = some (.long x)) (kk : wA cc κ (pc + 2) ls (.long x :: st) h) : wA cc κ pc ls st h :=
  fun O mls H locs cells slots hL hW => lv_lload O.1 O.2.1 hd (Lh_at hL hl (by simp)) (kk O mls H locs cells slots hL hW)
theorem r_aload_n {k : Fin 4} {i : Nat} {x : Nat} (hd : decode cc pc = .ok (.aload_n k, 1)) (hi : (k : Nat) = i) (hl : ls[i]? = some (.ref x)) (kk : wA cc κ (pc + 1) ls (.ref x :: st) h) : wA cc κ pc ls st h :=
  fun O mls H locs cells slots hL hW => lv_aload_n O.1 O.2.1 hd hi (Lh_at hL hl (by simp)) (kk O mls H locs cells slots hL hW)
theorem r_istore_n {k : Fin 4} {i : Nat} {x : Int32} (hd : decode cc pc = .ok (.istore_n k, 1)) (hi : (k : Nat) = i) (hn : i < ls.length) (kk : wA cc κ (pc + 1) (lset ls i (.int x)) st h) : wA cc κ pc ls (.int x :: st) h :=
  fun O mls H locs cells slots hL hW => lv_istore_n O.1 O.2.1 hd hi hL.2 (by rw [← hL.1]; exact hn) rfl fun ls' hl' => kk O ls' H locs cells slots (Lh_set1 (v := .int x) hL.1 (by rw [← hL.1]; exact hn) hl') hW
theorem r_istore {i : Nat} {x : Int32} (hd : decode cc pc = .ok (.istore i, 2)) (hn : i < ls.length) (kk : wA cc κ (pc + 2) (lset ls i (.int x)) st h) : wA cc κ pc ls (.int x :: st) h :=
  fun O mls H locs cells slots hL hW => lv_istore O.1 O.2.1 hd hL.2 (by rw [← hL.1]; exact hn) rfl fun ls' hl' => kk O ls' H locs cells slots (Lh_set1 (v := .int x) hL.1 (by rw [← hL.1]; exact hn) hl') hW
theorem r_lstore_n {k : Fin 4} {i : Nat} {x : Int64} (hd : decode cc pc = .ok (.lstore_n k, 1)) (hi : (k : Nat) = i) (hn : i + 1 < ls.length) (kk : wA cc κ (pc + 1) (lset (lset ls (i + 1) .null) i (.long x)) st h) : wA cc κ pc ls (.long x :: st) h :=
  fun O mls H locs cells slots hL hW => lv_lstore_n O.1 O.2.1 hd hi hL.2 (by rw [← hL.1]; exact hn) rfl fun ls' hl' => kk O ls' H locs cells slots (Lh_set2 (v := .long x) hL.1 (by rw [← hL.1]; exact hn) hl') hW
theorem r_lstore {i : Nat} {x : Int64} (hd : decode cc pc = .ok (.lstore i, 2)) (hn : i + 1 < ls.length) (kk : wA cc κ (pc + 2) (lset (lset ls (i + 1) .null) i (.long x)) st h) : wA cc κ pc ls (.long x :: st) h :=
  fun O mls H locs cells slots hL hW => lv_lstore O.1 O.2.1 hd hL.2 (by rw [← hL.1]; exact hn) rfl fun ls' hl' => kk O ls' H locs cells slots (Lh_set2 (v := .long x) hL.1 (by rw [← hL.1]; exact hn) hl') hW
theorem r_astore_n {k : Fin 4} {i : Nat} {x : Nat} (hd : decode cc pc = .ok (.astore_n k, 1)) (hi : (k : Nat) = i) (hn : i < ls.length) (kk : wA cc κ (pc + 1) (lset ls i (.ref x)) st h) : wA cc κ pc ls (.ref x :: st) h :=
  fun O mls H locs cells slots hL hW => lv_astore_n O.1 O.2.1 hd hi hL.2 (by rw [← hL.1]; exact hn) rfl fun ls' hl' => kk O ls' H locs cells slots (Lh_set1 (v := .ref x) hL.1 (by rw [← hL.1]; exact hn) hl') hW
theorem r_iinc {i : Nat} {n : Int} {x : Int32} (hd : decode cc pc = .ok (.iinc i n, 3)) (hl : ls[i]? = some (.int x)) (kk : wA cc κ (pc + 3) (lset ls i (.int (x + Int32.ofInt n))) st h) : wA cc κ pc ls st h :=
  fun O mls H locs cells slots hL hW => by
    have hi : i < ls.length := (List.getElem?_eq_some_iff.mp hl).1
    obtain ⟨k, hk⟩ := List.getElem?_of_mem (asc_mem.mpr ⟨_, hl, by simp, rfl⟩ : (i, cv (k_G κ) (.int x)) ∈ asc (k_G κ) ls)
    exact lv_iinc O.1 O.2.1 hd hL.2 hk rfl (by rw [← hL.1]; exact hi) rfl fun ls' hl' => kk O ls' H locs cells slots (Lh_set1 (v := .int (x + Int32.ofInt n)) hL.1 (by rw [← hL.1]; exact hi) hl') hW
theorem r_iconst {n : Int} {v : Int32} (hd : decode cc pc = .ok (.iconst n, 1)) (hv : Int32.ofInt n = v) (kk : wA cc κ (pc + 1) ls (.int v :: st) h) : wA cc κ pc ls st h :=
  fun O mls H locs cells slots hL hW => lv_iconst O.1 O.2.1 hd hv (kk O mls H locs cells slots hL hW)
theorem r_bipush {n : Int} {v : Int32} (hd : decode cc pc = .ok (.bipush n, 2)) (hv : (Int8.ofInt n).toInt32 = v) (kk : wA cc κ (pc + 2) ls (.int v :: st) h) : wA cc κ pc ls st h :=
  fun O mls H locs cells slots hL hW => lv_bipush O.1 O.2.1 hd hv (kk O mls H locs cells slots hL hW)
theorem r_sipush {n : Int} {v : Int32} (hd : decode cc pc = .ok (.sipush n, 3)) (hv : (Int16.ofInt n).toInt32 = v) (kk : wA cc κ (pc + 3) ls (.int v :: st) h) : wA cc κ pc ls st h :=
  fun O mls H locs cells slots hL hW => lv_sipush O.1 O.2.1 hd hv (kk O mls H locs cells slots hL hW)
theorem r_lconst {n : Fin 2} {v : Int64} (hd : decode cc pc = .ok (.lconst n, 1)) (hv : Int64.ofNat (n : Nat) = v) (kk : wA cc κ (pc + 1) ls (.long v :: st) h) : wA cc κ pc ls st h :=
  fun O mls H locs cells slots hL hW => lv_lconst O.1 O.2.1 hd hv (kk O mls H locs cells slots hL hW)
theorem r_ldcw {own : String} {index : Nat} {v : Int32} (ho : k_own κ = own) (hw : Cond.constant own index v ∈ BIG) (hd : decode cc pc = .ok (.ldc_w index, 3)) (kk : wA cc κ (pc + 3) ls (.int v :: st) h) : wA cc κ pc ls st h :=
  fun O mls H locs cells slots hL hW => lv_ldcw O.1 O.2.1 (by rw [← ho]; exact O.2.2.2.1) (O.2.2.2.2.1 _ hw) hd (kk O mls H locs cells slots hL hW)
theorem r_ldc2 {own : String} {index : Nat} {v : Int64} (ho : k_own κ = own) (hw : Cond.constantLong own index v ∈ BIG) (hd : decode cc pc = .ok (.ldc2_w index, 3)) (kk : wA cc κ (pc + 3) ls (.long v :: st) h) : wA cc κ pc ls st h :=
  fun O mls H locs cells slots hL hW => lv_ldc2 O.1 O.2.1 (by rw [← ho]; exact O.2.2.2.1) (O.2.2.2.2.1 _ hw) hd (kk O mls H locs cells slots hL hW)
theorem r_iadd {x y : Int32} (hd : decode cc pc = .ok (.iadd, 1)) (kk : wA cc κ (pc + 1) ls (.int (x + y) :: st) h) : wA cc κ pc ls (.int y :: .int x :: st) h := fun O mls H locs cells slots hL hW => lv_iadd O.1 O.2.1 hd (kk O mls H locs cells slots hL hW)
theorem r_isub {x y : Int32} (hd : decode cc pc = .ok (.isub, 1)) (kk : wA cc κ (pc + 1) ls (.int (x - y) :: st) h) : wA cc κ pc ls (.int y :: .int x :: st) h := fun O mls H locs cells slots hL hW => lv_isub O.1 O.2.1 hd (kk O mls H locs cells slots hL hW)
theorem r_imul {x y : Int32} (hd : decode cc pc = .ok (.imul, 1)) (kk : wA cc κ (pc + 1) ls (.int (x * y) :: st) h) : wA cc κ pc ls (.int y :: .int x :: st) h := fun O mls H locs cells slots hL hW => lv_imul O.1 O.2.1 hd (kk O mls H locs cells slots hL hW)
theorem r_iand {x y : Int32} (hd : decode cc pc = .ok (.iand, 1)) (kk : wA cc κ (pc + 1) ls (.int (x &&& y) :: st) h) : wA cc κ pc ls (.int y :: .int x :: st) h := fun O mls H locs cells slots hL hW => lv_iand O.1 O.2.1 hd (kk O mls H locs cells slots hL hW)
theorem r_ior {x y : Int32} (hd : decode cc pc = .ok (.ior, 1)) (kk : wA cc κ (pc + 1) ls (.int (x ||| y) :: st) h) : wA cc κ pc ls (.int y :: .int x :: st) h := fun O mls H locs cells slots hL hW => lv_ior O.1 O.2.1 hd (kk O mls H locs cells slots hL hW)
theorem r_ixor {x y : Int32} (hd : decode cc pc = .ok (.ixor, 1)) (kk : wA cc κ (pc + 1) ls (.int (x ^^^ y) :: st) h) : wA cc κ pc ls (.int y :: .int x :: st) h := fun O mls H locs cells slots hL hW => lv_ixor O.1 O.2.1 hd (kk O mls H locs cells slots hL hW)
theorem r_ishl {x y : Int32} (hd : decode cc pc = .ok (.ishl, 1)) (kk : wA cc κ (pc + 1) ls (.int (x <<< (y &&& 31)) :: st) h) : wA cc κ pc ls (.int y :: .int x :: st) h := fun O mls H locs cells slots hL hW => lv_ishl O.1 O.2.1 hd (kk O mls H locs cells slots hL hW)
theorem r_ishr {x y : Int32} (hd : decode cc pc = .ok (.ishr, 1)) (kk : wA cc κ (pc + 1) ls (.int (x >>> (y &&& 31)) :: st) h) : wA cc κ pc ls (.int y :: .int x :: st) h := fun O mls H locs cells slots hL hW => lv_ishr O.1 O.2.1 hd (kk O mls H locs cells slots hL hW)
theorem r_iushr {x y : Int32} (hd : decode cc pc = .ok (.iushr, 1)) (kk : wA cc κ (pc + 1) ls (.int (x.toUInt32 >>> (y.toUInt32 &&& Int32.toUInt32 31)).toInt32 :: st) h) : wA cc κ pc ls (.int y :: .int x :: st) h := fun O mls H locs cells slots hL hW => lv_iushr O.1 O.2.1 hd rfl (kk O mls H locs cells slots hL hW)
theorem r_ineg {x : Int32} (hd : decode cc pc = .ok (.ineg, 1)) (kk : wA cc κ (pc + 1) ls (.int (-x) :: st) h) : wA cc κ pc ls (.int x :: st) h := fun O mls H locs cells slots hL hW => lv_ineg O.1 O.2.1 hd (kk O mls H locs cells slots hL hW)
theorem r_idiv {x y : Int32} (hd : decode cc pc = .ok (.idiv, 1)) (hne : ¬ y = 0) (kk : wA cc κ (pc + 1) ls (.int (x / y) :: st) h) : wA cc κ pc ls (.int y :: .int x :: st) h := fun O mls H locs cells slots hL hW => lv_idiv O.1 O.2.1 hd hne (kk O mls H locs cells slots hL hW)
theorem r_irem {x y : Int32} (hd : decode cc pc = .ok (.irem, 1)) (hne : ¬ y = 0) (kk : wA cc κ (pc + 1) ls (.int (x - x / y * y) :: st) h) : wA cc κ pc ls (.int y :: .int x :: st) h := fun O mls H locs cells slots hL hW => lv_irem O.1 O.2.1 hd hne (kk O mls H locs cells slots hL hW)
theorem r_ladd {x y : Int64} (hd : decode cc pc = .ok (.ladd, 1)) (kk : wA cc κ (pc + 1) ls (.long (x + y) :: st) h) : wA cc κ pc ls (.long y :: .long x :: st) h := fun O mls H locs cells slots hL hW => lv_ladd O.1 O.2.1 hd (kk O mls H locs cells slots hL hW)
theorem r_lsub {x y : Int64} (hd : decode cc pc = .ok (.lsub, 1)) (kk : wA cc κ (pc + 1) ls (.long (x - y) :: st) h) : wA cc κ pc ls (.long y :: .long x :: st) h := fun O mls H locs cells slots hL hW => lv_lsub O.1 O.2.1 hd (kk O mls H locs cells slots hL hW)
theorem r_lmul {x y : Int64} (hd : decode cc pc = .ok (.lmul, 1)) (kk : wA cc κ (pc + 1) ls (.long (x * y) :: st) h) : wA cc κ pc ls (.long y :: .long x :: st) h := fun O mls H locs cells slots hL hW => lv_lmul O.1 O.2.1 hd (kk O mls H locs cells slots hL hW)
theorem r_land {x y : Int64} (hd : decode cc pc = .ok (.land, 1)) (kk : wA cc κ (pc + 1) ls (.long (x &&& y) :: st) h) : wA cc κ pc ls (.long y :: .long x :: st) h := fun O mls H locs cells slots hL hW => lv_land O.1 O.2.1 hd (kk O mls H locs cells slots hL hW)
theorem r_lor {x y : Int64} (hd : decode cc pc = .ok (.lor, 1)) (kk : wA cc κ (pc + 1) ls (.long (x ||| y) :: st) h) : wA cc κ pc ls (.long y :: .long x :: st) h := fun O mls H locs cells slots hL hW => lv_lor O.1 O.2.1 hd (kk O mls H locs cells slots hL hW)
theorem r_ldiv {x y : Int64} (hd : decode cc pc = .ok (.ldiv, 1)) (hne : ¬ y = 0) (kk : wA cc κ (pc + 1) ls (.long (x / y) :: st) h) : wA cc κ pc ls (.long y :: .long x :: st) h := fun O mls H locs cells slots hL hW => lv_ldiv O.1 O.2.1 hd hne (kk O mls H locs cells slots hL hW)
theorem r_lrem {x y : Int64} (hd : decode cc pc = .ok (.lrem, 1)) (hne : ¬ y = 0) (kk : wA cc κ (pc + 1) ls (.long (x - x / y * y) :: st) h) : wA cc κ pc ls (.long y :: .long x :: st) h := fun O mls H locs cells slots hL hW => lv_lrem O.1 O.2.1 hd hne (kk O mls H locs cells slots hL hW)
theorem r_lshl {x : Int64} {y : Int32} (hd : decode cc pc = .ok (.lshl, 1)) (kk : wA cc κ (pc + 1) ls (.long (x <<< (y.toInt64 &&& 63)) :: st) h) : wA cc κ pc ls (.int y :: .long x :: st) h := fun O mls H locs cells slots hL hW => lv_lshl O.1 O.2.1 hd rfl (kk O mls H locs cells slots hL hW)
theorem r_lushr {x : Int64} {y : Int32} (hd : decode cc pc = .ok (.lushr, 1)) (kk : wA cc κ (pc + 1) ls (.long (x.toUInt64 >>> (y.toInt64.toUInt64 &&& Int64.toUInt64 63)).toInt64 :: st) h) : wA cc κ pc ls (.int y :: .long x :: st) h := fun O mls H locs cells slots hL hW => lv_lushr O.1 O.2.1 hd rfl (kk O mls H locs cells slots hL hW)
theorem r_lcmp {x y : Int64} (hd : decode cc pc = .ok (.lcmp, 1)) (kk : wA cc κ (pc + 1) ls (.int (lg_cmp x y) :: st) h) : wA cc κ pc ls (.long y :: .long x :: st) h := fun O mls H locs cells slots hL hW => W.lcmp O.1 O.2.1 hd (kk O mls H locs cells slots hL hW)
theorem r_i2l {x : Int32} (hd : decode cc pc = .ok (.i2l, 1)) (kk : wA cc κ (pc + 1) ls (.long x.toInt64 :: st) h) : wA cc κ pc ls (.int x :: st) h := fun O mls H locs cells slots hL hW => lv_i2l O.1 O.2.1 hd rfl (kk O mls H locs cells slots hL hW)
theorem r_l2i {x : Int64} (hd : decode cc pc = .ok (.l2i, 1)) (kk : wA cc κ (pc + 1) ls (.int x.toInt32 :: st) h) : wA cc κ pc ls (.long x :: st) h := fun O mls H locs cells slots hL hW => lv_l2i O.1 O.2.1 hd rfl (kk O mls H locs cells slots hL hW)
theorem r_dup {v : Value} (hd : decode cc pc = .ok (.dup, 1)) (hv : v.category = 1) (kk : wA cc κ (pc + 1) ls (v :: v :: st) h) : wA cc κ pc ls (v :: st) h := fun O mls H locs cells slots hL hW => lv_dup O.1 O.2.1 hd (by rw [cv_cat]; exact hv) (kk O mls H locs cells slots hL hW)
theorem r_dup2 {v w : Value} (hd : decode cc pc = .ok (.dup2, 1)) (hv : v.category = 1) (hw : w.category = 1) (kk : wA cc κ (pc + 1) ls (v :: w :: v :: w :: st) h) : wA cc κ pc ls (v :: w :: st) h := fun O mls H locs cells slots hL hW => lv_dup2_11 O.1 O.2.1 hd (by rw [cv_cat]; exact hv) (by rw [cv_cat]; exact hw) (kk O mls H locs cells slots hL hW)
theorem r_pop {v : Value} (hd : decode cc pc = .ok (.pop, 1)) (hv : v.category = 1) (kk : wA cc κ (pc + 1) ls st h) : wA cc κ pc ls (v :: st) h := fun O mls H locs cells slots hL hW => lv_pop O.1 O.2.1 hd (by rw [cv_cat]; exact hv) (kk O mls H locs cells slots hL hW)
theorem r_goto {off : Int} {tgt : Nat} (hd : decode cc pc = .ok (.goto off, 3)) (ht : (pc : Int) + off = (tgt : Int)) (kk : wA cc κ tgt ls st h) : wA cc κ pc ls st h := fun O mls H locs cells slots hL hW => lv_goto O.1 O.2.1 hd ht (kk O mls H locs cells slots hL hW)
theorem r_if_eq {x : Int32} {off : Int} {tgt : Nat} (hd : decode cc pc = .ok (.ifCond .eq off, 3)) (ht : (pc : Int) + off = (tgt : Int)) (kt : x = 0 → wA cc κ tgt ls st h) (kf : ¬ x = 0 → wA cc κ (pc + 3) ls st h) : wA cc κ pc ls (.int x :: st) h := fun O mls H locs cells slots hL hW => lv_if_eq O.1 O.2.1 hd ht (fun q => kt q O mls H locs cells slots hL hW) (fun q => kf q O mls H locs cells slots hL hW)
theorem r_if_ne {x : Int32} {off : Int} {tgt : Nat} (hd : decode cc pc = .ok (.ifCond .ne off, 3)) (ht : (pc : Int) + off = (tgt : Int)) (kt : ¬ x = 0 → wA cc κ tgt ls st h) (kf : x = 0 → wA cc κ (pc + 3) ls st h) : wA cc κ pc ls (.int x :: st) h := fun O mls H locs cells slots hL hW => lv_if_ne O.1 O.2.1 hd ht (fun q => kt q O mls H locs cells slots hL hW) (fun q => kf q O mls H locs cells slots hL hW)
theorem r_if_lt {x : Int32} {off : Int} {tgt : Nat} (hd : decode cc pc = .ok (.ifCond .lt off, 3)) (ht : (pc : Int) + off = (tgt : Int)) (kt : x < 0 → wA cc κ tgt ls st h) (kf : ¬ x < 0 → wA cc κ (pc + 3) ls st h) : wA cc κ pc ls (.int x :: st) h := fun O mls H locs cells slots hL hW => lv_if_lt O.1 O.2.1 hd ht (fun q => kt q O mls H locs cells slots hL hW) (fun q => kf q O mls H locs cells slots hL hW)
theorem r_if_ge {x : Int32} {off : Int} {tgt : Nat} (hd : decode cc pc = .ok (.ifCond .ge off, 3)) (ht : (pc : Int) + off = (tgt : Int)) (kt : 0 ≤ x → wA cc κ tgt ls st h) (kf : ¬ 0 ≤ x → wA cc κ (pc + 3) ls st h) : wA cc κ pc ls (.int x :: st) h := fun O mls H locs cells slots hL hW => lv_if_ge O.1 O.2.1 hd ht (fun q => kt q O mls H locs cells slots hL hW) (fun q => kf q O mls H locs cells slots hL hW)
theorem r_if_gt {x : Int32} {off : Int} {tgt : Nat} (hd : decode cc pc = .ok (.ifCond .gt off, 3)) (ht : (pc : Int) + off = (tgt : Int)) (kt : 0 < x → wA cc κ tgt ls st h) (kf : ¬ 0 < x → wA cc κ (pc + 3) ls st h) : wA cc κ pc ls (.int x :: st) h := fun O mls H locs cells slots hL hW => lv_if_gt O.1 O.2.1 hd ht (fun q => kt q O mls H locs cells slots hL hW) (fun q => kf q O mls H locs cells slots hL hW)
theorem r_if_le {x : Int32} {off : Int} {tgt : Nat} (hd : decode cc pc = .ok (.ifCond .le off, 3)) (ht : (pc : Int) + off = (tgt : Int)) (kt : x ≤ 0 → wA cc κ tgt ls st h) (kf : ¬ x ≤ 0 → wA cc κ (pc + 3) ls st h) : wA cc κ pc ls (.int x :: st) h := fun O mls H locs cells slots hL hW => lv_if_le O.1 O.2.1 hd ht (fun q => kt q O mls H locs cells slots hL hW) (fun q => kf q O mls H locs cells slots hL hW)
theorem r_ic_eq {x y : Int32} {off : Int} {tgt : Nat} (hd : decode cc pc = .ok (.if_icmp .eq off, 3)) (ht : (pc : Int) + off = (tgt : Int)) (kt : x = y → wA cc κ tgt ls st h) (kf : ¬ x = y → wA cc κ (pc + 3) ls st h) : wA cc κ pc ls (.int y :: .int x :: st) h := fun O mls H locs cells slots hL hW => lv_icmp_eq O.1 O.2.1 hd ht (fun q => kt q O mls H locs cells slots hL hW) (fun q => kf q O mls H locs cells slots hL hW)
theorem r_ic_ne {x y : Int32} {off : Int} {tgt : Nat} (hd : decode cc pc = .ok (.if_icmp .ne off, 3)) (ht : (pc : Int) + off = (tgt : Int)) (kt : ¬ x = y → wA cc κ tgt ls st h) (kf : x = y → wA cc κ (pc + 3) ls st h) : wA cc κ pc ls (.int y :: .int x :: st) h := fun O mls H locs cells slots hL hW => lv_icmp_ne O.1 O.2.1 hd ht (fun q => kt q O mls H locs cells slots hL hW) (fun q => kf q O mls H locs cells slots hL hW)
theorem r_ic_lt {x y : Int32} {off : Int} {tgt : Nat} (hd : decode cc pc = .ok (.if_icmp .lt off, 3)) (ht : (pc : Int) + off = (tgt : Int)) (kt : x < y → wA cc κ tgt ls st h) (kf : ¬ x < y → wA cc κ (pc + 3) ls st h) : wA cc κ pc ls (.int y :: .int x :: st) h := fun O mls H locs cells slots hL hW => lv_icmp_lt O.1 O.2.1 hd ht (fun q => kt q O mls H locs cells slots hL hW) (fun q => kf q O mls H locs cells slots hL hW)
theorem r_ic_ge {x y : Int32} {off : Int} {tgt : Nat} (hd : decode cc pc = .ok (.if_icmp .ge off, 3)) (ht : (pc : Int) + off = (tgt : Int)) (kt : y ≤ x → wA cc κ tgt ls st h) (kf : ¬ y ≤ x → wA cc κ (pc + 3) ls st h) : wA cc κ pc ls (.int y :: .int x :: st) h := fun O mls H locs cells slots hL hW => lv_icmp_ge O.1 O.2.1 hd ht (fun q => kt q O mls H locs cells slots hL hW) (fun q => kf q O mls H locs cells slots hL hW)
theorem r_ic_gt {x y : Int32} {off : Int} {tgt : Nat} (hd : decode cc pc = .ok (.if_icmp .gt off, 3)) (ht : (pc : Int) + off = (tgt : Int)) (kt : y < x → wA cc κ tgt ls st h) (kf : ¬ y < x → wA cc κ (pc + 3) ls st h) : wA cc κ pc ls (.int y :: .int x :: st) h := fun O mls H locs cells slots hL hW => lv_icmp_gt O.1 O.2.1 hd ht (fun q => kt q O mls H locs cells slots hL hW) (fun q => kf q O mls H locs cells slots hL hW)
theorem r_ic_le {x y : Int32} {off : Int} {tgt : Nat} (hd : decode cc pc = .ok (.if_icmp .le off, 3)) (ht : (pc : Int) + off = (tgt : Int)) (kt : x ≤ y → wA cc κ tgt ls st h) (kf : ¬ x ≤ y → wA cc κ (pc + 3) ls st h) : wA cc κ pc ls (.int y :: .int x :: st) h := fun O mls H locs cells slots hL hW => lv_icmp_le O.1 O.2.1 hd ht (fun q => kt q O mls H locs cells slots hL hW) (fun q => kf q O mls H locs cells slots hL hW)
/-- a field by its link: of the class ci, its place k, its type, is it final -/
def FldOK (own : String) (index ci k : Nat) (ty : FieldType) (fin : Nat) : Prop :=
  ∃ (C : String) (T : u_T) (N : Nat) (ty0 : Nat → FieldType), ci < 20 ∧ classes[ci]? = some (C, T, N) ∧ k < N ∧ (∀ w ∈ u_ws C T N, w ∈ BIG) ∧ (∀ k, k < N → parseFieldDescriptor (T k).2.2.1 = some (ty0 k)) ∧ (∀ a, a < N → ∀ b, b < N → a ≠ b → (T a).2.1 ≠ (T b).2.1) ∧
    Cond.fieldLink own index (T k).1 (T k).2.1 (T k).2.2.1 ∈ BIG ∧ parseFieldDescriptor (T k).2.2.1 = some ty ∧ (fin = 0 → (T k).2.2.2 = false) ∧ (fin = 1 → (T k).2.2.2 = true ∧ (T k).1 = own)
theorem kW_size {H : Heap} {locs : List Loc} {cells slots pc : Nat} {mls : Array Slot} {st : List Value} (k : H.size ≤ (k_s κ).heap.size + cells → kW κ H locs cells slots pc mls st) : kW κ H locs cells slots pc mls st :=
  fun T hT X => k (by rw [← hT]; exact X.heapSize) T hT X
theorem va_S.start {A : Nat → Prop} {H0 H : Heap} {locs : List Loc} (h : va_S A H0 H locs) : va_S A H H locs := ⟨Nat.le_refl _, fun _ _ _ => rfl, h.2.2⟩
theorem va_S.go {A : Nat → Prop} {H0 H H1 : Heap} {locs locs1 : List Loc} (h : va_S A H0 H locs) (h1 : va_S A H H1 locs1) : va_S A H0 H1 locs1 :=
  ⟨Nat.le_trans h.1 h1.1, fun q a b => by rw [h1.2.1 q (Nat.lt_of_lt_of_le a h.1) b]; exact h.2.1 q a b, h1.2.2⟩
theorem hs_get0 {h : HV} {r k : Nat} {v : Value} (hr : r ≠ 0) : (hs h r k v)[0]? = h[0]? := by
  unfold hs; split
  · rw [List.getElem?_set_ne hr]
  · rfl
/-- behind a write to one cell -/
theorem Wd_hs {H H1 : Heap} {locs locs1 : List Loc} {cells slots r k ci : Nat} {vs : List Value} {v : Value} (hW : Wd κ H locs cells slots h) (hr : h[r + 2]? = some (ci, vs)) (hP : va_P (g_D (k_G κ)) classes ((wsOf (k_G κ) h).set r (g_base (k_G κ) + r, cE (k_G κ) (ci, vs.set k v))) H1)
    (hS : va_S (g_A (k_G κ)) H H1 locs1) (hz : H1.size ≤ (k_s κ).heap.size + cells) : Wd κ H1 locs1 cells slots (hs h (r + 2) k v) := by
  obtain ⟨⟨w1, w2, w3, w4⟩, w5, w6, w7, w8, w9, w10⟩ := hW
  have e : H1.size = H.size := Nat.le_antisymm (by rw [w6]; exact hz) hS.1
  refine ⟨⟨by rw [hs_len, e]; exact w1, by rw [hs_len]; exact w2, by rw [hs_get0 (by omega)]; exact w3, ?_⟩, w5.go hS, by rw [e]; exact w6, by rw [hs_len]; exact w7, by rw [hs_sz]; exact w8, w9, w10⟩
  rw [hs_eq hr, ← wsOf_set]
  exact hP
theorem two_of {H : Heap} {locs : List Loc} {cells slots r ci : Nat} (hW : Wd κ H locs cells slots h) (hr : hk h r = some ci) (hc : ci < 20) (h1 : r ≠ 1) : ∃ q, r = q + 2 := by
  rcases r with _ | _ | q
  · obtain ⟨vs, e⟩ := hk_cell hr
    have e2 := hW.1.2.2.1
    rw [e] at e2
    cases e2
    omega
  · exact absurd rfl h1
  · exact ⟨q, rfl⟩
theorem r_get {own : String} {index ci k : Nat} {ty : FieldType} {fin : Nat} {r : Nat} {v : Value} (hF : FldOK own index ci k ty fin) (ho : k_own κ = own) (h1 : r ≠ 1) (hr : hk h r = some ci) (hv : hg h r k = some v) (hd : decode cc pc = .ok (.getfield index, 3)) (kk : wA cc κ (pc + 3) ls (v :: st) h) : wA cc κ pc ls (.ref r :: st) h := by
  intro O mls H locs cells slots hL hW
  obtain ⟨C, T, N, ty0, f1, f2, f3, f4, f5, f6, f7, f8, f9, f10⟩ := hF
  obtain ⟨q, rfl⟩ := two_of hW hr f1 h1
  obtain ⟨vs, e⟩ := hk_cell hr
  rw [hg_eq e] at hv
  have hw := wsOf_get (k_G κ) e
  rw [cE_O _ f1] at hw
  show kW κ H locs cells slots pc mls (.ref (g_mu (k_G κ) (q + 2)) :: st.map (cv (k_G κ)))
  rw [g_mu2]
  exact va_get O.1 O.2.1 O.2.2.2.2.1 f4 (by rw [← ho]; exact O.2.2.2.1) O.2.2.2.2.2.1.1 hW.1.2.2.2 q hw f2 k f3 (O.2.2.2.2.1 _ f7) (fun _ h9 => h9) (v := cv (k_G κ) v) (by rw [List.getElem?_map, hv]; rfl) hd (kk O mls H locs cells slots hL hW)
theorem r_put {own : String} {index ci k : Nat} {ty : FieldType} {r : Nat} {v w : Value} (hF : FldOK own index ci k ty 0) (ho : k_own κ = own) (h1 : r ≠ 1) (hr : hk h r = some ci) (hv : hg h r k = some w) (hn : narrow ty (cv (k_G κ) v) = cv (k_G κ) v) (hf : fits ty (cv (k_G κ) v) = true) (hd : decode cc pc = .ok (.putfield index, 3)) (kk : wA cc κ (pc + 3) ls st (hs h r k v)) : wA cc κ pc ls (v :: .ref r :: st) h := by
  intro O mls H locs cells slots hL hW
  obtain ⟨C, T, N, ty0, f1, f2, f3, f4, f5, f6, f7, f8, f9, f10⟩ := hF
  obtain ⟨q, rfl⟩ := two_of hW hr f1 h1
  obtain ⟨vs, e⟩ := hk_cell hr
  rw [hg_eq e] at hv
  have hw := wsOf_get (k_G κ) e
  rw [cE_O _ f1] at hw
  show kW κ H locs cells slots pc mls (cv (k_G κ) v :: .ref (g_mu (k_G κ) (q + 2)) :: st.map (cv (k_G κ)))
  rw [g_mu2]
  refine va_put (v := cv (k_G κ) v) O.1 O.2.1 O.2.2.2.2.1 f4 ty0 f5 f6 (by rw [← ho]; exact O.2.2.2.1) O.2.2.2.2.2.1.1 hW.1.2.2.2 (wsOf_D _ h) hW.2.1.start q hw f2 k f3 (O.2.2.2.2.1 _ f7) (fun _ h9 => h9) (f9 rfl) f8 hn hf (by rw [List.length_map]; exact (List.getElem?_eq_some_iff.mp hv).1) hd (fun H1 locs1 hP hD hS => ?_)
  refine kW_size fun hz => kk O mls H1 locs1 cells slots hL (Wd_hs hW e ?_ hS hz)
  rw [cE_O _ f1, List.map_set]
  exact hP
theorem r_putF {own : String} {index ci k : Nat} {ty : FieldType} {r : Nat} {v w : Value} (hF : FldOK own index ci k ty 1) (ho : k_own κ = own) (h1 : r ≠ 1) (hi : KO cc κ → (k_me κ).name = "<init>") (hr : hk h r = some ci) (hv : hg h r k = some w) (hn : narrow ty (cv (k_G κ) v) = cv (k_G κ) v) (hf : fits ty (cv (k_G κ) v) = true) (hd : decode cc pc = .ok (.putfield index, 3)) (kk : wA cc κ (pc + 3) ls st (hs h r k v)) : wA cc κ pc ls (v :: .ref r :: st) h := by
  intro O mls H locs cells slots hL hW
  obtain ⟨C, T, N, ty0, f1, f2, f3, f4, f5, f6, f7, f8, f9, f10⟩ := hF
  obtain ⟨q, rfl⟩ := two_of hW hr f1 h1
  obtain ⟨vs, e⟩ := hk_cell hr
  rw [hg_eq e] at hv
  have hw := wsOf_get (k_G κ) e
  rw [cE_O _ f1] at hw
  have hi2 := hi O
  show kW κ H locs cells slots pc mls (cv (k_G κ) v :: .ref (g_mu (k_G κ) (q + 2)) :: st.map (cv (k_G κ)))
  rw [g_mu2]
  refine va_putF (v := cv (k_G κ) v) O.1 O.2.1 O.2.2.2.2.1 f4 ty0 f5 f6 (by rw [← ho]; exact O.2.2.2.1) O.2.2.2.2.2.1.1 hW.1.2.2.2 (wsOf_D _ h) hW.2.1.start q hw f2 k f3 (O.2.2.2.2.1 _ f7) (fun _ h9 => h9) (f10 rfl).1 hi2 (f10 rfl).2 f8 hn hf (by rw [List.length_map]; exact (List.getElem?_eq_some_iff.mp hv).1) hd (fun H1 locs1 hP hD hS => ?_)
  refine kW_size fun hz => kk O mls H1 locs1 cells slots hL (Wd_hs hW e ?_ hS hz)
  rw [cE_O _ f1, List.map_set]
  exact hP
/-- the one field that is read by a nest mate -/
theorem r_getN {own C : String} {T : u_T} {N index ci k : Nat} {host : String} {r : Nat} {v : Value} (f1 : ci < 20) (f2 : classes[ci]? = some (C, T, N)) (f3 : k < N) (f4 : ∀ w ∈ u_ws C T N, w ∈ BIG) (f7 : Cond.fieldLinkNest own index (T k).1 (T k).2.1 (T k).2.2.1 host ∈ BIGN) (ho : k_own κ = own) (h1 : r ≠ 1) (hr : hk h r = some ci) (hv : hg h r k = some v) (hd : decode cc pc = .ok (.getfield index, 3)) (kk : wA cc κ (pc + 3) ls (v :: st) h) : wA cc κ pc ls (.ref r :: st) h := by
  intro O mls H locs cells slots hL hW
  obtain ⟨q, rfl⟩ := two_of hW hr f1 h1
  obtain ⟨vs, e⟩ := hk_cell hr
  rw [hg_eq e] at hv
  have hw := wsOf_get (k_G κ) e
  rw [cE_O _ f1] at hw
  show kW κ H locs cells slots pc mls (.ref (g_mu (k_G κ) (q + 2)) :: st.map (cv (k_G κ)))
  rw [g_mu2]
  exact va_getN O.1 O.2.1 O.2.2.2.2.1 f4 (by rw [← ho]; exact O.2.2.2.1) O.2.2.2.2.2.1.1 hW.1.2.2.2 q hw f2 k f3 (va_Nw.use rfl (O.2.2.2.2.2.1.2.2.2.2.2 _ f7)) (fun _ h9 => h9) (v := cv (k_G κ) v) (by rw [List.getElem?_map, hv]; rfl) hd (kk O mls H locs cells slots hL hW)
theorem in_of {vs : List Value} {j : Int32} {x : Value} (h0 : 0 ≤ j) (hv : vs[j.toNatClampNeg]? = some x) : vp_in j vs.length := by
  rintro (q | q)
  · exact absurd q (Int32.not_lt.mpr h0)
  · have := (List.getElem?_eq_some_iff.mp hv).1
    omega
theorem r_iald {r : Nat} {j x : Int32} (h1 : r ≠ 1) (hr : hk h r = some 20) (h0 : 0 ≤ j) (hv : hg h r j.toNatClampNeg = some (.int x)) (hd : decode cc pc = .ok (.iaload, 1)) (kk : wA cc κ (pc + 1) ls (.int x :: st) h) : wA cc κ pc ls (.int j :: .ref r :: st) h := by
  intro O mls H locs cells slots hL hW
  obtain ⟨vs, e⟩ := hk_cell hr
  rw [hg_eq e] at hv
  rcases r with _ | _ | q
  · have e2 := hW.1.2.2.1
    rw [e] at e2
    cases e2
    refine va_ti O.1 O.2.1 O.2.2.2.2.2.1.2.2.1 hW.2.1 (i := j) (in_of h0 hv) (v := .int x) ?_ hd (kk O mls H locs cells slots hL hW)
    unfold facV at hv
    rw [List.getElem?_map] at hv
    obtain ⟨y, a, b⟩ := Option.map_eq_some_iff.mp hv
    unfold facF
    rw [List.getD_eq_getElem?_getD, a]
    exact b
  · exact absurd rfl h1
  · have hw := wsOf_get (k_G κ) e
    rw [cE_I] at hw
    show kW κ H locs cells slots pc mls (.int j :: .ref (g_mu (k_G κ) (q + 2)) :: st.map (cv (k_G κ)))
    rw [g_mu2]
    refine va_iald O.1 O.2.1 O.2.2.2.2.2.1.1 hW.1.2.2.2 q 0 hw rfl (in_of h0 hv) hd ?_
    rw [List.getD_eq_getElem?_getD, hv]
    exact kk O mls H locs cells slots hL hW
theorem upd_toI {vs : List Value} {k : Nat} {x : Int32} (hk : k < vs.length) : (fun j => c_toI ((vs.set k (.int x)).getD j .null)) = upd (fun j => c_toI (vs.getD j .null)) k x := by
  funext j
  show c_toI ((vs.set k (.int x)).getD j .null) = if j = k then x else c_toI (vs.getD j .null)
  rw [List.getD_eq_getElem?_getD, List.getD_eq_getElem?_getD, List.getElem?_set]
  by_cases e : j = k
  · subst e
    simp [hk, c_toI]
  · simp [e, Ne.symm e]
theorem r_iast {r : Nat} {j x : Int32} {w : Value} (h1 : 2 ≤ r) (hr : hk h r = some 20) (h0 : 0 ≤ j) (hv : hg h r j.toNatClampNeg = some w) (hd : decode cc pc = .ok (.iastore, 1)) (kk : wA cc κ (pc + 1) ls st (hs h r j.toNatClampNeg (.int x))) : wA cc κ pc ls (.int x :: .int j :: .ref r :: st) h := by
  intro O mls H locs cells slots hL hW
  obtain ⟨vs, e⟩ := hk_cell hr
  rw [hg_eq e] at hv
  obtain ⟨q, rfl⟩ : ∃ q, r = q + 2 := ⟨r - 2, by omega⟩
  have hw := wsOf_get (k_G κ) e
  rw [cE_I] at hw
  show kW κ H locs cells slots pc mls (.int x :: .int j :: .ref (g_mu (k_G κ) (q + 2)) :: st.map (cv (k_G κ)))
  rw [g_mu2]
  refine va_iast O.1 O.2.1 O.2.2.2.2.2.1.1 hW.1.2.2.2 (wsOf_D _ h) hW.2.1.start q 0 hw rfl (in_of h0 hv) hd (fun H1 locs1 hP hD hS => ?_)
  refine kW_size fun hz => kk O mls H1 locs1 cells slots hL (Wd_hs hW e ?_ hS hz)
  rw [cE_I, List.length_set, upd_toI (List.getElem?_eq_some_iff.mp hv).1]
  exact hP
theorem r_zald {r : Nat} {j x : Int32} (h1 : 2 ≤ r) (hr : hk h r = some 21) (h0 : 0 ≤ j) (hv : hg h r j.toNatClampNeg = some (.int x)) (hd : decode cc pc = .ok (.baload, 1)) (kk : wA cc κ (pc + 1) ls (.int x :: st) h) : wA cc κ pc ls (.int j :: .ref r :: st) h := by
  intro O mls H locs cells slots hL hW
  obtain ⟨vs, e⟩ := hk_cell hr
  rw [hg_eq e] at hv
  obtain ⟨q, rfl⟩ : ∃ q, r = q + 2 := ⟨r - 2, by omega⟩
  have hw := wsOf_get (k_G κ) e
  rw [cE_Z] at hw
  show kW κ H locs cells slots pc mls (.int j :: .ref (g_mu (k_G κ) (q + 2)) :: st.map (cv (k_G κ)))
  rw [g_mu2]
  refine va_zald O.1 O.2.1 O.2.2.2.2.2.1.1 hW.1.2.2.2 q 1 hw rfl (in_of h0 hv) hd ?_
  rw [List.getD_eq_getElem?_getD, hv]
  exact kk O mls H locs cells slots hL hW
theorem r_zast {r : Nat} {j x : Int32} {w : Value} (h1 : 2 ≤ r) (hr : hk h r = some 21) (h0 : 0 ≤ j) (hx : x = 0 ∨ x = 1) (hv : hg h r j.toNatClampNeg = some w) (hd : decode cc pc = .ok (.bastore, 1)) (kk : wA cc κ (pc + 1) ls st (hs h r j.toNatClampNeg (.int x))) : wA cc κ pc ls (.int x :: .int j :: .ref r :: st) h := by
  intro O mls H locs cells slots hL hW
  obtain ⟨vs, e⟩ := hk_cell hr
  rw [hg_eq e] at hv
  obtain ⟨q, rfl⟩ : ∃ q, r = q + 2 := ⟨r - 2, by omega⟩
  have hw := wsOf_get (k_G κ) e
  rw [cE_Z] at hw
  show kW κ H locs cells slots pc mls (.int x :: .int j :: .ref (g_mu (k_G κ) (q + 2)) :: st.map (cv (k_G κ)))
  rw [g_mu2]
  refine va_zast O.1 O.2.1 O.2.2.2.2.2.1.1 hW.1.2.2.2 (wsOf_D _ h) hW.2.1.start q 1 hw rfl (in_of h0 hv) hd (fun H1 locs1 hP hD hS => ?_)
  refine kW_size fun hz => kk O mls H1 locs1 cells slots hL (Wd_hs hW e ?_ hS hz)
  rw [cE_Z, List.length_set, upd_toI (List.getElem?_eq_some_iff.mp hv).1]
  have en : vp_nar .boolean x = x := by rcases hx with rfl | rfl <;> rfl
  rw [en] at hP
  exact hP
theorem r_aald {r y : Nat} {j : Int32} (h1 : 2 ≤ r) (hr : hk h r = some 22) (h0 : 0 ≤ j) (hv : hg h r j.toNatClampNeg = some (.ref y)) (hd : decode cc pc = .ok (.aaload, 1)) (kk : wA cc κ (pc + 1) ls (.ref y :: st) h) : wA cc κ pc ls (.int j :: .ref r :: st) h := by
  intro O mls H locs cells slots hL hW
  obtain ⟨vs, e⟩ := hk_cell hr
  rw [hg_eq e] at hv
  obtain ⟨q, rfl⟩ : ∃ q, r = q + 2 := ⟨r - 2, by omega⟩
  have hw := wsOf_get (k_G κ) e
  rw [cE_R] at hw
  show kW κ H locs cells slots pc mls (.int j :: .ref (g_mu (k_G κ) (q + 2)) :: st.map (cv (k_G κ)))
  rw [g_mu2]
  have hin := in_of h0 hv
  have hlt := (List.getElem?_eq_some_iff.mp hv).1
  refine W.aald (v := .ref (g_mu (k_G κ) y)) (ty := .array .int) O.1 O.2.1 (hW.1.2.2.2 q _ hw) ((O.2.2.2.2.2.1.1.2 2 _ rfl).1 vs.length (fun j => va_rf (c_toR (k_G κ) (vs.getD j .null)))) rfl (fun z => by cases z) (by show ¬ (j < 0 ∨ (arrV _ _ _).slots.size ≤ _); rw [arrV_size]; exact hin) (by show (arrV _ _ _).slots[_]? = _; rw [arrV_read _ _ hlt]; show some (va_rf (c_toR (k_G κ) (vs.getD j.toNatClampNeg .null))) = _; rw [List.getD_eq_getElem?_getD, hv]; rfl) rfl rfl hd (kk O mls H locs cells slots hL hW)
theorem r_alen {r n : Nat} (h1 : r ≠ 1) (hr : hk h r = some 20) (hv : hn h r = some n) (hd : decode cc pc = .ok (.arraylength, 1)) (kk : wA cc κ (pc + 1) ls (.int (Int32.ofNat n) :: st) h) : wA cc κ pc ls (.ref r :: st) h := by
  intro O mls H locs cells slots hL hW
  obtain ⟨vs, e⟩ := hk_cell hr
  have hv2 : vs.length = n := by
    unfold hn at hv
    rw [e] at hv
    exact Option.some.inj hv
  clear hv
  rcases r with _ | _ | q
  · have e2 := hW.1.2.2.1
    rw [e] at e2
    cases e2
    exact va_tlen O.1 O.2.1 O.2.2.2.2.2.1.2.2.1 hW.2.1 (by rw [← hv2]; rfl) hd (kk O mls H locs cells slots hL hW)
  · exact absurd rfl h1
  · have hw := wsOf_get (k_G κ) e
    rw [cE_I] at hw
    show kW κ H locs cells slots pc mls (.ref (g_mu (k_G κ) (q + 2)) :: st.map (cv (k_G κ)))
    rw [g_mu2]
    exact va_alen O.1 O.2.1 O.2.2.2.2.2.1.1 hW.1.2.2.2 q 0 hw rfl (by rw [← hv2]) hd (kk O mls H locs cells slots hL hW)
theorem r_gets {own : String} {index : Nat} (hw : Cond.fieldLink own index "PackLanes" "FACTORIALS" "[I" ∈ BIG) (ho : k_own κ = own) (hd : decode cc pc = .ok (.getstatic index, 3)) (kk : wA cc κ (pc + 3) ls (.ref 0 :: st) h) : wA cc κ pc ls st h := by
  intro O mls H locs cells slots hL hW
  exact va_gets O.1 O.2.1 O.2.2.2.2.2.1.2.1 hW.2.1 (by rw [← ho]; exact O.2.2.2.1) (O.2.2.2.2.1 _ hw) (fun _ h9 => h9) hd (kk O mls H locs cells slots hL hW)
end RU
