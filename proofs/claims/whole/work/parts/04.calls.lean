theorem aO_moved {u U : State} (hvm : u.vm.Alike U.vm) (h : (Cond.arrayOver (.array .int)).before #[] u = true) : (Cond.arrayOver (.array .int)).before #[] U = true := by
  have h2 : (Cond.arrayOver (.array .int)).holds #[] u none u [] = true := h
  simp only [Cond.holds, Cond.value, beq_iff_eq] at h2
  rw [Option.bind_eq_some_iff] at h2
  obtain ⟨comp, f1, h2⟩ := h2
  rw [Option.bind_eq_some_iff] at h2
  obtain ⟨c, f2, h2⟩ := h2
  rw [Option.map_eq_some_iff] at h2
  obtain ⟨k, f3, h2⟩ := h2
  obtain ⟨k', hk', he⟩ := hvm.2.2 _ _ f3
  have ga := va_idx_bare U.vm comp
  have gb := va_idx_bare u.vm comp
  first | rw [hvm.bare_eq] at gb | rw [← hvm.bare_eq] at gb
  have hi := (ga.symm.trans gb).trans f2
  show (Cond.arrayOver (.array .int)).holds #[] U none U [] = true
  simp only [Cond.holds, Cond.value, beq_iff_eq]
  rw [Option.bind_eq_some_iff]
  refine ⟨comp, by rw [hvm.findClass]; exact f1, ?_⟩
  rw [Option.bind_eq_some_iff]
  refine ⟨c, hi, ?_⟩
  rw [Option.map_eq_some_iff]
  refine ⟨k', hk', ?_⟩
  have hkd : k'.kind = k.kind := by rw [he]
  rw [hkd, hvm.findClass]
  exact h2
section CU
variable {cc : ByteArray} {κ : KT} {pc : Nat} {ls st : LV} {h : HV}
def stw (st : LV) : Nat := (st.map fun v => v.category).sum
theorem stw_cv (G : GT) (st : LV) : ((st.map (cv G)).map fun v => v.category).sum = stw st := by
  unfold stw
  rw [List.map_map]
  congr 1
  exact List.map_congr_left fun v _ => cv_cat G v
theorem Ta_moved {G : GT} {u U : State} {H : Heap} (hW : u.WarmedH U.vm) (h : Ta G u H) : Ta G U H := ⟨h.1.moved hW.alike, h.2.1.moved hW.alike, h.2.2.1.moved hW.alike, aO_moved hW.alike h.2.2.2.1, h.2.2.2.2.1, fun w hw => nw_warm (bign_nest w hw) hW (h.2.2.2.2.2 w hw)⟩
theorem Ta_kept {G : GT} {U : State} {H0 H : Heap} {locs : List Loc} (h : Ta G U H0) (hS : va_S (g_A G) H0 H locs) : Ta G U H := ⟨h.1, h.2.1.kept hS.2.1, h.2.2.1.kept hS.2.1, h.2.2.2.1, Nat.le_trans h.2.2.2.2.1 hS.1, h.2.2.2.2.2⟩
/-- a method's contract, by its abstract meaning X -/
abbrev PM : Type := List Value → HV → (Option Value → HV → Prop) → Prop
def mQ (G : GT) (h : HV) (rm : Room) (Qp : Option Value → HV → Prop) : Array Value → State → Outcome → State → Prop := fun _ st o t =>
  (∃ (r : Option Value) (h' : HV), o = .returned (r.map (cv G)) ∧ Qp r h' ∧ Wo G h' t.heap ∧ h'.length = h.length + rm.cells ∧ hsz h' = hsz h + rm.slots) ∧ va_F (g_A G) st t
abbrev mP (G : GT) (vs : List Value) (h : HV) : Array Value → State → Prop := va_Pc (vs.map (cv G)) (fun U => Wo G h U.heap ∧ Ta G U U.heap)
def Ctr (l : Launch) (y : MethodName) (bytes : ByteArray) (maxL : Nat) (ret : Option FieldType) (rm : Room) (X : PM) : Prop :=
  ∀ (G : GT) (vs : List Value) (h : HV) (Qp : Option Value → HV → Prop), X vs h Qp → Met l y (Cond.code y bytes maxL ret :: BIG) rm (mP G vs h) (mQ G h rm Qp) rm.cells rm.slots (g_A G)
theorem mP_blind (G : GT) (vs : List Value) (h : HV) : FrameBlind (mP G vs h) := fun a U g mk q => ⟨q.1, q.2.1, Ta_moved (u := U) (U := U.calling g mk a) (State.WarmedH.refl U) q.2.2⟩
theorem big_code {y : MethodName} {bytes : ByteArray} {maxL : Nat} {ret : Option FieldType} (hc : Cond.code y bytes maxL ret ∈ BIG) : GoodIn BIG (Cond.code y bytes maxL ret :: BIG) := fun w hw => by
  rcases List.mem_cons.mp hw with rfl | h1
  · exact big_good _ hc
  · exact big_good _ h1
/-- behind a call -/
theorem r_back {y : MethodName} {rm : Room} {vs rest : LV} {mls : Array Slot} {H : Heap} {locs : List Loc} {cells slots : Nat} {K : Option Value → HV → Prop} {st0 : List Value} {av : List Value} (hL : Lh (k_G κ) (k_nL κ) mls ls) (hW : Wd κ H locs cells slots h) (hc : cells + rm.cells ≤ (k_R κ).cells) (hs : slots + rm.slots ≤ (k_R κ).slots)
    (hr : va_Run (k_p κ) (k_l κ) (k_e κ) (k_R κ) (k_s κ) (k_m κ) (k_a κ) (k_b κ) (k_me κ) (k_c κ) H locs cells slots rm.cells rm.slots (F0 (k_m κ) pc mls st0) (rest.map (cv (k_G κ))) (mQ (k_G κ) h rm K av.toArray) (g_A (k_G κ)))
    (kk : ∀ o h', K o h' → wA cc κ (pc + 3) ls (o.toList ++ rest) h') (O : KO cc κ) : kW κ H locs cells slots pc mls st0 := by
  intro T hT X
  obtain ⟨v, st₀, t, T', L, h0, X', hL2, e1, e2, ⟨⟨r, h', hv, hK, hWo, hn1, hn2⟩, hz, hk⟩, stp⟩ := hr T hT X
  cases hv
  rw [h0] at hz hk
  obtain ⟨w1, w2, w3, w4, w5, w6, w7⟩ := hW
  rw [← e1] at hWo
  have hsz : T'.heap.size = (k_s κ).heap.size + (cells + rm.cells) := by
    have a := hWo.1
    have b := w1.1
    have c := w1.2.1
    omega
  have hS : va_S (g_A (k_G κ)) (k_s κ).heap T'.heap (locs ++ L) := ⟨by rw [hsz]; exact Nat.le_add_right _ _, fun q a b => by rw [e1, hk q (by rw [w3]; omega) b]; exact w2.2.1 q a b, fun q hq => by
    rcases List.mem_append.mp hq with a | a
    · exact w2.2.2 q a
    · exact hL2 q a⟩
  obtain ⟨t2, a1, b1⟩ := kk r h' hK O mls T'.heap (locs ++ L) (cells + rm.cells) (slots + rm.slots) hL ⟨hWo, hS, hsz, by omega, by omega, hc, hs⟩ T' rfl X'
  refine ⟨t2, stp t2 ?_, b1⟩
  have e3 : (List.map (cv (k_G κ)) (r.toList ++ rest)) = (Option.map (cv (k_G κ)) r).toList ++ List.map (cv (k_G κ)) rest := by
    rw [List.map_append]
    cases r <;> rfl
  rw [← e3]
  exact a1
def CallV (own : String) (index : Nat) (y : MethodName) (bytes : ByteArray) (maxL : Nat) (ret : Option FieldType) (n : Nat) : Prop :=
  Cond.methodLink own index y ∈ BIG ∧ Cond.instanceMethod y ∈ BIG ∧ Cond.selects y.cls y y ∈ BIG ∧ Cond.initialized y.cls ∈ BIG ∧ Cond.code y bytes maxL ret ∈ BIG ∧ (y.cls = y.cls ∧ y.cls ≠ "java/lang/invoke/MethodHandle" ∧ y.cls ≠ "java/lang/invoke/VarHandle" ∧ (parseMethodDescriptor y.desc).map (fun d => d.parameters.length) = some n)
def CallS (own : String) (index : Nat) (y : MethodName) (bytes : ByteArray) (maxL : Nat) (ret : Option FieldType) (n : Nat) : Prop :=
  Cond.methodLink own index y ∈ BIG ∧ Cond.static y ∈ BIG ∧ Cond.initialized y.cls ∈ BIG ∧ Cond.code y bytes maxL ret ∈ BIG ∧ (y.cls ≠ "java/lang/invoke/MethodHandle" ∧ y.cls ≠ "java/lang/invoke/VarHandle" ∧ (parseMethodDescriptor y.desc).map (fun d => d.parameters.length) = some n)
def CallSN (own : String) (index : Nat) (y : MethodName) (host : String) (bytes : ByteArray) (maxL : Nat) (ret : Option FieldType) (n : Nat) : Prop :=
  Cond.methodLinkNest own index y host ∈ BIGN ∧ Cond.static y ∈ BIG ∧ Cond.initialized y.cls ∈ BIG ∧ Cond.code y bytes maxL ret ∈ BIG ∧ (y.cls ≠ "java/lang/invoke/MethodHandle" ∧ y.cls ≠ "java/lang/invoke/VarHandle" ∧ (parseMethodDescriptor y.desc).map (fun d => d.parameters.length) = some n)
theorem Pc_of {vs : LV} {mls : Array Slot} {H : Heap} {locs : List Loc} {cells slots : Nat} (O : KO cc κ) (hW : Wd κ H locs cells slots h) {av : List Value} (ha : av = vs.map (cv (k_G κ))) : ∀ U : State, U.heap = H → (k_s κ).WarmedH U.vm → mP (k_G κ) vs h av.toArray U := fun U hU hWm => by
  refine ⟨by rw [ha], by rw [hU]; exact hW.1, ?_⟩
  rw [hU]
  exact Ta_moved hWm (Ta_kept O.2.2.2.2.2.1 hW.2.1)
theorem r_callV {own : String} {index : Nat} {y : MethodName} {bytes : ByteArray} {maxL : Nat} {ret : Option FieldType} {n ci r : Nat} {t : LV} {rm : Room} {X : PM} {K : Option Value → HV → Prop} {T : u_T} {N : Nat}
    (hc : CallV own index y bytes maxL ret n) (hC : Ctr (k_l κ) y bytes maxL ret rm X) (hm : rm.cells = 0 ∧ rm.slots = 0) (ho : k_own κ = own) (hR : rm.frames + 1 ≤ (k_R κ).frames ∧ 8 + (maxL + 11) + rm.locals ≤ (k_R κ).locals) (hst : stw st ≤ 8)
    (hcl : classes[ci]? = some (y.cls, T, N)) (hci : ci < 20) (h1 : r ≠ 1) (hr : hk h r = some ci) (hn : t.length = n) (hX : X (.ref r :: t) h K) (hd : decode cc pc = .ok (.invokevirtual index, 3)) (kk : ∀ o h', K o h' → wA cc κ (pc + 3) ls (o.toList ++ st) h') : wA cc κ pc ls (t.reverse ++ .ref r :: st) h := by
  subst ho
  intro O mls H locs cells slots hL hW
  obtain ⟨c1, c2, c3, c4, c5, c6⟩ := hc
  obtain ⟨q, rfl⟩ := two_of hW hr hci h1
  obtain ⟨fs, e⟩ := hk_cell hr
  have hw := wsOf_get (k_G κ) e
  rw [cE_O _ hci] at hw
  have hrc := va_recv O.2.2.2.2.2.1.1 hW.1.2.2.2 hcl hw
  refine r_back (cc := cc) (y := y) (vs := .ref (q + 2) :: t) (rest := st) (av := .ref (g_base (k_G κ) + q) :: t.map (cv (k_G κ))) (K := K) (rm := rm) hL hW (by rw [hm.1]; exact hW.2.2.2.2.2.1) (by rw [hm.2]; exact hW.2.2.2.2.2.2) ?_ kk O
  refine va_runV (As := t.map (cv (k_G κ))) (C := y.cls) (n := n) ⟨O.1, O.2.1, O.2.2.1, O.2.2.2.1, O.2.2.2.2.1⟩ (hC (k_G κ) (.ref (q + 2) :: t) h K hX) (cwV n O.2.2.2.2.1 ?_ rfl rfl rfl c6 hR) ⟨mP_blind _ _ _, hrc, Pc_of (mls := mls) O hW (by simp [cv, g_mu2])⟩ rfl (by rw [List.length_map]; exact hn) (Lh_size hL) ?_ ?_ hd ⟨by rw [hm.1]; exact hW.2.2.2.2.2.1, by rw [hm.2]; exact hW.2.2.2.2.2.2⟩
  · intro w hw2
    unfold wsV at hw2
    rcases List.mem_append.mp hw2 with h9 | h9
    · simp only [List.mem_cons, List.not_mem_nil, or_false] at h9
      rcases h9 with rfl | rfl | rfl | rfl
      · exact big_good _ c1
      · exact big_good _ c2
      · exact big_good _ c3
      · exact big_good _ c4
    · exact big_code c5 w h9
  · show (t.reverse ++ .ref (q + 2) :: st).map (cv (k_G κ)) = _
    simp [cv, g_mu2]
  · show 2 * 0 + ((st.map (cv (k_G κ))).map fun v => v.category).sum ≤ 8
    rw [stw_cv]; omega
theorem r_callS {own : String} {index : Nat} {y : MethodName} {bytes : ByteArray} {maxL : Nat} {ret : Option FieldType} {n : Nat} {t : LV} {rm : Room} {X : PM} {K : Option Value → HV → Prop}
    (hc : CallS own index y bytes maxL ret n) (hC : Ctr (k_l κ) y bytes maxL ret rm X) (hm : rm.cells = 0 ∧ rm.slots = 0) (ho : k_own κ = own) (hR : rm.frames + 1 ≤ (k_R κ).frames ∧ 8 + (maxL + 11) + rm.locals ≤ (k_R κ).locals) (hst : stw st ≤ 8)
    (hn : t.length = n) (hX : X t h K) (hd : decode cc pc = .ok (.invokestatic index, 3)) (kk : ∀ o h', K o h' → wA cc κ (pc + 3) ls (o.toList ++ st) h') : wA cc κ pc ls (t.reverse ++ st) h := by
  subst ho
  intro O mls H locs cells slots hL hW
  obtain ⟨c1, c2, c4, c5, c6⟩ := hc
  refine r_back (cc := cc) (y := y) (vs := t) (rest := st) (av := t.map (cv (k_G κ))) (K := K) (rm := rm) hL hW (by rw [hm.1]; exact hW.2.2.2.2.2.1) (by rw [hm.2]; exact hW.2.2.2.2.2.2) ?_ kk O
  refine va_runS (As := t.map (cv (k_G κ))) (n := n) ⟨O.1, O.2.1, O.2.2.1, O.2.2.2.1, O.2.2.2.2.1⟩ (hC (k_G κ) t h K hX) (va_cwS n O.2.2.2.2.1 ?_ rfl rfl rfl c6 hR) ⟨mP_blind _ _ _, Pc_of (mls := mls) O hW rfl⟩ rfl (by rw [List.length_map]; exact hn) (Lh_size hL) ?_ ?_ hd ⟨by rw [hm.1]; exact hW.2.2.2.2.2.1, by rw [hm.2]; exact hW.2.2.2.2.2.2⟩
  · intro w hw2
    unfold va_wsS at hw2
    rcases List.mem_append.mp hw2 with h9 | h9
    · simp only [List.mem_cons, List.not_mem_nil, or_false] at h9
      rcases h9 with rfl | rfl | rfl
      · exact big_good _ c1
      · exact big_good _ c2
      · exact big_good _ c4
    · exact big_code c5 w h9
  · show (t.reverse ++ st).map (cv (k_G κ)) = _
    simp
  · show 2 * 0 + ((st.map (cv (k_G κ))).map fun v => v.category).sum ≤ 8
    rw [stw_cv]; omega
theorem r_callSN {own : String} {index : Nat} {y : MethodName} {host : String} {bytes : ByteArray} {maxL : Nat} {ret : Option FieldType} {n : Nat} {t : LV} {rm : Room} {X : PM} {K : Option Value → HV → Prop}
    (hc : CallSN own index y host bytes maxL ret n) (hC : Ctr (k_l κ) y bytes maxL ret rm X) (hm : rm.cells = 0 ∧ rm.slots = 0) (ho : k_own κ = own) (hR : rm.frames + 1 ≤ (k_R κ).frames ∧ 8 + (maxL + 11) + rm.locals ≤ (k_R κ).locals) (hst : stw st ≤ 8)
    (hn : t.length = n) (hX : X t h K) (hd : decode cc pc = .ok (.invokestatic index, 3)) (kk : ∀ o h', K o h' → wA cc κ (pc + 3) ls (o.toList ++ st) h') : wA cc κ pc ls (t.reverse ++ st) h := by
  subst ho
  intro O mls H locs cells slots hL hW
  obtain ⟨c1, c2, c4, c5, c6⟩ := hc
  refine r_back (cc := cc) (y := y) (vs := t) (rest := st) (av := t.map (cv (k_G κ))) (K := K) (rm := rm) hL hW (by rw [hm.1]; exact hW.2.2.2.2.2.1) (by rw [hm.2]; exact hW.2.2.2.2.2.2) ?_ kk O
  refine va_runSN (As := t.map (cv (k_G κ))) (n := n) (host := host) ⟨O.1, O.2.1, O.2.2.1, O.2.2.2.1, O.2.2.2.2.1⟩ (hC (k_G κ) t h K hX) ⟨va_cnB n O.2.2.2.2.1 (big_code c5) rfl rfl rfl (O.2.2.2.2.2.1.2.2.2.2.2 _ c1) (O.2.2.2.2.1 _ c4) c6 hR, O.2.2.2.2.1 _ c2, trivial⟩ ⟨mP_blind _ _ _, Pc_of (mls := mls) O hW rfl⟩ rfl (by rw [List.length_map]; exact hn) (Lh_size hL) ?_ ?_ hd ⟨by rw [hm.1]; exact hW.2.2.2.2.2.1, by rw [hm.2]; exact hW.2.2.2.2.2.2⟩
  · show (t.reverse ++ st).map (cv (k_G κ)) = _
    simp
  · show 2 * 0 + ((st.map (cv (k_G κ))).map fun v => v.category).sum ≤ 8
    rw [stw_cv]; omega
end CU
