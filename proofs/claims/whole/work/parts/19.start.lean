/-! THE CLAIM OUT OF ONE WALK OF THE LAW'S BODY. Your part is whole_start (and what it stands on); all else here is the same for every law, but numbers. -/
def R_law : String := "PackLanesLaw"
def lw_P (b : Addr) (xs : List Int32) (args : Array Value) (s : State) : Prop := args = #[.ref b] ∧ s.IntsAt b xs ∧ xs.length ≤ 2048 ∧ (Jvm.Cond.and given_1 narrow_1).before args s = true
def lw_Q (_ : Array Value) (s : State) (o : Outcome) (t : State) : Prop := o = .returned (some (.int 1)) ∧ Framed s o t [] 600000 7302250
def lw_Z (below : List Frame) (a : Array Value) (s : State) : State → Prop := fun t => ∃ o, t.status = .running ∧ Ended t below o ∧ lw_Q a s o t
/-- the law's own end, with 1 on the stack, nothing written that was there before, its room as the claim has it -/
theorem lw_ret {p : Program} {l : Launch} {e : Env} {s : State} {m : MethodId} {below : List Frame} {meth : Method} {c : Code} {b : Nat} (hx : p.tables.exec = Jvm.exec) (hb : c.code = code) (hr : meth.sig.returnType = ret) (hlocks : meth.locks = false) {pc : Nat} {H : Heap} {ls : Array Slot} (hdg : decode code pc = .ok (.ireturn, 1)) : W p l e room_1 s m #[Value.ref b] below meth c H [] 600000 7302250 (lw_Z below #[Value.ref b] s) (F0 m pc ls [.int 1]) := by
  intro T hT X
  obtain ⟨fs, hret, hrun, hended, hW, hframe⟩ := X.leave (v := some (.int 1)) (hlocks := hlocks) (fun h => by rw [hr] at h; cases h)
  have hmeth' : T.vm.method? m = some meth := X.method'
  refine ⟨T.setFrames fs, ?_, .returned (some (.int 1)), hrun, hended, rfl, ⟨_, rfl⟩, hW, hframe⟩
  jvm_step X.here [X.here.top, hx, hb, hdg, hmeth', hr, ret, narrow_b1]
  (try refine ⟨rfl, ?_⟩); (try refine ⟨rfl, ?_⟩)
  first | (intro acts; rw [hret _ acts rfl rfl rfl]) | rw [hret _ _ rfl rfl rfl]
  exact Steps.refl _
/-- what holds at the law's entry: the machine, the code, the tables' words (any of lw_tbl by 'hts w (by decide +kernel)'), the script of L ints xs at the cell b, what the Statement gives of the start (any of its parts by flat_of_before) -/
def lw_At (p : Program) (s : State) (m : MethodId) (meth : Method) (c : Code) (b L : Nat) (xs : Nat → Int32) : Prop :=
  p.tables.exec = Jvm.exec ∧ c.code = code ∧ meth.sig.returnType = ret ∧ c.maxLocals = 4 ∧ s.vm.findClass R_law = some m.cls ∧ (∀ w ∈ lw_tbl, w.before #[Value.ref b] s = true) ∧ va_X b L xs s s.heap ∧ b < s.heap.size ∧ meth.locks = false ∧ (Jvm.Cond.and given_1 narrow_1).before #[Value.ref b] s = true
theorem c_known {C : String} {T : u_T} {N : Nat} {args : Array Value} {s : State} (hts : ∀ w ∈ lw_tbl, w.before args s = true) (hi : ∀ w ∈ u_ws C T N, w ∈ BIG) (n : Nat) (hin : Cond.instantiable C n ∈ BIG) : ∃ (cC : ClassId) (iS : Nat → Nat), u_Kn s C T N cC iS :=
  u_known (ws := lw_tbl) hts (fun w hw => big_sub w (hi w hw)) (hts _ (big_sub _ hin))
theorem choose_classes {s : State} : ∀ (l : List vw_C), (∀ q ∈ l, ∃ (cC : ClassId) (iS : Nat → Nat), u_Kn s q.1 q.2.1 q.2.2 cC iS) → ∃ (dC : Nat → ClassId) (dI : Nat → Nat → Nat), ∀ (k : Nat) (q : vw_C), l[k]? = some q → u_Kn s q.1 q.2.1 q.2.2 (dC k) (dI k)
  | [], _ => ⟨fun _ => 0, fun _ _ => 0, fun k q h => by simp at h⟩
  | a :: t, h => by
    obtain ⟨c0, i0, h0⟩ := h a List.mem_cons_self
    obtain ⟨dC, dI, hr⟩ := choose_classes t (fun q hq => h q (List.mem_cons_of_mem _ hq))
    refine ⟨fun k => match k with | 0 => c0 | k + 1 => dC k, fun k => match k with | 0 => i0 | k + 1 => dI k, fun k q hq => ?_⟩
    match k, hq with
    | 0, hq => simp at hq; subst hq; exact h0
    | k + 1, hq => simp at hq; exact hr k q hq
theorem arr_known {ty : FieldType} {args : Array Value} {s : State} (h : (Cond.arrayClass ty).before args s = true) : ∃ cA : ClassId, ArrOfT s cA ty ∧ s.vm.findClass ("[" ++ ty.toString) = some cA := by
  obtain ⟨c, k, comp, h1, h2, h3⟩ := Cond.arrayClass_spec (show (Cond.arrayClass ty).holds args s none s [] = true from h)
  exact ⟨c, fun n z => ⟨fun k h => (by cases h), k, h2, comp, h3⟩, h1⟩
theorem over_known {args : Array Value} {s : State} (h : (Cond.arrayOver (.array .int)).before args s = true) : ∃ cA : ClassId, ArrOfT s cA (.array .int) ∧ s.vm.findClass ("[" ++ (FieldType.array .int).toString) = some cA := by
  have h2 : (Cond.arrayOver (.array .int)).holds args s none s [] = true := h
  simp only [Cond.holds, Cond.value, beq_iff_eq] at h2
  rw [Option.bind_eq_some_iff] at h2
  obtain ⟨comp, f1, h2⟩ := h2
  rw [Option.bind_eq_some_iff] at h2
  obtain ⟨c, f2, h2⟩ := h2
  rw [Option.map_eq_some_iff] at h2
  obtain ⟨k, f3, h2⟩ := h2
  cases hk : k.kind with
  | array component ty =>
    rw [hk] at h2
    simp only [Bool.and_eq_true, decide_eq_true_eq] at h2
    obtain ⟨e1, e2⟩ := h2
    subst e1
    exact ⟨c, fun n z => ⟨fun k h => (by cases h), k, f3, component, hk⟩, e2⟩
  | _ => rw [hk] at h2; simp at h2
theorem ex_flat {args : Array Value} {s : State} (h : (Jvm.Cond.and given_1 narrow_1).before args s = true) : ∃ t : Nat, (Jvm.Term.static "PackLanes" "FACTORIALS" "[I").eval args s none [] s = some (.ref t) ∧ ∀ A : Nat → Prop, (∀ a : Nat, a < s.heap.size → ¬ A a) → va_T .int t 7 facF A s s.heap := by
  have hs := flat_of_before _ h
  have harr : (Cond.arrayOf (.static "PackLanes" "FACTORIALS" "[I") .int).before args s = true := hs _ (by decide +kernel)
  have hlen : (Term.length (.static "PackLanes" "FACTORIALS" "[I")).eval args s none [] s = some (.int (Int32.ofNat 7)) := va_eqt (hs (Cond.eq (.length (.static "PackLanes" "FACTORIALS" "[I")) (.int 7)) (by decide +kernel))
  have hel : ∀ j : Nat, j < 7 → (Term.elem (.static "PackLanes" "FACTORIALS" "[I") (.int (Int32.ofNat j))).eval args s none [] s = some (facF j) := by
    intro j hj
    match j, hj with
    | 0, _ => exact va_eqt (hs (Cond.eq (.elem (.static "PackLanes" "FACTORIALS" "[I") (.int 0)) (.int 1)) (by decide +kernel))
    | 1, _ => exact va_eqt (hs (Cond.eq (.elem (.static "PackLanes" "FACTORIALS" "[I") (.int 1)) (.int 1)) (by decide +kernel))
    | 2, _ => exact va_eqt (hs (Cond.eq (.elem (.static "PackLanes" "FACTORIALS" "[I") (.int 2)) (.int 2)) (by decide +kernel))
    | 3, _ => exact va_eqt (hs (Cond.eq (.elem (.static "PackLanes" "FACTORIALS" "[I") (.int 3)) (.int 6)) (by decide +kernel))
    | 4, _ => exact va_eqt (hs (Cond.eq (.elem (.static "PackLanes" "FACTORIALS" "[I") (.int 4)) (.int 24)) (by decide +kernel))
    | 5, _ => exact va_eqt (hs (Cond.eq (.elem (.static "PackLanes" "FACTORIALS" "[I") (.int 5)) (.int 120)) (by decide +kernel))
    | 6, _ => exact va_eqt (hs (Cond.eq (.elem (.static "PackLanes" "FACTORIALS" "[I") (.int 6)) (.int 720)) (by decide +kernel))
    | n + 7, hj => omega
  obtain ⟨t, h1, h2⟩ := va_Tof (A := fun _ => False) (by decide) harr hlen hel (fun _ _ q => q)
  refine ⟨t, h1, fun A hA => ?_⟩
  obtain ⟨cell, g1, g2, g3, g4, g5, g6, -⟩ := h2
  exact ⟨cell, g1, g2, g3, g4, g5, g6, hA t (Array.getElem?_eq_some_iff.mp g1).1⟩
/-- the heap at the law's entry -/
def h_0 (scr : List Int32) : HV := [(20, facV), (20, scr.map Value.int)]
theorem law_start {p : Program} {e : Env} {s : State} {m : MethodId} {below : List Frame} {meth : Method} {c : Code} (l : Launch) {b L : Nat} {xs : Nat → Int32} (C0 : lw_At p s m meth c b L xs)
    (hWP : ∀ scr : List Int32, scr.length = L → B_Law_law (2 + 600000, hsz (h_0 scr) + 7302250) scr (fun _ _ => False) (fun _ _ => False) (fun _ _ => False) (fun o _ => o = some (.int 1)) [.ref 1, .null, .null, .null] (h_0 scr)) :
    W p l e room_1 s m #[Value.ref b] below meth c s.heap [] 0 0 (lw_Z below #[Value.ref b] s) (entryFrame m ([Value.ref b] : List Value).toArray 4) := by
  obtain ⟨hx, hb, hr, hml, hown, hts, hX, hbl, hlocks, hgv⟩ := id C0
  have hts0 : ∀ w ∈ BIG, w.before #[Value.ref b] s = true := fun w hw => hts w (big_sub w hw)
  obtain ⟨dC, dI, hKc⟩ := choose_classes (s := s) classes (by
    intro q hq
    simp only [classes, List.mem_cons, List.not_mem_nil, or_false] at hq
    rcases hq with rfl | rfl | rfl | rfl | rfl | rfl | rfl | rfl | rfl | rfl | rfl
    · exact c_known hts Ki0 3 (big_t 89 (by decide +kernel) (by decide +kernel))
    · exact c_known hts Ki1 7 (big_t 42 (by decide +kernel) (by decide +kernel))
    · exact c_known hts Ki2 5 (big_t 146 (by decide +kernel) (by decide +kernel))
    · exact c_known hts Ki3 5 (big_t 268 (by decide +kernel) (by decide +kernel))
    · exact c_known hts Ki4 14 (big_t 140 (by decide +kernel) (by decide +kernel))
    · exact c_known hts Ki5 3 (big_t 123 (by decide +kernel) (by decide +kernel))
    · exact c_known hts Ki6 2 (big_t 106 (by decide +kernel) (by decide +kernel))
    · exact c_known hts Ki7 3 (big_t 24 (by decide +kernel) (by decide +kernel))
    · exact c_known hts Ki8 11 (big_t 172 (by decide +kernel) (by decide +kernel))
    · exact c_known hts Ki9 15 (big_t 16 (by decide +kernel) (by decide +kernel))
    · exact c_known hts Ki10 50 (big_t 743 (by decide +kernel) (by decide +kernel)))
  obtain ⟨cI, aI1, aI2⟩ := arr_known (hts0 _ w_arrI)
  obtain ⟨cZ, aZ1, aZ2⟩ := arr_known (hts0 _ w_arrZ)
  have hov : (Cond.arrayOver (.array .int)).before #[Value.ref b] s = true := hts _ (List.mem_append_right _ (List.mem_of_getElem? (i := 112) (by decide +kernel)))
  obtain ⟨cR, aR1, aR2⟩ := over_known hov
  obtain ⟨t, ht, hT⟩ := ex_flat hgv
  let G : GT := (dC, dI, cI, cZ, cR, t, b, s.heap.size)
  have hA0 : ∀ a : Nat, a < s.heap.size → ¬ g_A G a := fun a ha q => by
    have : s.heap.size ≤ a := q
    omega
  have hK : va_K (g_D G) classes (g_tys G) s := ⟨hKc, fun k q hq => by
    match k, hq with
    | 0, hq => cases hq; exact ⟨aI1, aI2⟩
    | 1, hq => cases hq; exact ⟨aZ1, aZ2⟩
    | 2, hq => cases hq; exact ⟨aR1, aR2⟩
    | k + 3, hq => simp at hq⟩
  have hZ : va_Z "PackLanes" "FACTORIALS" "[I" (.ref t) (g_A G) s s.heap := va_Zof (hts _ (List.mem_append_right _ (List.mem_of_getElem? (i := 693) (by decide +kernel)))) (hts _ (List.mem_append_right _ (List.mem_of_getElem? (i := 1) (by decide +kernel)))) ht hA0
  have hTa : Ta G s s.heap := ⟨hK, hZ, hT _ hA0, hov, Nat.le_refl _, fun w hw => nw_of (bign_nest w hw) (hts w (bign_tbl w hw))⟩
  let scr : List Int32 := (List.range L).map xs
  have hlen : scr.length = L := by simp [scr]
  let κ : KT := (p, l, e, room_1, s, m, #[Value.ref b], below, meth, c, lw_Z below #[Value.ref b] s, G, 4, 2, hsz (h_0 scr), "PackLanesLaw", some .boolean, fun o _ => o = some (.int 1))
  have hW0 : Wd κ s.heap [] 0 0 (h_0 scr) := ⟨⟨rfl, Nat.le_refl 2, rfl, fun k q hq => by simp [h_0, wsOf, wsAt] at hq⟩, va_S.rf, rfl, rfl, rfl, Nat.zero_le _, Nat.zero_le _⟩
  have O : KO code κ := by
    refine ⟨hx, hb, hml, hown, hts0, hTa, ?_⟩
    intro pc i o mls H locs cells slots h' hri hd hW hQ
    have hQ : o = some (.int 1) := hQ
    subst hQ
    obtain ⟨rfl, -⟩ := (hri : i = .ireturn ∧ _)
    have w9 : cells ≤ 600000 := hW.2.2.2.2.2.1
    have w10 : slots ≤ 7302250 := hW.2.2.2.2.2.2
    refine W.widen w9 w10 ?_
    refine va_forget (fun q hq => hW.2.1.2.2 q hq) ?_
    exact lw_ret hx hb hr hlocks hd
  have hsc : SC code κ scr := fun _ => by
    refine ⟨?_, hbl, fun q => ?_⟩
    · show va_X b scr.length (fun j => scr.getD j 0) s s.heap
      rw [hlen]
      obtain ⟨cell, g1, g2, g3, g4, g5⟩ := hX
      refine ⟨cell, g1, g2, g3, g4, fun j hj => ?_⟩
      rw [g5 j hj]
      simp [scr, hj]
    · have : s.heap.size ≤ b := q
      omega
  have key := v_Law_law κ scr hsc rfl rfl rfl [.ref 1, .null, .null, .null] (h_0 scr) (fun _ _ => False) (fun _ _ => False) (fun _ _ => False) (fun o _ => o = some (.int 1)) (fun _ _ q => q.elim) (fun _ _ q => q.elim) (fun _ _ q => q.elim) (fun _ _ q => q) (hWP scr hlen)
  rw [lg_entry_eq]
  have hl := lini_Lh G (n := 4) (vs := [Value.ref 1]) (by decide)
  have e0 : ([Value.ref 1] : List Value).map (cv G) = [.ref b] := rfl
  rw [e0] at hl
  exact key O _ s.heap [] 0 0 hl hW0
