section NU
variable {cc : ByteArray} {κ : KT} {pc : Nat} {ls st : LV} {h : HV}
theorem r_oinit {own : String} {index r : Nat} (hw : Cond.methodLink own index Lib.objectInit ∈ BIG) (hi : Cond.instanceMethod Lib.objectInit ∈ BIG) (hc : Cond.code Lib.objectInit ⟨#[0xb1]⟩ 1 none ∈ BIG) (ho : k_own κ = own) (hR : 1 ≤ (k_R κ).frames ∧ 20 ≤ (k_R κ).locals) (hst : stw st ≤ 8) (hd : decode cc pc = .ok (.invokespecial index, 3)) (kk : wA cc κ (pc + 3) ls st h) : wA cc κ pc ls (.ref r :: st) h := by
  subst ho
  intro O mls H locs cells slots hL hW
  exact W.objInit O.1 O.2.1 O.2.2.2.1 (O.2.2.2.2.1 _ hw) (O.2.2.2.2.1 _ hi) (O.2.2.2.2.1 _ hc) rfl (by rw [O.2.2.1]; exact Lh_size hL) rfl hd hR.1 (by show 2 * 0 + ((st.map (cv (k_G κ))).map fun v => v.category).sum + 12 ≤ _; rw [stw_cv]; omega) (kk O mls H locs cells slots hL hW)
/-- behind a new cell -/
theorem Wd_push {H H1 : Heap} {locs : List Loc} {cells slots q : Nat} {c : Nat × List Value} (hW : Wd κ H locs cells slots h) (hb : g_base (k_G κ) ≤ (k_s κ).heap.size) (hP : va_P (g_D (k_G κ)) classes (wsOf (k_G κ) h ++ [(q, cE (k_G κ) c)]) H1) (hD : va_D (g_A (k_G κ)) (wsOf (k_G κ) h ++ [(q, cE (k_G κ) c)]))
    (hS : va_S (g_A (k_G κ)) H H1 locs) (hz : H1.size ≤ (k_s κ).heap.size + (cells + 1)) (hc : cells + 1 ≤ (k_R κ).cells) (hs : slots + c.2.length ≤ (k_R κ).slots) : q = g_mu (k_G κ) h.length ∧ Wd κ H1 locs (cells + 1) (slots + c.2.length) (h ++ [c]) := by
  obtain ⟨⟨w1, w2, w3, w4⟩, w5, w6, w7, w8, w9, w10⟩ := hW
  have hlast : (wsOf (k_G κ) h ++ [(q, cE (k_G κ) c)])[(wsOf (k_G κ) h).length]? = some (q, cE (k_G κ) c) := by simp
  have hlen : (wsOf (k_G κ) h).length = h.length - 2 := by
    have : ∀ (g : HV) (k : Nat), (wsAt (k_G κ) k g).length = g.length := fun g => by
      induction g with
      | nil => intro k; rfl
      | cons a t ih => intro k; simp [wsAt, ih]
    unfold wsOf
    rw [this, List.length_drop]
  have hq1 : q < H1.size := (hP _ _ hlast).lt
  have hq2 : g_base (k_G κ) ≤ q := hD.2 _ _ hlast
  have hq : q = H.size := by
    rcases Nat.lt_or_ge q H.size with a | a
    · have hi : q - g_base (k_G κ) < (wsOf (k_G κ) h).length := by omega
      obtain ⟨p, hp⟩ : ∃ p, (wsOf (k_G κ) h)[q - g_base (k_G κ)]? = some p := ⟨_, List.getElem?_eq_getElem hi⟩
      have e1 := (wsOf_len (k_G κ) h hp).1
      have e2 := hD.1 (q - g_base (k_G κ)) (wsOf (k_G κ) h).length p _ (by rw [List.getElem?_append_left hi]; exact hp) hlast (by rw [e1]; show _ = q; omega)
      omega
    · omega
  have hqm : q = g_mu (k_G κ) h.length := by
    obtain ⟨z, hz2⟩ : ∃ z, h.length = z + 2 := ⟨h.length - 2, by omega⟩
    rw [hz2, g_mu2]
    omega
  have hqb : q = g_base (k_G κ) + (h.length - 2) := by omega
  refine ⟨hqm, ⟨by rw [List.length_append]; show H1.size + 2 = _ + (h.length + 1); omega, by rw [List.length_append]; omega, by rw [List.getElem?_append_left (by omega)]; exact w3, ?_⟩, w5.go hS, by omega, by rw [List.length_append]; show h.length + 1 = _; omega, by rw [hsz_app]; omega, hc, hs⟩
  rw [wsOf_app _ w2, ← hqb]
  exact hP
theorem base_le {H : Heap} {locs : List Loc} {cells slots : Nat} (hW : Wd κ H locs cells slots h) : ∀ q, H.size ≤ q → g_A (k_G κ) q := fun q hq => by
  have a := hW.1.1
  have b := hW.1.2.1
  show g_base _ ≤ q
  omega
def NewOK (own : String) (index ci : Nat) (fs : List Value) : Prop :=
  ∃ (C : String) (T : u_T) (N : Nat) (ty0 : Nat → FieldType), ci < 20 ∧ classes[ci]? = some (C, T, N) ∧ (∀ w ∈ u_ws C T N, w ∈ BIG) ∧ (∀ k, k < N → parseFieldDescriptor (T k).2.2.1 = some (ty0 k)) ∧ Cond.classLink own index C ∈ BIG ∧ Cond.instantiable C N ∈ BIG ∧ Cond.initialized C ∈ BIG ∧ (∀ G : GT, fs.map (cv G) = fs) ∧ fs.length = N ∧ ∀ j, j < N → defaultValue (ty0 j) = vp_V fs j
theorem r_new {own : String} {index ci : Nat} {fs : List Value} (hF : NewOK own index ci fs) (ho : k_own κ = own) (h1 : h.length + 1 ≤ k_n0 κ + (k_R κ).cells) (h2 : hsz h + fs.length ≤ k_t0 κ + (k_R κ).slots) (hd : decode cc pc = .ok (.new index, 3)) (kk : wA cc κ (pc + 3) ls (.ref h.length :: st) (h ++ [(ci, fs)])) : wA cc κ pc ls st h := by
  subst ho
  intro O mls H locs cells slots hL hW
  obtain ⟨C, T, N, ty0, f1, f2, f3, f4, f5, f6, f7, f8, f9, f10⟩ := hF
  have c1 : cells + 1 ≤ (k_R κ).cells := by have := hW.2.2.2.1; omega
  have c2 : slots + fs.length ≤ (k_R κ).slots := by have := hW.2.2.2.2.1; omega
  refine va_new (fs := fs) O.1 O.2.1 O.2.2.2.2.1 f3 ty0 f4 O.2.2.2.1 (O.2.2.2.2.1 _ f5) (O.2.2.2.2.1 _ f6) (O.2.2.2.2.1 _ f7) O.2.2.2.2.2.1.1 hW.1.2.2.2 (wsOf_D _ h) hW.2.1.start (base_le hW) f2 f10 c1 (by rw [← f9]; exact c2) hd (fun q H1 hP hD hS => ?_)
  refine kW_size fun hz => ?_
  have e : cE (k_G κ) (ci, fs) = .inr (ci, fs) := by rw [cE_O _ f1, f8]
  rw [← e] at hP hD
  obtain ⟨g1, g2⟩ := Wd_push hW O.2.2.2.2.2.1.2.2.2.2.1 hP hD hS hz c1 c2
  have := kk O mls H1 locs (cells + 1) (slots + fs.length) hL g2
  rw [f9] at this
  rw [g1]
  exact this
theorem toI_rep (n : Nat) : (fun j => c_toI ((List.replicate n (Value.int 0)).getD j .null)) = fun _ => 0 := by
  funext j
  rw [List.getD_eq_getElem?_getD, List.getElem?_replicate]
  split <;> rfl
theorem r_newI {n : Nat} {x : Int32} (hw : Cond.arrayClass .int ∈ BIG) (h0 : ¬ x < 0) (hx : x.toNatClampNeg = n) (hn : n ≤ 100000000) (h1 : h.length + 1 ≤ k_n0 κ + (k_R κ).cells) (h2 : hsz h + n ≤ k_t0 κ + (k_R κ).slots) (hd : decode cc pc = .ok (.newarray .int, 2)) (kk : wA cc κ (pc + 2) ls (.ref h.length :: st) (h ++ [(20, List.replicate n (.int 0))])) : wA cc κ pc ls (.int x :: st) h := by
  intro O mls H locs cells slots hL hW
  have c1 : cells + 1 ≤ (k_R κ).cells := by have := hW.2.2.2.1; omega
  have c2 : slots + n ≤ (k_R κ).slots := by have := hW.2.2.2.2.1; omega
  refine va_newa (atype := .int) (ty := .int) (N' := n) (a0 := (n, .inl fun _ => 0)) O.1 O.2.1 (O.2.2.2.2.1 _ hw) rfl O.2.2.2.2.2.1.1 hW.1.2.2.2 (wsOf_D _ h) hW.2.1.start (base_le hW) (fun cA => rfl) h0 hx (by show n * 4 ≤ _; omega) c1 c2 hd (fun q cA H1 hK hP hD hS => ?_)
  refine kW_size fun hz => ?_
  have e2 : cA = g_I (k_G κ) := by
    have a := (hK.2 3 (cA, .int) (by rfl)).2
    have b := (hK.2 0 (g_I (k_G κ), .int) (by rfl)).2
    exact Option.some.inj (a.symm.trans b)
  have e : cE (k_G κ) (20, List.replicate n (.int 0)) = .inl (cA, n, .inl fun _ => 0) := by rw [cE_I, toI_rep, List.length_replicate, e2]
  rw [← e] at hP hD
  obtain ⟨g1, g2⟩ := Wd_push (c := (20, List.replicate n (.int 0))) hW O.2.2.2.2.2.1.2.2.2.2.1 hP hD hS hz c1 (by rw [List.length_replicate]; exact c2)
  have := kk O mls H1 locs (cells + 1) _ hL g2
  rw [List.length_replicate] at this
  rw [g1]
  exact this
theorem r_newZ {n : Nat} {x : Int32} (hw : Cond.arrayClass .boolean ∈ BIG) (h0 : ¬ x < 0) (hx : x.toNatClampNeg = n) (hn : n ≤ 100000000) (h1 : h.length + 1 ≤ k_n0 κ + (k_R κ).cells) (h2 : hsz h + n ≤ k_t0 κ + (k_R κ).slots) (hd : decode cc pc = .ok (.newarray .boolean, 2)) (kk : wA cc κ (pc + 2) ls (.ref h.length :: st) (h ++ [(21, List.replicate n (.int 0))])) : wA cc κ pc ls (.int x :: st) h := by
  intro O mls H locs cells slots hL hW
  have c1 : cells + 1 ≤ (k_R κ).cells := by have := hW.2.2.2.1; omega
  have c2 : slots + n ≤ (k_R κ).slots := by have := hW.2.2.2.2.1; omega
  refine va_newa (atype := .boolean) (ty := .boolean) (N' := n) (a0 := (n, .inl fun _ => 0)) O.1 O.2.1 (O.2.2.2.2.1 _ hw) rfl O.2.2.2.2.2.1.1 hW.1.2.2.2 (wsOf_D _ h) hW.2.1.start (base_le hW) (fun cA => rfl) h0 hx (by show n * 1 ≤ _; omega) c1 c2 hd (fun q cA H1 hK hP hD hS => ?_)
  refine kW_size fun hz => ?_
  have e2 : cA = g_Z (k_G κ) := by
    have a := (hK.2 3 (cA, .boolean) (by rfl)).2
    have b := (hK.2 1 (g_Z (k_G κ), .boolean) (by rfl)).2
    exact Option.some.inj (a.symm.trans b)
  have e : cE (k_G κ) (21, List.replicate n (.int 0)) = .inl (cA, n, .inl fun _ => 0) := by rw [cE_Z, toI_rep, List.length_replicate, e2]
  rw [← e] at hP hD
  obtain ⟨g1, g2⟩ := Wd_push (c := (21, List.replicate n (.int 0))) hW O.2.2.2.2.2.1.2.2.2.2.1 hP hD hS hz c1 (by rw [List.length_replicate]; exact c2)
  have := kk O mls H1 locs (cells + 1) _ hL g2
  rw [List.length_replicate] at this
  rw [g1]
  exact this
/-- System.arraycopy of ints -/
def cpyL (src dst : List Value) (sp dp n : Nat) : List Value := (List.range dst.length).map fun k => if dp ≤ k ∧ k < dp + n then src.getD (sp + (k - dp)) .null else dst.getD k .null
theorem cpyL_toI {src dst : List Value} {sp dp n : Nat} (hd : dp + n ≤ dst.length) : (fun j => c_toI ((cpyL src dst sp dp n).getD j .null)) = va_cpy (fun j => c_toI (src.getD j .null)) (fun j => c_toI (dst.getD j .null)) sp dp n := by
  funext k
  unfold va_cpy cpyL
  rw [List.getD_eq_getElem?_getD, List.getElem?_map]
  by_cases hk : k < dst.length
  · rw [List.getElem?_range hk]
    simp only [Option.map_some, Option.getD_some]
    split <;> rfl
  · rw [List.getElem?_eq_none (by rw [List.length_range]; omega), if_neg (by omega)]
    show _ = c_toI (dst.getD k .null)
    rw [List.getD_eq_getElem?_getD, List.getElem?_eq_none (by omega)]
    rfl
theorem r_copy {own : String} {index a b : Nat} {x y z : Int32} {src dst : List Value} (hw : Cond.methodLink own index arraycopyName ∈ BIG) (hwn : Cond.native arraycopyName ∈ BIG) (hws : Cond.static arraycopyName ∈ BIG) (hwi : Cond.initialized "java/lang/System" ∈ BIG) (ho : k_own κ = own) (hR : 1 ≤ (k_R κ).frames ∧ 26 ≤ (k_R κ).locals) (hst : stw st ≤ 8)
    (ha : h[a]? = some (20, src)) (hb : h[b]? = some (20, dst)) (a2 : 2 ≤ a) (b2 : 2 ≤ b) (h1 : ¬ x < 0) (h2 : ¬ y < 0) (h3 : ¬ z < 0) (h4 : x.toNatClampNeg + z.toNatClampNeg ≤ src.length) (h5 : y.toNatClampNeg + z.toNatClampNeg ≤ dst.length) (hd : decode cc pc = .ok (.invokestatic index, 3))
    (kk : wA cc κ (pc + 3) ls st (h.set b (20, cpyL src dst x.toNatClampNeg y.toNatClampNeg z.toNatClampNeg))) : wA cc κ pc ls (.int z :: .int y :: .ref b :: .int x :: .ref a :: st) h := by
  subst ho
  intro O mls H locs cells slots hL hW
  obtain ⟨qa, rfl⟩ : ∃ q, a = q + 2 := ⟨a - 2, by omega⟩
  obtain ⟨qb, rfl⟩ : ∃ q, b = q + 2 := ⟨b - 2, by omega⟩
  have wa := wsOf_get (k_G κ) ha
  have wb := wsOf_get (k_G κ) hb
  rw [cE_I] at wa wb
  show kW κ H locs cells slots pc mls (.int z :: .int y :: .ref (g_mu (k_G κ) (qb + 2)) :: .int x :: .ref (g_mu (k_G κ) (qa + 2)) :: st.map (cv (k_G κ)))
  rw [g_mu2, g_mu2]
  refine va_copyi O.1 O.2.1 (by rw [O.2.2.1]; exact (Lh_size hL).symm) O.2.2.2.1 (O.2.2.2.2.1 _ hw) (O.2.2.2.2.1 _ hwn) (O.2.2.2.2.1 _ hws) (O.2.2.2.2.1 _ hwi) O.2.2.2.2.2.1.1 hW.1.2.2.2 (wsOf_D _ h) hW.2.1.start qa qb 0 0 wa wb rfl rfl rfl h1 h2 h3 h4 h5 (fun i _ => rfl) hR.1 ?_ hd (fun H1 locs1 hP hD hS => ?_)
  · rw [stw_cv]
    show stw st + (7 + 11) ≤ _
    omega
  refine kW_size fun hz => ?_
  have hlen : (cpyL src dst x.toNatClampNeg y.toNatClampNeg z.toNatClampNeg).length = dst.length := by unfold cpyL; simp
  have e : cE (k_G κ) (20, cpyL src dst x.toNatClampNeg y.toNatClampNeg z.toNatClampNeg) = .inl (g_I (k_G κ), dst.length, .inl (va_cpy (fun j => c_toI (src.getD j .null)) (fun j => c_toI (dst.getD j .null)) x.toNatClampNeg y.toNatClampNeg z.toNatClampNeg)) := by rw [cE_I, cpyL_toI h5, hlen]
  rw [← e] at hP
  rw [wsOf_set] at hP
  obtain ⟨⟨w1, w2, w3, w4⟩, w5, w6, w7, w8, w9, w10⟩ := hW
  have es : H1.size = H.size := Nat.le_antisymm (by rw [w6]; exact hz) hS.1
  refine kk O mls H1 locs1 cells slots hL ⟨⟨by rw [List.length_set, es]; exact w1, by rw [List.length_set]; exact w2, by rw [List.getElem?_set_ne (by omega)]; exact w3, hP⟩, w5.go hS, by rw [es]; exact w6, by rw [List.length_set]; exact w7, ?_, w9, w10⟩
  rw [hsz_set h (qb + 2) _ _ hb hlen]
  exact w8
theorem r_mna {own : String} {index n : Nat} {x : Int32} (hw : Cond.classLink own index "[[I" ∈ BIG) (hwa : Cond.arrayClass .int ∈ BIG) (ho : k_own κ = own) (h0 : ¬ x < 0) (hx : x.toNatClampNeg = n) (hn : n ≤ 100000000) (h1 : h.length + 3 ≤ k_n0 κ + (k_R κ).cells) (h2 : hsz h + (2 + 2 * n) ≤ k_t0 κ + (k_R κ).slots) (hd : decode cc pc = .ok (.multianewarray index 2, 4))
    (kk : wA cc κ (pc + 4) ls (.ref h.length :: st) (h ++ [(22, [.ref (h.length + 1), .ref (h.length + 2)])] ++ [(20, List.replicate n (.int 0))] ++ [(20, List.replicate n (.int 0))])) : wA cc κ pc ls (.int x :: .int 2 :: st) h := by
  subst ho
  subst hx
  intro O mls H locs cells slots hL hW
  have c1 : cells + 3 ≤ (k_R κ).cells := by have := hW.2.2.2.1; omega
  have c2 : slots + (2 + 2 * x.toNatClampNeg) ≤ (k_R κ).slots := by have := hW.2.2.2.2.1; omega
  intro T hT X
  have two : (2 : Int32).toNatClampNeg = 2 := by decide
  obtain ⟨vm₁, cA, comp, -, fA, fC, -, -, X', step⟩ := X.multianewarray2F (ty := .int) O.1 O.2.2.2.1 (O.2.2.2.2.1 _ hw) O.2.2.2.2.2.1.2.2.2.1 (O.2.2.2.2.1 _ hwa) (g := F0 (k_m κ) pc mls (.int x :: .int 2 :: st.map (cv (k_G κ)))) rfl (by rw [O.2.1]; exact hd) rfl (by decide) h0 (by decide) (by show _ * 4 ≤ _; omega) (by omega) rfl rfl (by rw [two]; omega) (by rw [two]; omega)
  rw [two] at X' step
  have ecomp : comp = g_I (k_G κ) := Option.some.inj (fC.symm.trans (O.2.2.2.2.2.1.1.2 0 (g_I (k_G κ), .int) rfl).2)
  have ecA : cA = g_R (k_G κ) := Option.some.inj (fA.symm.trans (O.2.2.2.2.2.1.1.2 2 (g_R (k_G κ), .array .int) rfl).2)
  subst ecomp
  subst ecA
  generalize hF : Jvm.Free.Multi.fill (T.setVm vm₁) (g_R (k_G κ)) (g_I (k_G κ)) 2 x.toNatClampNeg (defaultValue .int) 2 = F at X' step
  have hTh : (T.setVm vm₁).heap = H := hT
  obtain ⟨f1, f2, -, -⟩ := Jvm.Free.Multi.fill_facts (T.setVm vm₁) (g_R (k_G κ)) (g_I (k_G κ)) 2 x.toNatClampNeg (defaultValue .int) 2
  rw [hF, hTh] at f1 f2
  have hold : ∀ a : Nat, a < H.size → F.heap[a]? = H[a]? := fun a ha => by
    have := Jvm.Free.Multi.fill_old (T.setVm vm₁) (g_R (k_G κ)) (g_I (k_G κ)) 2 x.toNatClampNeg (defaultValue .int) (a := a) (by rw [hTh]; exact ha) 2
    rw [hF, hTh] at this
    exact this
  have hrow : ∀ j : Nat, j < 2 → F.heap[H.size + 1 + j]? = some (vp_cell (g_I (k_G κ)) (x.toNatClampNeg, .inl fun _ => 0)) := fun j hj => by
    have := Jvm.Free.Multi.fill_inner (T.setVm vm₁) (g_R (k_G κ)) (g_I (k_G κ)) 2 x.toNatClampNeg (defaultValue .int) 2 j hj
    rw [hF, hTh] at this
    rw [this, vp_cell_i, ← arrV_new]
    rfl
  obtain ⟨⟨w1, w2, w3, w4⟩, w5, w6, w7, w8, w9, w10⟩ := hW
  obtain ⟨z, hz⟩ : ∃ z, h.length = z + 2 := ⟨h.length - 2, by omega⟩
  have hsz1 : H.size = g_base (k_G κ) + z := by omega
  have e3 : ((h ++ [(22, [Value.ref (h.length + 1), .ref (h.length + 2)])] ++ [(20, List.replicate x.toNatClampNeg (.int 0))] ++ [(20, List.replicate x.toNatClampNeg (.int 0))] : HV)).length = h.length + 3 := by simp
  have hout : Jvm.Free.Multi.outerC (g_R (k_G κ)) 2 H.size 2 = vp_cell (g_R (k_G κ)) (2, .inr (.inr (.inr (.inr (fun j => c_toR (k_G κ) (([.ref (h.length + 1), .ref (h.length + 2)] : List Value).getD j .null)))))) := by
    rw [vp_cell_q]
    show (({ cls := g_R (k_G κ), slots := Array.replicate 2 .null, vm := .none } : Cell).setSlot 0 (.ref (H.size + 1 + 0))).setSlot 1 (.ref (H.size + 1 + 1)) = _
    rw [arrV_new, arrV_store, arrV_store]
    unfold arrV
    congr 1
    congr 1
    funext j
    have e1 : g_mu (k_G κ) (h.length + 1) = H.size + 1 := by rw [hz, show z + 2 + 1 = (z + 1) + 2 by omega, g_mu2]; omega
    have e2 : g_mu (k_G κ) (h.length + 2) = H.size + 2 := by rw [hz, show z + 2 + 2 = (z + 2) + 2 by omega, g_mu2]; omega
    match j with
    | ⟨0, _⟩ => simp [updV, c_toR, va_rf, e1]
    | ⟨1, _⟩ => simp [updV, c_toR, va_rf, e2]
  have hP0 : va_P (g_D (k_G κ)) classes (wsOf (k_G κ) h) F.heap := w4.kept (fun k9 q hx => hold q.1 ((w4 k9 q hx).lt))
  have one : ∀ (q : Nat) (e : va_E), va_at (g_D (k_G κ)) classes (q, e) F.heap → va_P (g_D (k_G κ)) classes [(q, e)] F.heap := fun q e hq k9 y hy => by
    have h0 : k9 < 1 := (List.getElem?_eq_some_iff.mp hy).1
    rw [show k9 = 0 by omega] at hy
    cases hy
    exact hq
  have hWo : Wo (k_G κ) (h ++ [(22, [.ref (h.length + 1), .ref (h.length + 2)])] ++ [(20, List.replicate x.toNatClampNeg (.int 0))] ++ [(20, List.replicate x.toNatClampNeg (.int 0))]) F.heap := by
    refine ⟨by rw [e3, f1]; omega, by rw [e3]; omega, ?_, ?_⟩
    · rw [List.append_assoc, List.append_assoc, List.getElem?_append_left (by omega)]
      exact w3
    · rw [wsOf_app _ (by simp), wsOf_app _ (by simp; try omega), wsOf_app _ w2]
      refine ((hP0.app (one _ _ ?_)).app (one _ _ ?_)).app (one _ _ ?_)
      · rw [cE_R, show g_base (k_G κ) + (h.length - 2) = H.size by omega]
        show F.heap[H.size]? = some (vp_cell _ _)
        rw [f2, hout]
        rfl
      · rw [cE_I, toI_rep, List.length_replicate, show g_base (k_G κ) + ((h ++ [(22, [Value.ref (h.length + 1), .ref (h.length + 2)])] : HV).length - 2) = H.size + 1 + 0 by simp; omega]
        exact hrow 0 (by omega)
      · rw [cE_I, toI_rep, List.length_replicate, show g_base (k_G κ) + ((h ++ [(22, [Value.ref (h.length + 1), .ref (h.length + 2)])] ++ [(20, List.replicate x.toNatClampNeg (.int 0))] : HV).length - 2) = H.size + 1 + 1 by simp; omega]
        exact hrow 1 (by omega)
  obtain ⟨t, a, b⟩ := kk O mls F.heap locs (cells + 1 + 2) (slots + 2 + 2 * x.toNatClampNeg) hL ⟨hWo, ⟨by rw [f1, w6]; omega, fun q a b => by rw [hold q (by rw [w6]; omega)]; exact w5.2.1 q a b, w5.2.2⟩, by rw [f1, w6]; omega, by rw [e3]; omega, by simp only [hsz_app, List.length_replicate]; show hsz h + 2 + _ + _ = _; omega, by omega, by omega⟩ F rfl X'
  refine ⟨t, step t ?_, b⟩
  have e5 : (T.heap.size : Nat) = g_mu (k_G κ) h.length := by rw [hT, hz, g_mu2]; omega
  rw [e5]
  exact a
def CallI (own : String) (index : Nat) (y : MethodName) (bytes : ByteArray) (maxL : Nat) (n : Nat) : Prop :=
  (Cond.methodLink own index y ∈ BIG ∨ ∃ host, Cond.methodLinkNest own index y host ∈ BIGN) ∧ Cond.instanceMethod y ∈ BIG ∧ Cond.initialized y.cls ∈ BIG ∧ Cond.code y bytes maxL none ∈ BIG ∧ y.name = "<init>" ∧ (y.cls ≠ "java/lang/invoke/MethodHandle" ∧ y.cls ≠ "java/lang/invoke/VarHandle" ∧ (parseMethodDescriptor y.desc).map (fun d => d.parameters.length) = some n)
theorem r_callI {own : String} {index : Nat} {y : MethodName} {bytes : ByteArray} {maxL : Nat} {n r : Nat} {t : LV} {rm : Room} {X : PM} {K : Option Value → HV → Prop}
    (hc : CallI own index y bytes maxL n) (hC : Ctr (k_l κ) y bytes maxL none rm X) (ho : k_own κ = own) (hR : rm.frames + 1 ≤ (k_R κ).frames ∧ 8 + (maxL + 11) + rm.locals ≤ (k_R κ).locals) (hst : stw st ≤ 8)
    (hm1 : h.length + rm.cells ≤ k_n0 κ + (k_R κ).cells) (hm2 : hsz h + rm.slots ≤ k_t0 κ + (k_R κ).slots) (hn : t.length = n) (hX : X (.ref r :: t) h K) (hd : decode cc pc = .ok (.invokespecial index, 3)) (kk : ∀ o h', K o h' → wA cc κ (pc + 3) ls (o.toList ++ st) h') : wA cc κ pc ls (t.reverse ++ .ref r :: st) h := by
  subst ho
  intro O mls H locs cells slots hL hW
  obtain ⟨c1, c2, c4, c5, c6, c7⟩ := hc
  have g1 : cells + rm.cells ≤ (k_R κ).cells := by have := hW.2.2.2.1; omega
  have g2 : slots + rm.slots ≤ (k_R κ).slots := by have := hW.2.2.2.2.1; omega
  refine r_back (cc := cc) (y := y) (vs := .ref r :: t) (rest := st) (av := (.ref (g_mu (k_G κ) r)) :: t.map (cv (k_G κ))) (K := K) (rm := rm) hL hW g1 g2 ?_ kk O
  have hpre : PreS (k_s κ) H (mP (k_G κ) (.ref r :: t) h) (.ref (g_mu (k_G κ) r) :: t.map (cv (k_G κ))) := ⟨mP_blind _ _ _, Pc_of (mls := mls) O hW rfl⟩
  have hstk : (t.reverse ++ .ref r :: st).map (cv (k_G κ)) = (t.map (cv (k_G κ))).reverse ++ .ref (g_mu (k_G κ) r) :: st.map (cv (k_G κ)) := by simp [cv]
  have hw8 : 2 * (F0 (k_m κ) pc mls ((t.reverse ++ .ref r :: st).map (cv (k_G κ)))).monitorRoom + ((st.map (cv (k_G κ))).map fun v => v.category).sum ≤ 8 := by
    show 2 * 0 + ((st.map (cv (k_G κ))).map fun v => v.category).sum ≤ 8
    rw [stw_cv]; omega
  rcases c1 with c1 | ⟨host, c1⟩
  · exact va_runI (As := t.map (cv (k_G κ))) (n := n) ⟨O.1, O.2.1, O.2.2.1, O.2.2.2.1, O.2.2.2.2.1⟩ (hC (k_G κ) (.ref r :: t) h K hX) (cwI n O.2.2.2.2.1 (big_code c5) rfl rfl rfl (O.2.2.2.2.1 _ c4) (O.2.2.2.2.1 _ c1) (O.2.2.2.2.1 _ c2) c6 c7 hR) hpre rfl (by rw [List.length_map]; exact hn) (Lh_size hL) hstk hw8 hd ⟨g1, g2⟩
  · exact va_runIN (As := t.map (cv (k_G κ))) (n := n) (host := host) ⟨O.1, O.2.1, O.2.2.1, O.2.2.2.1, O.2.2.2.2.1⟩ (hC (k_G κ) (.ref r :: t) h K hX) ⟨va_cnB n O.2.2.2.2.1 (big_code c5) rfl rfl rfl (O.2.2.2.2.2.1.2.2.2.2.2 _ c1) (O.2.2.2.2.1 _ c4) c7 hR, c6, O.2.2.2.2.1 _ c2⟩ hpre rfl (by rw [List.length_map]; exact hn) (Lh_size hL) hstk hw8 hd ⟨g1, g2⟩
theorem r_ret {i : Instr} {o : Option Value} (hrt : retI (k_rt κ) i o) (hd : decode cc pc = .ok (i, 1)) (hr : k_ret κ o h) : wA cc κ pc ls o.toList h := fun O mls H locs cells slots hL hW => by
  have e : (o.toList).map (cv (k_G κ)) = o.toList.map (cv (k_G κ)) := rfl
  exact O.2.2.2.2.2.2 pc i o mls H locs cells slots h hrt hd hW hr
/-- switches: the body at which the case of a value begins -/
def ixI : List (Int32 × Nat) → Nat → Int → Nat
  | [], d, _ => d
  | (k, i) :: t, d, v => if v = k.toInt then i else ixI t d v
def ixOf : List (Int32 × Nat) → Nat → Int32 → Nat
  | [], d, _ => d
  | (k, i) :: t, d, v => if v = k then i else ixOf t d v
theorem ix_eq (d : Nat) (v : Int32) : ∀ tbl : List (Int32 × Nat), ixI tbl d v.toInt = ixOf tbl d v
  | [] => rfl
  | (k, i) :: t => by
    simp only [ixI, ixOf, ix_eq d v t, Int32.toInt_inj]
def tsOK (pc : Nat) (dflt lo hi : Int) (offs : List Int) (tbl : List (Int32 × Nat)) (d : Nat) (pcs : List Nat) : Bool :=
  (List.range offs.length).all (fun j => decide ((pc : Int) + offs.getD j 0 = ((pcs.getD (ixI tbl d (lo + j)) 0 : Nat) : Int))) && tbl.all (fun q => decide (lo ≤ q.1.toInt) && decide (q.1.toInt ≤ hi)) && decide ((offs.length : Int) = hi - lo + 1) && decide ((pc : Int) + dflt = ((pcs.getD d 0 : Nat) : Int))
theorem ixI_out (d : Nat) (v lo hi : Int) (hv : v < lo ∨ hi < v) : ∀ tbl : List (Int32 × Nat), (∀ q ∈ tbl, lo ≤ q.1.toInt ∧ q.1.toInt ≤ hi) → ixI tbl d v = d
  | [], _ => rfl
  | (k, i) :: t, h => by
    have h1 := h (k, i) List.mem_cons_self
    simp only at h1
    simp only [ixI]
    rw [if_neg (by omega), ixI_out d v lo hi hv t fun q hq => h q (List.mem_cons_of_mem _ hq)]
theorem r_tsw {dflt lo hi : Int} {offs : Array Int} {len : Nat} {x : Int32} {tbl : List (Int32 × Nat)} {d : Nat} {pcs : List Nat} (hd : decode cc pc = .ok (.tableswitch dflt lo hi offs, len)) (hok : tsOK pc dflt lo hi offs.toList tbl d pcs = true) (kk : wA cc κ (pcs.getD (ixOf tbl d x) 0) ls st h) : wA cc κ pc ls (.int x :: st) h := by
  intro O mls H locs cells slots hL hW
  unfold tsOK at hok
  simp only [Bool.and_eq_true, decide_eq_true_eq, List.all_eq_true, List.mem_range] at hok
  obtain ⟨⟨⟨h1, h2⟩, h3⟩, h4⟩ := hok
  have k2 := kk O mls H locs cells slots hL hW
  rw [← ix_eq] at k2
  by_cases hv : x.toInt < lo ∨ hi < x.toInt
  · rw [ixI_out d x.toInt lo hi hv tbl h2] at k2
    exact lv_tableOut O.1 O.2.1 hd hv h4 k2
  · have hj : (x.toInt - lo).toNat < offs.toList.length := by omega
    have h5 := h1 _ hj
    rw [show lo + ((x.toInt - lo).toNat : Int) = x.toInt by omega] at h5
    refine lv_tableIn O.1 O.2.1 hd (fun q => hv (Or.inl q)) (fun q => hv (Or.inr q)) (off := offs.toList.getD (x.toInt - lo).toNat 0) ?_ h5 k2
    rw [← Array.getElem?_toList, List.getD_eq_getElem?_getD, List.getElem?_eq_getElem hj]
    rfl
def lsOK (pc : Nat) (dflt : Int) (ps : List (Int × Int)) (tbl : List (Int32 × Nat)) (d : Nat) (pcs : List Nat) : Bool :=
  (ps.zip (ps.drop 1)).all (fun (a, next) => a.1 < next.1) && decide (ps.map (fun q => ((q.1, (pc : Int) + q.2) : Int × Int)) = tbl.map (fun q => ((q.1.toInt, ((pcs.getD q.2 0 : Nat) : Int)) : Int × Int))) && decide ((pc : Int) + dflt = ((pcs.getD d 0 : Nat) : Int))
theorem ls_off (pc : Nat) (dflt v : Int) (d : Nat) (pcs : List Nat) (hd : (pc : Int) + dflt = ((pcs.getD d 0 : Nat) : Int)) : ∀ (ps : List (Int × Int)) (tbl : List (Int32 × Nat)), ps.map (fun q => ((q.1, (pc : Int) + q.2) : Int × Int)) = tbl.map (fun q => ((q.1.toInt, ((pcs.getD q.2 0 : Nat) : Int)) : Int × Int)) → (pc : Int) + Op.lookupswitch.offset ps dflt v = ((pcs.getD (ixI tbl d v) 0 : Nat) : Int)
  | [], [], _ => by simpa [Op.lookupswitch.offset, ixI] using hd
  | [], _ :: _, h => by simp at h
  | _ :: _, [], h => by simp at h
  | (a, b) :: ps, (k, i) :: tbl, h => by
    simp only [List.map_cons, List.cons.injEq, Prod.mk.injEq] at h
    obtain ⟨⟨h1, h2⟩, h3⟩ := h
    have ih := ls_off pc dflt v d pcs hd ps tbl h3
    subst h1
    by_cases e : v = k.toInt
    · subst e
      simpa [Op.lookupswitch.offset, ixI] using h2
    · have e2 : ¬ k.toInt = v := fun q => e q.symm
      simpa [Op.lookupswitch.offset, ixI, e, e2] using ih
theorem r_lsw {dflt : Int} {ps : Array (Int × Int)} {len : Nat} {x : Int32} {tbl : List (Int32 × Nat)} {d : Nat} {pcs : List Nat} (hd : decode cc pc = .ok (.lookupswitch dflt ps, len)) (hok : lsOK pc dflt ps.toList tbl d pcs = true) (kk : wA cc κ (pcs.getD (ixOf tbl d x) 0) ls st h) : wA cc κ pc ls (.int x :: st) h := by
  intro O mls H locs cells slots hL hW
  unfold lsOK at hok
  simp only [Bool.and_eq_true, decide_eq_true_eq] at hok
  obtain ⟨⟨h1, h2⟩, h4⟩ := hok
  have k2 := kk O mls H locs cells slots hL hW
  rw [← ix_eq] at k2
  exact lv_lookup O.1 O.2.1 hd h1 rfl (ls_off pc dflt x.toInt d pcs h4 _ _ h2) k2
end NU
