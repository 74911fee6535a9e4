theorem isP (b : Nat) (hb : b = 35) : pB b := Or.inl hb
theorem p34 : pB 35 := Or.inl rfl
/-- the masks of a list of packs are one number -/
theorem mk_eq {x y : Int32} {D : Nat → Bool} (h1 : mk x D) (h2 : mk y D) : x = y := b_ext fun i hi => by rw [h1 i hi, h2 i hi]
def allL (P : PC) : List Nat := fl (idl (-9)) P.1
def rnA (P : PC) (w : Row) : RS := pRun P (rB w) w (allL P)
def rnP (P : PC) (w : Row) : RS := pRun P (rB w) w (ord P w).2.2.2
theorem ord_lt {P : PC} {w : Row} (hP : okP P) (ok : okRow w) : (ord P w).2.2.2.length ≤ 16 ∧ ∀ x, x ∈ (ord P w).2.2.2 → x < P.1 := by
  have okc := (cAt_ok (P := P) (f := fol P w no) (out := no) hP ok.1.2.2 (by simp [no]) (2 * (9 - rW w))).1
  have hon : ∀ i j, no i = true → nd (chs P w no).1 i j = true → no j = true := fun i j h => absurd h (by simp [no])
  exact ⟨sAt_ol (g := gF (fol P w no)) hP okc.2.1 hon 16, fun x hx => ((sAt_ord (P := P) (g := gF (fol P w no)) okc.2.1 hon 16).2 x hx).1⟩
theorem c_runA {A : AS} (hA : okA A) (scr : List Int32) {s : MS} (h : IC A s) (Q : Option Value → HV → Prop) (hQ : ∀ s', Fr FM s s' → mMa (rB (aR A)) (rnA (aP A) (aR A)) s' → Q none (hp scr s')) : X_Mach_runInOrder [.ref 61, .ref 20, .int (-9)] (hp scr s) Q :=
  s_Mach_runInOrder scr hA.2.1 h.2.1 (Or.inl rfl) hA.2.2.1.1.1 (by rw [h.2.2.1 16 (by omega)]; exact hA.2.2.1.2.1) (fun k hk => h.2.2.1 k (by omega)) (-9) Q hQ
theorem c_runP {A : AS} (hA : okA A) (scr : List Int32) {s : MS} (h : IC A s) (Q : Option Value → HV → Prop) (hQ : ∀ s', Fr FM s s' → mMa (rB (aR A)) (rnP (aP A) (aR A)) s' → Q none (hp scr s')) : X_Mach_runPacked [.ref 61, .ref 20, .ref 35] (hp scr s) Q :=
  s_Mach_runPacked scr hA.2.1 h.2.1 (Or.inl rfl) hA.2.2.1.1.1 (by rw [h.2.2.1 16 (by omega)]; exact hA.2.2.1.2.1) (fun k hk => h.2.2.1 k (by omega)) p34 h.2.2.2.2.2.2.2.2.1 (ord_lt hA.2.1 hA.2.2.1).1 (ord_lt hA.2.1 hA.2.2.1).2 Q hQ
theorem r_runA {A : AS} (hA : okA A) (scr : List Int32) {s : MS} (h : IR A s) (Q : Option Value → HV → Prop) (hQ : ∀ s', Fr FW s s' → mRr (rnA (aP A) (aR A)) s' → Q none (hp scr s')) : X_R_run [.ref 65, .ref 71, .int (-9)] (hp scr s) Q :=
  s_R_run scr hA.2.1 h.2.1 (Or.inl rfl) hA.2.2.1.1.1 (by rw [h.2.2.1 16 (by omega)]; exact hA.2.2.1.2.1) (fun k hk => h.2.2.1 k (by omega)) (-9) Q hQ
theorem r_runP {A : AS} (hA : okA A) (scr : List Int32) {s : MS} (h : IR A s) (Q : Option Value → HV → Prop) (hQ : ∀ s', Fr (fun a b => FQ a b ∨ FW a b) s s' → mRr (rnP (aP A) (aR A)) s' → Q none (hp scr s')) : X_R_packedRun [.ref 65, .ref 71] (hp scr s) Q :=
  s_R_packedRun scr hA.2.1 h.2.1 (Or.inl rfl) (mRow_of h.2.2.1 hA.2.2.1) hA.2.2.1.1 (fun k hk => h.2.2.1 k (by omega)) Q hQ
theorem s_R_packed {P : PC} (scr : List Int32) {s : MS} (hP : okP P) (hm : mR P s) {w : Nat} {K : List (List Nat)} (hK : ∀ B, B ∈ K → wfP P w B) (lK : K.length ≤ 100) (nK : NR P w 80 K s) (Q : Option Value → HV → Prop) (h : Q (some (.int (mS K.flatten))) (hp scr s)) : X_R_packed [.ref 65] (hp scr s) Q := by
  have h16 := hP.1
  simp [X_R_packed, B_R_packed, eV, eI, eL, eR, e1, e2, eDI, eDL, eFI, eFL, eFR, eAI, eAZ, eAR, eLen, aN, aC, xV, xS, eX, eIf, eC_b, cA, cO, cN, sSk, sSq, sI, sL, sR, sInc, sF, sFO, sAI, sAZ, sAO, sX, sXp, sIf, sCut, sSqs, sSw, sRt, sRz_g, is01_b, is01_0, is01_1, sRv, sBk, sCt, sCp, lset, lclr, lcut, lini, lx, Value.category, ixOf, b2i_0, b2i_1]
  refine lp_ind (fun z ls h => ∃ k y, z = P.1 - k ∧ k ≤ P.1 ∧ mk y (fun i => decide (i < k) && kpf K i) ∧ ls = [.ref 65, .int y, .int (nI k)] ∧ h = hp scr s) ?_ ⟨0, 0, rfl, by omega, fun i hi => by rw [b_0]; simp, rfl, rfl⟩
  rintro z ls h' ⟨k, y, hz, hk, hy, rfl, rfl⟩ X hX
  refine cX (t := decide (k < P.1)) (h' := hp scr s) ?h1 ?h2
  case h1 =>
    intro K
    simp [eV, eI, eL, eR, e1, e2, eDI, eDL, eFI, eFL, eFR, eAI, eAZ, eAR, eLen, aN, aC, xV, xS, eX, eIf, eC_b, cA, cO, cN, sSk, sSq, sI, sL, sR, sInc, sF, sFO, sAI, sAZ, sAO, sX, sXp, sIf, sCut, sSqs, sSw, sRt, sRz_g, is01_b, is01_0, is01_1, sRv, sBk, sCt, sCp, lset, lclr, lcut, lini, lx, Value.category, ixOf, b2i_0, b2i_1, T_R, hm.1]
    simp (disch := omega) only [LIT, L_0le, L_0lt, L_0eq, L_eq0, L_le0, L_lt0, L_1eq, L_eq1, L_1le, L_1lt, L_lt1, L_le1, L_p1, nI_ltI, nI_leI, nI_eq, nI_add, nI_clamp]
  case h2 =>
    by_cases hlt : k < P.1
    · have no1 := NR_no hP hK lK nK hlt
      simp only [hlt, decide_true, if_true]
      have go := fun x (hx : mk x (fun i => decide (i < k + 1) && kpf K i)) => hX (P.1 - (k + 1)) [.ref 65, .int x, .int (nI (k + 1))] (hp scr s) (by rw [hz]; omega) ⟨k + 1, x, rfl, hlt, hx, rfl, rfl⟩
      simp [eV, eI, eL, eR, e1, e2, eDI, eDL, eFI, eFL, eFR, eAI, eAZ, eAR, eLen, aN, aC, xV, xS, eX, eIf, eC_b, cA, cO, cN, sSk, sSq, sI, sL, sR, sInc, sF, sFO, sAI, sAZ, sAO, sX, sXp, sIf, sCut, sSqs, sSw, sRt, sRz_g, is01_b, is01_0, is01_1, sRv, sBk, sCt, sCp, lset, lclr, lcut, lini, lx, Value.category, ixOf, b2i_0, b2i_1, T_R, G_R, ixf hP.1 hlt, no1]
      cases c : kpf K k with
      | false =>
        simp [L_p1]
        refine go _ fun i hi => ?_
        rw [hy i hi]
        dsimp only
        by_cases e : i = k
        · subst e; rw [c]; simp
        · rw [show (decide (i < k + 1)) = decide (i < k) by rw [decide_eq_decide]; omega]
      | true =>
        simp [L_p1]
        refine go _ fun i hi => ?_
        rw [b_or, hy i hi, b_bit (by omega) hi]
        dsimp only
        by_cases e : i = k
        · subst e; rw [c]; simp
        · rw [show (decide (i < k + 1)) = decide (i < k) by rw [decide_eq_decide]; omega]; simp [e]
    · have : k = P.1 := by omega
      subst this
      simp only [hlt, decide_false, Bool.false_eq_true, if_false]
      simp [eV, eI, eL, eR, e1, e2, eDI, eDL, eFI, eFL, eFR, eAI, eAZ, eAR, eLen, aN, aC, xV, xS, eX, eIf, eC_b, cA, cO, cN, sSk, sSq, sI, sL, sR, sInc, sF, sFO, sAI, sAZ, sAO, sX, sXp, sIf, sCut, sSqs, sSw, sRt, sRz_g, is01_b, is01_0, is01_1, sRv, sBk, sCt, sCp, lset, lclr, lcut, lini, lx, Value.category, ixOf, b2i_0, b2i_1]
      have e : y = mS K.flatten := mk_eq hy fun i hi => by
        rw [mS_bit _ hi]
        show K.flatten.contains i = (decide (i < P.1) && K.flatten.contains i)
        cases c : K.flatten.contains i with
        | false => simp
        | true =>
          obtain ⟨B, b1, b2⟩ := List.mem_flatten.mp (List.contains_iff_mem.mp c)
          rw [decide_eq_true ((hK B b1).2 i b2)]; rfl
      rw [e]
      exact h
def abA (A : AS) (x : Int32) : Int32 :=
  if x = 0 then nI (aP A).1 else if x = 1 then aR A 16 else if x = 2 then aR A 17 else if x = 3 then aR A 18 else if x = 4 then nI (costP (aP A))
  else if x = 5 then nI (costP (aP A)) - (chs (aP A) (aR A) no).2.2 else if x = 6 then nI (chs (aP A) (aR A) no).1.length else if x = 7 then mS (chs (aP A) (aR A) no).1.flatten else if x = 8 then nI (chs (aP A) (aR A) no).2.1
  else if x = 9 then (rnA (aP A) (aR A)).2.2 else if x = 10 then (rnP (aP A) (aR A)).2.2 else if x = 11 then bestW (aP A) (aR A) else if x = 12 then nI (aH A).length else if x = 13 then nI (aS A).length else if x = 14 then nI (aT A).length else -2
theorem c_about {A : AS} (hA : okA A) (scr : List Int32) {s : MS} (h : IC A s) (x : Int32) (Q : Option Value → HV → Prop) (hQ : ∀ s', Fr Fc s s' → IC A s' → Q (some (.int (abA A x))) (hp scr s')) : X_PL_about [.ref 2, .int x] (hp scr s) Q := by
  have h' := h
  have h0 := hQ s Fr.rf h
  have fm := fun s' (g : Fr FM s s') => hQ s' (g.wk fun r k z => by omega) (IC_fr g (by omega) h')
  have fb := fun s' (g : Fr FB s s') => hQ s' (g.wk fun r k z => by omega) (IC_fr g (by omega) h')
  have okw := hA.2.2.1
  obtain ⟨i1, i2, i3, i4, i5, i6, i7⟩ := h
  have T3 := T_Pack p34 scr s
  have i16 : (16 : Int32).toNatClampNeg = 16 := rfl
  have i17 : (17 : Int32).toNatClampNeg = 17 := rfl
  have i18 : (18 : Int32).toNatClampNeg = 18 := rfl
  have v10 := i7.2.1.2.1
  have v11 := i7.2.1.2.2.1
  have v12 := i7.2.1.2.2.2.1
  have v13 := i7.2.1.2.2.2.2.1
  unfold abA at h0 fm fb
  by_cases x0 : x = 0
  · subst x0
    simp [X_PL_about, B_PL_about, eV, eI, eL, eR, e1, e2, eDI, eDL, eFI, eFL, eFR, eAI, eAZ, eAR, eLen, aN, aC, xV, xS, eX, eIf, eC_b, cA, cO, cN, sSk, sSq, sI, sL, sR, sInc, sF, sFO, sAI, sAZ, sAO, sX, sXp, sIf, sCut, sSqs, sSw, sRt, sRz_g, is01_b, is01_0, is01_1, sRv, sBk, sCt, sCp, lset, lclr, lcut, lini, lx, Value.category, ixOf, b2i_0, b2i_1, T_PL, T_Code c6, i2.1]
    simpa using h0
  by_cases x1 : x = 1
  · subst x1
    simp [X_PL_about, B_PL_about, eV, eI, eL, eR, e1, e2, eDI, eDL, eFI, eFL, eFR, eAI, eAZ, eAR, eLen, aN, aC, xV, xS, eX, eIf, eC_b, cA, cO, cN, sSk, sSq, sI, sL, sR, sInc, sF, sFO, sAI, sAZ, sAO, sX, sXp, sIf, sCut, sSqs, sSw, sRt, sRz_g, is01_b, is01_0, is01_1, sRv, sBk, sCt, sCp, lset, lclr, lcut, lini, lx, Value.category, ixOf, b2i_0, b2i_1, T_PL, G_row, i16, i3 16 (by omega)]
    simpa using h0
  by_cases x2 : x = 2
  · subst x2
    simp [X_PL_about, B_PL_about, eV, eI, eL, eR, e1, e2, eDI, eDL, eFI, eFL, eFR, eAI, eAZ, eAR, eLen, aN, aC, xV, xS, eX, eIf, eC_b, cA, cO, cN, sSk, sSq, sI, sL, sR, sInc, sF, sFO, sAI, sAZ, sAO, sX, sXp, sIf, sCut, sSqs, sSw, sRt, sRz_g, is01_b, is01_0, is01_1, sRv, sBk, sCt, sCp, lset, lclr, lcut, lini, lx, Value.category, ixOf, b2i_0, b2i_1, T_PL, G_row, i17, i3 17 (by omega)]
    simpa using h0
  by_cases x3 : x = 3
  · subst x3
    simp [X_PL_about, B_PL_about, eV, eI, eL, eR, e1, e2, eDI, eDL, eFI, eFL, eFR, eAI, eAZ, eAR, eLen, aN, aC, xV, xS, eX, eIf, eC_b, cA, cO, cN, sSk, sSq, sI, sL, sR, sInc, sF, sFO, sAI, sAZ, sAO, sX, sXp, sIf, sCut, sSqs, sSw, sRt, sRz_g, is01_b, is01_0, is01_1, sRv, sBk, sCt, sCp, lset, lclr, lcut, lini, lx, Value.category, ixOf, b2i_0, b2i_1, T_PL, G_row, i18, i3 18 (by omega)]
    simpa using h0
  by_cases x4 : x = 4
  · subst x4
    simp [X_PL_about, B_PL_about, eV, eI, eL, eR, e1, e2, eDI, eDL, eFI, eFL, eFR, eAI, eAZ, eAR, eLen, aN, aC, xV, xS, eX, eIf, eC_b, cA, cO, cN, sSk, sSq, sI, sL, sR, sInc, sF, sFO, sAI, sAZ, sAO, sX, sXp, sIf, sCut, sSqs, sSw, sRt, sRz_g, is01_b, is01_0, is01_1, sRv, sBk, sCt, sCp, lset, lclr, lcut, lini, lx, Value.category, ixOf, b2i_0, b2i_1, T_PL, T_Code c6]
    refine s_Code_cost scr hA.2.1 i2 _ ⟨_, rfl, ?_⟩
    simpa using h0
  by_cases x5 : x = 5
  · subst x5
    simp [X_PL_about, B_PL_about, eV, eI, eL, eR, e1, e2, eDI, eDL, eFI, eFL, eFR, eAI, eAZ, eAR, eLen, aN, aC, xV, xS, eX, eIf, eC_b, cA, cO, cN, sSk, sSq, sI, sL, sR, sInc, sF, sFO, sAI, sAZ, sAO, sX, sXp, sIf, sCut, sSqs, sSw, sRt, sRz_g, is01_b, is01_0, is01_1, sRv, sBk, sCt, sCp, lset, lclr, lcut, lini, lx, Value.category, ixOf, b2i_0, b2i_1, T_PL, T_Code c6]
    refine s_Code_cost scr hA.2.1 i2 _ ⟨_, rfl, ?_⟩
    simp [T_PL, T3, v13]
    simpa using h0
  by_cases x6 : x = 6
  · subst x6
    simp [X_PL_about, B_PL_about, eV, eI, eL, eR, e1, e2, eDI, eDL, eFI, eFL, eFR, eAI, eAZ, eAR, eLen, aN, aC, xV, xS, eX, eIf, eC_b, cA, cO, cN, sSk, sSq, sI, sL, sR, sInc, sF, sFO, sAI, sAZ, sAO, sX, sXp, sIf, sCut, sSqs, sSw, sRt, sRz_g, is01_b, is01_0, is01_1, sRv, sBk, sCt, sCp, lset, lclr, lcut, lini, lx, Value.category, ixOf, b2i_0, b2i_1, T_PL, T3, v10]
    simpa using h0
  by_cases x7 : x = 7
  · subst x7
    simp [X_PL_about, B_PL_about, eV, eI, eL, eR, e1, e2, eDI, eDL, eFI, eFL, eFR, eAI, eAZ, eAR, eLen, aN, aC, xV, xS, eX, eIf, eC_b, cA, cO, cN, sSk, sSq, sI, sL, sR, sInc, sF, sFO, sAI, sAZ, sAO, sX, sXp, sIf, sCut, sSqs, sSw, sRt, sRz_g, is01_b, is01_0, is01_1, sRv, sBk, sCt, sCp, lset, lclr, lcut, lini, lx, Value.category, ixOf, b2i_0, b2i_1, T_PL, T3, v11]
    simpa using h0
  by_cases x8 : x = 8
  · subst x8
    simp [X_PL_about, B_PL_about, eV, eI, eL, eR, e1, e2, eDI, eDL, eFI, eFL, eFR, eAI, eAZ, eAR, eLen, aN, aC, xV, xS, eX, eIf, eC_b, cA, cO, cN, sSk, sSq, sI, sL, sR, sInc, sF, sFO, sAI, sAZ, sAO, sX, sXp, sIf, sCut, sSqs, sSw, sRt, sRz_g, is01_b, is01_0, is01_1, sRv, sBk, sCt, sCp, lset, lclr, lcut, lini, lx, Value.category, ixOf, b2i_0, b2i_1, T_PL, T3, v12]
    simpa using h0
  by_cases x9 : x = 9
  · subst x9
    simp [X_PL_about, B_PL_about, eV, eI, eL, eR, e1, e2, eDI, eDL, eFI, eFL, eFR, eAI, eAZ, eAR, eLen, aN, aC, xV, xS, eX, eIf, eC_b, cA, cO, cN, sSk, sSq, sI, sL, sR, sInc, sF, sFO, sAI, sAZ, sAO, sX, sXp, sIf, sCut, sSqs, sSw, sRt, sRz_g, is01_b, is01_0, is01_1, sRv, sBk, sCt, sCp, lset, lclr, lcut, lini, lx, Value.category, ixOf, b2i_0, b2i_1, T_PL, T_Mach]
    refine c_runA hA scr h' _ fun s1 g1 g2 => ⟨rfl, ?_⟩
    simp [T_PL, T_Mach, g2.2.2.1]
    simpa using fm s1 g1
  by_cases x10 : x = 10
  · subst x10
    simp [X_PL_about, B_PL_about, eV, eI, eL, eR, e1, e2, eDI, eDL, eFI, eFL, eFR, eAI, eAZ, eAR, eLen, aN, aC, xV, xS, eX, eIf, eC_b, cA, cO, cN, sSk, sSq, sI, sL, sR, sInc, sF, sFO, sAI, sAZ, sAO, sX, sXp, sIf, sCut, sSqs, sSw, sRt, sRz_g, is01_b, is01_0, is01_1, sRv, sBk, sCt, sCp, lset, lclr, lcut, lini, lx, Value.category, ixOf, b2i_0, b2i_1, T_PL, T_Mach]
    refine c_runP hA scr h' _ fun s1 g1 g2 => ⟨rfl, ?_⟩
    simp [T_PL, T_Mach, g2.2.2.1]
    simpa using fm s1 g1
  by_cases x11 : x = 11
  · subst x11
    simp [X_PL_about, B_PL_about, eV, eI, eL, eR, e1, e2, eDI, eDL, eFI, eFL, eFR, eAI, eAZ, eAR, eLen, aN, aC, xV, xS, eX, eIf, eC_b, cA, cO, cN, sSk, sSq, sI, sL, sR, sInc, sF, sFO, sAI, sAZ, sAO, sX, sXp, sIf, sCut, sSqs, sSw, sRt, sRz_g, is01_b, is01_0, is01_1, sRv, sBk, sCt, sCp, lset, lclr, lcut, lini, lx, Value.category, ixOf, b2i_0, b2i_1, T_PL]
    refine s_PL_bestWidth scr hA.2.1 i2 okw i3 _ fun s1 g1 => ⟨_, rfl, ?_⟩
    simpa using fb s1 g1
  by_cases x12 : x = 12
  · subst x12
    simp [X_PL_about, B_PL_about, eV, eI, eL, eR, e1, e2, eDI, eDL, eFI, eFL, eFR, eAI, eAZ, eAR, eLen, aN, aC, xV, xS, eX, eIf, eC_b, cA, cO, cN, sSk, sSq, sI, sL, sR, sInc, sF, sFO, sAI, sAZ, sAO, sX, sXp, sIf, sCut, sSqs, sSw, sRt, sRz_g, is01_b, is01_0, is01_1, sRv, sBk, sCt, sCp, lset, lclr, lcut, lini, lx, Value.category, ixOf, b2i_0, b2i_1, T_PL, T_Acts, i4.1]
    simpa using h0
  by_cases x13 : x = 13
  · subst x13
    simp [X_PL_about, B_PL_about, eV, eI, eL, eR, e1, e2, eDI, eDL, eFI, eFL, eFR, eAI, eAZ, eAR, eLen, aN, aC, xV, xS, eX, eIf, eC_b, cA, cO, cN, sSk, sSq, sI, sL, sR, sInc, sF, sFO, sAI, sAZ, sAO, sX, sXp, sIf, sCut, sSqs, sSw, sRt, sRz_g, is01_b, is01_0, is01_1, sRv, sBk, sCt, sCp, lset, lclr, lcut, lini, lx, Value.category, ixOf, b2i_0, b2i_1, T_PL, T_Sights, i6.1]
    simpa using h0
  by_cases x14 : x = 14
  · subst x14
    simp [X_PL_about, B_PL_about, eV, eI, eL, eR, e1, e2, eDI, eDL, eFI, eFL, eFR, eAI, eAZ, eAR, eLen, aN, aC, xV, xS, eX, eIf, eC_b, cA, cO, cN, sSk, sSq, sI, sL, sR, sInc, sF, sFO, sAI, sAZ, sAO, sX, sXp, sIf, sCut, sSqs, sSw, sRt, sRz_g, is01_b, is01_0, is01_1, sRv, sBk, sCt, sCp, lset, lclr, lcut, lini, lx, Value.category, ixOf, b2i_0, b2i_1, T_PL, T_Src, i1.1]
    simpa using h0
  simp [X_PL_about, B_PL_about, eV, eI, eL, eR, e1, e2, eDI, eDL, eFI, eFL, eFR, eAI, eAZ, eAR, eLen, aN, aC, xV, xS, eX, eIf, eC_b, cA, cO, cN, sSk, sSq, sI, sL, sR, sInc, sF, sFO, sAI, sAZ, sAO, sX, sXp, sIf, sCut, sSqs, sSw, sRt, sRz_g, is01_b, is01_0, is01_1, sRv, sBk, sCt, sCp, lset, lclr, lcut, lini, lx, Value.category, ixOf, b2i_0, b2i_1, x0, x1, x2, x3, x4, x5, x6, x7, x8, x9, x10, x11, x12, x13, x14]
  simpa [x0, x1, x2, x3, x4, x5, x6, x7, x8, x9, x10, x11, x12, x13, x14] using h0
theorem rng_58 (x : Int32) : rng 5 8 x = (decide (x = 5) || decide (x = 6) || decide (x = 7) || decide (x = 8)) := by
  cases h : rng 5 8 x with
  | true =>
    unfold rng at h
    simp only [Bool.and_eq_true, Bool.not_eq_true', decide_eq_false_iff_not] at h
    have p0 : ¬ x < 0 := fun q => h.1 (Int32.lt_trans q (by decide))
    obtain ⟨j, h1, rfl⟩ := nI_of2 (M := 8) (n := 8) (by decide) p0 (Int32.not_lt.mp h.2)
    have h5 := h.1
    rw [show (5 : Int32) = nI 5 from rfl, nI_ltI (by omega) (by decide)] at h5
    rcases (show j = 5 ∨ j = 6 ∨ j = 7 ∨ j = 8 by omega) with rfl | rfl | rfl | rfl <;> decide
  | false =>
    by_cases c : x = 5
    · subst c; exact absurd h (by decide)
    · by_cases d : x = 6
      · subst d; exact absurd h (by decide)
      · by_cases e : x = 7
        · subst e; exact absurd h (by decide)
        · by_cases f : x = 8
          · subst f; exact absurd h (by decide)
          · simp [c, d, e, f]
theorem t_in58 (scr : List Int32) (s : MS) : (∀ Q, X_R_in [.long 5, .long 5, .long 8] (hp scr s) Q ↔ Q (some (.int 1)) (hp scr s)) ∧ (∀ Q, X_R_in [.long 6, .long 5, .long 8] (hp scr s) Q ↔ Q (some (.int 1)) (hp scr s)) ∧ (∀ Q, X_R_in [.long 7, .long 5, .long 8] (hp scr s) Q ↔ Q (some (.int 1)) (hp scr s)) ∧ (∀ Q, X_R_in [.long 8, .long 5, .long 8] (hp scr s) Q ↔ Q (some (.int 1)) (hp scr s)) := ⟨fun Q => t_in scr s 5 5 8 rfl rfl Q, fun Q => t_in scr s 6 5 8 rfl rfl Q, fun Q => t_in scr s 7 5 8 rfl rfl Q, fun Q => t_in scr s 8 5 8 rfl rfl Q⟩
abbrev Fz : Nat → Nat → Prop := fun r k => r = 72 ∨ (78 ≤ r) ∨ (r = 65 ∧ ((18 ≤ k ∧ k ≤ 39)))
theorem IR_z {A : AS} {F : Nat → Nat → Prop} {s s' : MS} (h : Fr F s s') (a : ∀ r k, F r k → Fz r k) (hm : IR A s) : Fr Ft s s' ∧ IR A s' := ⟨h.wk fun r k z => by have := a r k z; omega, IR_fr h (fun r k z q => by have := a r k q; omega) hm⟩
theorem r_about {A : AS} (hA : okA A) (scr : List Int32) {s : MS} (h : IR A s) (x : Int32) (Q : Option Value → HV → Prop) (hQ : ∀ s', Fr Ft s s' → IR A s' → Q (some (.int (abA A x))) (hp scr s')) : X_R_about [.ref 65, .int x] (hp scr s) Q := by
  have h' := h
  have h0 := hQ s Fr.rf h
  have fz := fun s' (g : Fr Fz s s') => hQ s' (IR_z g (fun _ _ z => z) h').1 (IR_z g (fun _ _ z => z) h').2
  have okw := hA.2.2.1
  obtain ⟨i1, i2, i3, i4, i5, i6⟩ := h
  have i16 : (16 : Int32).toNatClampNeg = 16 := rfl
  have i17 : (17 : Int32).toNatClampNeg = 17 := rfl
  have i18 : (18 : Int32).toNatClampNeg = 18 := rfl
  have z0 : mk (0 : Int32) no := fun k hk => b_0 k
  have okc := (cAt_ok (P := aP A) (f := fol (aP A) (aR A) no) (out := no) hA.2.1 okw.1.2.2 (by simp [no]) (2 * (9 - rW (aR A)))).1
  have k8 := okC_8 hA.2.1 okw.1.2.2 okc
  unfold abA at h0 fz
  by_cases x0 : x = 0
  · subst x0
    simp [X_R_about, B_R_about, eV, eI, eL, eR, e1, e2, eDI, eDL, eFI, eFL, eFR, eAI, eAZ, eAR, eLen, aN, aC, xV, xS, eX, eIf, eC_b, cA, cO, cN, sSk, sSq, sI, sL, sR, sInc, sF, sFO, sAI, sAZ, sAO, sX, sXp, sIf, sCut, sSqs, sSw, sRt, sRz_g, is01_b, is01_0, is01_1, sRv, sBk, sCt, sCp, lset, lclr, lcut, lini, lx, Value.category, ixOf, b2i_0, b2i_1, T_R, i2.1]
    simpa using h0
  by_cases x1 : x = 1
  · subst x1
    simp [X_R_about, B_R_about, eV, eI, eL, eR, e1, e2, eDI, eDL, eFI, eFL, eFR, eAI, eAZ, eAR, eLen, aN, aC, xV, xS, eX, eIf, eC_b, cA, cO, cN, sSk, sSq, sI, sL, sR, sInc, sF, sFO, sAI, sAZ, sAO, sX, sXp, sIf, sCut, sSqs, sSw, sRt, sRz_g, is01_b, is01_0, is01_1, sRv, sBk, sCt, sCp, lset, lclr, lcut, lini, lx, Value.category, ixOf, b2i_0, b2i_1, T_R, G_R, i16, i3 16 (by omega)]
    simpa using h0
  by_cases x2 : x = 2
  · subst x2
    simp [X_R_about, B_R_about, eV, eI, eL, eR, e1, e2, eDI, eDL, eFI, eFL, eFR, eAI, eAZ, eAR, eLen, aN, aC, xV, xS, eX, eIf, eC_b, cA, cO, cN, sSk, sSq, sI, sL, sR, sInc, sF, sFO, sAI, sAZ, sAO, sX, sXp, sIf, sCut, sSqs, sSw, sRt, sRz_g, is01_b, is01_0, is01_1, sRv, sBk, sCt, sCp, lset, lclr, lcut, lini, lx, Value.category, ixOf, b2i_0, b2i_1, T_R, G_R, i17, i3 17 (by omega)]
    simpa using h0
  by_cases x3 : x = 3
  · subst x3
    simp [X_R_about, B_R_about, eV, eI, eL, eR, e1, e2, eDI, eDL, eFI, eFL, eFR, eAI, eAZ, eAR, eLen, aN, aC, xV, xS, eX, eIf, eC_b, cA, cO, cN, sSk, sSq, sI, sL, sR, sInc, sF, sFO, sAI, sAZ, sAO, sX, sXp, sIf, sCut, sSqs, sSw, sRt, sRz_g, is01_b, is01_0, is01_1, sRv, sBk, sCt, sCp, lset, lclr, lcut, lini, lx, Value.category, ixOf, b2i_0, b2i_1, T_R, G_R, i18, i3 18 (by omega)]
    simpa using h0
  by_cases x4 : x = 4
  · subst x4
    simp [X_R_about, B_R_about, eV, eI, eL, eR, e1, e2, eDI, eDL, eFI, eFL, eFR, eAI, eAZ, eAR, eLen, aN, aC, xV, xS, eX, eIf, eC_b, cA, cO, cN, sSk, sSq, sI, sL, sR, sInc, sF, sFO, sAI, sAZ, sAO, sX, sXp, sIf, sCut, sSqs, sSw, sRt, sRz_g, is01_b, is01_0, is01_1, sRv, sBk, sCt, sCp, lset, lclr, lcut, lini, lx, Value.category, ixOf, b2i_0, b2i_1, T_R]
    refine s_R_costNow scr hA.2.1 i2 _ ⟨_, rfl, ?_⟩
    simpa using h0
  by_cases x9 : x = 9
  · subst x9
    simp [X_R_about, B_R_about, eV, eI, eL, eR, e1, e2, eDI, eDL, eFI, eFL, eFR, eAI, eAZ, eAR, eLen, aN, aC, xV, xS, eX, eIf, eC_b, cA, cO, cN, sSk, sSq, sI, sL, sR, sInc, sF, sFO, sAI, sAZ, sAO, sX, sXp, sIf, sCut, sSqs, sSw, sRt, sRz_g, is01_b, is01_0, is01_1, sRv, sBk, sCt, sCp, lset, lclr, lcut, lini, lx, Value.category, ixOf, b2i_0, b2i_1, T_R]
    simp [X_R_runFaults, B_R_runFaults, eV, eI, eL, eR, e1, e2, eDI, eDL, eFI, eFL, eFR, eAI, eAZ, eAR, eLen, aN, aC, xV, xS, eX, eIf, eC_b, cA, cO, cN, sSk, sSq, sI, sL, sR, sInc, sF, sFO, sAI, sAZ, sAO, sX, sXp, sIf, sCut, sSqs, sSw, sRt, sRz_g, is01_b, is01_0, is01_1, sRv, sBk, sCt, sCp, lset, lclr, lcut, lini, lx, Value.category, ixOf, b2i_0, b2i_1, T_R]
    refine r_runA hA scr h' _ fun s1 g1 g2 => ⟨rfl, ?_⟩
    simp [T_R, g2.2.2]
    simpa using fz s1 (g1.wk fun r k z => by omega)
  by_cases x10 : x = 10
  · subst x10
    simp [X_R_about, B_R_about, eV, eI, eL, eR, e1, e2, eDI, eDL, eFI, eFL, eFR, eAI, eAZ, eAR, eLen, aN, aC, xV, xS, eX, eIf, eC_b, cA, cO, cN, sSk, sSq, sI, sL, sR, sInc, sF, sFO, sAI, sAZ, sAO, sX, sXp, sIf, sCut, sSqs, sSw, sRt, sRz_g, is01_b, is01_0, is01_1, sRv, sBk, sCt, sCp, lset, lclr, lcut, lini, lx, Value.category, ixOf, b2i_0, b2i_1, T_R]
    simp [X_R_runFaults, B_R_runFaults, eV, eI, eL, eR, e1, e2, eDI, eDL, eFI, eFL, eFR, eAI, eAZ, eAR, eLen, aN, aC, xV, xS, eX, eIf, eC_b, cA, cO, cN, sSk, sSq, sI, sL, sR, sInc, sF, sFO, sAI, sAZ, sAO, sX, sXp, sIf, sCut, sSqs, sSw, sRt, sRz_g, is01_b, is01_0, is01_1, sRv, sBk, sCt, sCp, lset, lclr, lcut, lini, lx, Value.category, ixOf, b2i_0, b2i_1, T_R]
    refine r_runP hA scr h' _ fun s1 g1 g2 => ⟨rfl, ?_⟩
    simp [T_R, g2.2.2]
    simpa using fz s1 (g1.wk fun r k z => by omega)
  by_cases x11 : x = 11
  · subst x11
    simp [X_R_about, B_R_about, eV, eI, eL, eR, e1, e2, eDI, eDL, eFI, eFL, eFR, eAI, eAZ, eAR, eLen, aN, aC, xV, xS, eX, eIf, eC_b, cA, cO, cN, sSk, sSq, sI, sL, sR, sInc, sF, sFO, sAI, sAZ, sAO, sX, sXp, sIf, sCut, sSqs, sSw, sRt, sRz_g, is01_b, is01_0, is01_1, sRv, sBk, sCt, sCp, lset, lclr, lcut, lini, lx, Value.category, ixOf, b2i_0, b2i_1, T_R]
    refine s_R_bestWidth scr hA.2.1 i2 okw i3 _ fun s1 g1 => ⟨_, rfl, ?_⟩
    simpa using fz s1 (g1.wk fun r k z => by omega)
  by_cases x12 : x = 12
  · subst x12
    simp [X_R_about, B_R_about, eV, eI, eL, eR, e1, e2, eDI, eDL, eFI, eFL, eFR, eAI, eAZ, eAR, eLen, aN, aC, xV, xS, eX, eIf, eC_b, cA, cO, cN, sSk, sSq, sI, sL, sR, sInc, sF, sFO, sAI, sAZ, sAO, sX, sXp, sIf, sCut, sSqs, sSw, sRt, sRz_g, is01_b, is01_0, is01_1, sRv, sBk, sCt, sCp, lset, lclr, lcut, lini, lx, Value.category, ixOf, b2i_0, b2i_1, T_R, i4.1]
    simpa using h0
  by_cases x13 : x = 13
  · subst x13
    simp [X_R_about, B_R_about, eV, eI, eL, eR, e1, e2, eDI, eDL, eFI, eFL, eFR, eAI, eAZ, eAR, eLen, aN, aC, xV, xS, eX, eIf, eC_b, cA, cO, cN, sSk, sSq, sI, sL, sR, sInc, sF, sFO, sAI, sAZ, sAO, sX, sXp, sIf, sCut, sSqs, sSw, sRt, sRz_g, is01_b, is01_0, is01_1, sRv, sBk, sCt, sCp, lset, lclr, lcut, lini, lx, Value.category, ixOf, b2i_0, b2i_1, T_R, i6.1]
    simpa using h0
  by_cases x14 : x = 14
  · subst x14
    simp [X_R_about, B_R_about, eV, eI, eL, eR, e1, e2, eDI, eDL, eFI, eFL, eFR, eAI, eAZ, eAR, eLen, aN, aC, xV, xS, eX, eIf, eC_b, cA, cO, cN, sSk, sSq, sI, sL, sR, sInc, sF, sFO, sAI, sAZ, sAO, sX, sXp, sIf, sCut, sSqs, sSw, sRt, sRz_g, is01_b, is01_0, is01_1, sRv, sBk, sCt, sCp, lset, lclr, lcut, lini, lx, Value.category, ixOf, b2i_0, b2i_1, T_R, i1.1]
    simpa using h0
  have ti := fun Q => t_in scr s x 5 8 (A := 5) (B := 8) rfl rfl Q
  rw [rng_58] at ti
  by_cases x5 : x = 5
  · subst x5
    simp [X_R_about, B_R_about, eV, eI, eL, eR, e1, e2, eDI, eDL, eFI, eFL, eFR, eAI, eAZ, eAR, eLen, aN, aC, xV, xS, eX, eIf, eC_b, cA, cO, cN, sSk, sSq, sI, sL, sR, sInc, sF, sFO, sAI, sAZ, sAO, sX, sXp, sIf, sCut, sSqs, sSw, sRt, sRz_g, is01_b, is01_0, is01_1, sRv, sBk, sCt, sCp, lset, lclr, lcut, lini, lx, Value.category, ixOf, b2i_0, b2i_1, T_R, t_in58 scr s]
    simp [X_R_found, B_R_found, eV, eI, eL, eR, e1, e2, eDI, eDL, eFI, eFL, eFR, eAI, eAZ, eAR, eLen, aN, aC, xV, xS, eX, eIf, eC_b, cA, cO, cN, sSk, sSq, sI, sL, sR, sInc, sF, sFO, sAI, sAZ, sAO, sX, sXp, sIf, sCut, sSqs, sSw, sRt, sRz_g, is01_b, is01_0, is01_1, sRv, sBk, sCt, sCp, lset, lclr, lcut, lini, lx, Value.category, ixOf, b2i_0, b2i_1, T_R]
    refine t_Rpack scr hA.2.1 i2 (Or.inl rfl) okw i3 z0 (by simp [no]) _ fun s1 g1 g2 g3 g4 => ⟨rfl, ?_⟩
    simp [eV, eI, eL, eR, e1, e2, eDI, eDL, eFI, eFL, eFR, eAI, eAZ, eAR, eLen, aN, aC, xV, xS, eX, eIf, eC_b, cA, cO, cN, sSk, sSq, sI, sL, sR, sInc, sF, sFO, sAI, sAZ, sAO, sX, sXp, sIf, sCut, sSqs, sSw, sRt, sRz_g, is01_b, is01_0, is01_1, sRv, sBk, sCt, sCp, lset, lclr, lcut, lini, lx, Value.category, ixOf, b2i_0, b2i_1, T_R]
    refine s_R_costNow scr hA.2.1 (mR_fr g1 (by omega) (by omega) i2) _ ⟨_, rfl, ?_⟩
    simp [T_R, g3.2.2.2.1]
    simpa using fz s1 (g1.wk fun r k z => by omega)
  by_cases x6 : x = 6
  · subst x6
    simp [X_R_about, B_R_about, eV, eI, eL, eR, e1, e2, eDI, eDL, eFI, eFL, eFR, eAI, eAZ, eAR, eLen, aN, aC, xV, xS, eX, eIf, eC_b, cA, cO, cN, sSk, sSq, sI, sL, sR, sInc, sF, sFO, sAI, sAZ, sAO, sX, sXp, sIf, sCut, sSqs, sSw, sRt, sRz_g, is01_b, is01_0, is01_1, sRv, sBk, sCt, sCp, lset, lclr, lcut, lini, lx, Value.category, ixOf, b2i_0, b2i_1, T_R, t_in58 scr s]
    simp [X_R_found, B_R_found, eV, eI, eL, eR, e1, e2, eDI, eDL, eFI, eFL, eFR, eAI, eAZ, eAR, eLen, aN, aC, xV, xS, eX, eIf, eC_b, cA, cO, cN, sSk, sSq, sI, sL, sR, sInc, sF, sFO, sAI, sAZ, sAO, sX, sXp, sIf, sCut, sSqs, sSw, sRt, sRz_g, is01_b, is01_0, is01_1, sRv, sBk, sCt, sCp, lset, lclr, lcut, lini, lx, Value.category, ixOf, b2i_0, b2i_1, T_R]
    refine t_Rpack scr hA.2.1 i2 (Or.inl rfl) okw i3 z0 (by simp [no]) _ fun s1 g1 g2 g3 g4 => ⟨rfl, ?_⟩
    simp [eV, eI, eL, eR, e1, e2, eDI, eDL, eFI, eFL, eFR, eAI, eAZ, eAR, eLen, aN, aC, xV, xS, eX, eIf, eC_b, cA, cO, cN, sSk, sSq, sI, sL, sR, sInc, sF, sFO, sAI, sAZ, sAO, sX, sXp, sIf, sCut, sSqs, sSw, sRt, sRz_g, is01_b, is01_0, is01_1, sRv, sBk, sCt, sCp, lset, lclr, lcut, lini, lx, Value.category, ixOf, b2i_0, b2i_1, T_R, g3.2.1]
    simpa using fz s1 (g1.wk fun r k z => by omega)
  by_cases x7 : x = 7
  · subst x7
    simp [X_R_about, B_R_about, eV, eI, eL, eR, e1, e2, eDI, eDL, eFI, eFL, eFR, eAI, eAZ, eAR, eLen, aN, aC, xV, xS, eX, eIf, eC_b, cA, cO, cN, sSk, sSq, sI, sL, sR, sInc, sF, sFO, sAI, sAZ, sAO, sX, sXp, sIf, sCut, sSqs, sSw, sRt, sRz_g, is01_b, is01_0, is01_1, sRv, sBk, sCt, sCp, lset, lclr, lcut, lini, lx, Value.category, ixOf, b2i_0, b2i_1, T_R, t_in58 scr s]
    simp [X_R_found, B_R_found, eV, eI, eL, eR, e1, e2, eDI, eDL, eFI, eFL, eFR, eAI, eAZ, eAR, eLen, aN, aC, xV, xS, eX, eIf, eC_b, cA, cO, cN, sSk, sSq, sI, sL, sR, sInc, sF, sFO, sAI, sAZ, sAO, sX, sXp, sIf, sCut, sSqs, sSw, sRt, sRz_g, is01_b, is01_0, is01_1, sRv, sBk, sCt, sCp, lset, lclr, lcut, lini, lx, Value.category, ixOf, b2i_0, b2i_1, T_R]
    refine t_Rpack scr hA.2.1 i2 (Or.inl rfl) okw i3 z0 (by simp [no]) _ fun s1 g1 g2 g3 g4 => ⟨rfl, ?_⟩
    simp [eV, eI, eL, eR, e1, e2, eDI, eDL, eFI, eFL, eFR, eAI, eAZ, eAR, eLen, aN, aC, xV, xS, eX, eIf, eC_b, cA, cO, cN, sSk, sSq, sI, sL, sR, sInc, sF, sFO, sAI, sAZ, sAO, sX, sXp, sIf, sCut, sSqs, sSw, sRt, sRz_g, is01_b, is01_0, is01_1, sRv, sBk, sCt, sCp, lset, lclr, lcut, lini, lx, Value.category, ixOf, b2i_0, b2i_1, T_R]
    refine s_R_packed scr hA.2.1 (mR_fr g1 (by omega) (by omega) i2) (K := (chs (aP A) (aR A) no).1) okc.1 (Nat.le_trans k8 (by decide)) g3.2.2.2.2.1 _ ⟨_, rfl, ?_⟩
    simpa using fz s1 (g1.wk fun r k z => by omega)
  by_cases x8 : x = 8
  · subst x8
    simp [X_R_about, B_R_about, eV, eI, eL, eR, e1, e2, eDI, eDL, eFI, eFL, eFR, eAI, eAZ, eAR, eLen, aN, aC, xV, xS, eX, eIf, eC_b, cA, cO, cN, sSk, sSq, sI, sL, sR, sInc, sF, sFO, sAI, sAZ, sAO, sX, sXp, sIf, sCut, sSqs, sSw, sRt, sRz_g, is01_b, is01_0, is01_1, sRv, sBk, sCt, sCp, lset, lclr, lcut, lini, lx, Value.category, ixOf, b2i_0, b2i_1, T_R, t_in58 scr s]
    simp [X_R_found, B_R_found, eV, eI, eL, eR, e1, e2, eDI, eDL, eFI, eFL, eFR, eAI, eAZ, eAR, eLen, aN, aC, xV, xS, eX, eIf, eC_b, cA, cO, cN, sSk, sSq, sI, sL, sR, sInc, sF, sFO, sAI, sAZ, sAO, sX, sXp, sIf, sCut, sSqs, sSw, sRt, sRz_g, is01_b, is01_0, is01_1, sRv, sBk, sCt, sCp, lset, lclr, lcut, lini, lx, Value.category, ixOf, b2i_0, b2i_1, T_R]
    refine t_Rpack scr hA.2.1 i2 (Or.inl rfl) okw i3 z0 (by simp [no]) _ fun s1 g1 g2 g3 g4 => ⟨rfl, ?_⟩
    simp [eV, eI, eL, eR, e1, e2, eDI, eDL, eFI, eFL, eFR, eAI, eAZ, eAR, eLen, aN, aC, xV, xS, eX, eIf, eC_b, cA, cO, cN, sSk, sSq, sI, sL, sR, sInc, sF, sFO, sAI, sAZ, sAO, sX, sXp, sIf, sCut, sSqs, sSw, sRt, sRz_g, is01_b, is01_0, is01_1, sRv, sBk, sCt, sCp, lset, lclr, lcut, lini, lx, Value.category, ixOf, b2i_0, b2i_1, T_R, g3.2.2.1]
    simpa using fz s1 (g1.wk fun r k z => by omega)
  simp [X_R_about, B_R_about, eV, eI, eL, eR, e1, e2, eDI, eDL, eFI, eFL, eFR, eAI, eAZ, eAR, eLen, aN, aC, xV, xS, eX, eIf, eC_b, cA, cO, cN, sSk, sSq, sI, sL, sR, sInc, sF, sFO, sAI, sAZ, sAO, sX, sXp, sIf, sCut, sSqs, sSw, sRt, sRz_g, is01_b, is01_0, is01_1, sRv, sBk, sCt, sCp, lset, lclr, lcut, lini, lx, Value.category, ixOf, b2i_0, b2i_1, x0, x1, x2, x3, x4, x9, x10, x11, x12, x13, x14, ti, x5, x6, x7, x8]
  simpa [x0, x1, x2, x3, x4, x5, x6, x7, x8, x9, x10, x11, x12, x13, x14] using h0
