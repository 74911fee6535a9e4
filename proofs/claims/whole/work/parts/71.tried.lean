/-! tried -/
def trA (A : AS) (x y : Int32) : Int32 := if rng 0 1 x && rng 0 (nI (8 - rW (aR A))) y then
    (if rtOk (aP A) (pDep (fol (aP A) (aR A) no)) no (kpf []) (rW (aR A)) x.toNatClampNeg y.toNatClampNeg then pGain (aP A) no (kpf []) (rW (aR A)) (tEnd (aP A) (pDep (fol (aP A) (aR A) no)) (kpf []) (rW (aR A)) (rtB (aP A) no (kpf []) (rW (aR A)) x.toNatClampNeg y.toNatClampNeg)) + 100 else -9) else -2
theorem c_tried {A : AS} (hA : okA A) (scr : List Int32) {s : MS} (h : IC A s) (x y : Int32) (Q : Option Value → HV → Prop) (hQ : ∀ s', Fr Fc s s' → IC A s' → Q (some (.int (trA A x y))) (hp scr s')) : X_PL_tried [.ref 2, .int x, .int y] (hp scr s) Q := by
  have h' := h
  have h0 := hQ s Fr.rf h
  have fb := fun s' (g : Fr FB s s') => hQ s' (g.wk fun r k z => by omega) (IC_fr g (by omega) h')
  have hP := hA.2.1
  have h16 := hP.1
  have okw := hA.2.2.1
  have ww := okw.1.2.2
  obtain ⟨i1, i2, i3, i4, i5, i6, i7⟩ := h
  have hb := T_Pack (b := 48) (Or.inr rfl)
  have i18 : (18 : Int32).toNatClampNeg = 18 := rfl
  have e18 : s.1 20 18 = nI (rW (aR A)) := by rw [i3 18 (by omega)]; exact okw.2.2.2
  have e8 : (8 : Int32) - nI (rW (aR A)) = nI (8 - rW (aR A)) := by rw [show (8 : Int32) = nI 8 from rfl, nI_sub (by omega)]
  unfold trA at h0 fb
  simp [X_PL_tried, B_PL_tried, lini, lx, Value.category]
  rw [sSq_if (t := !(rng 0 1 x && rng 0 (nI (8 - rW (aR A))) y)) (by
    intro K
    simp [eV, eI, eL, eR, e1, e2, eDI, eDL, eFI, eFL, eFR, eAI, eAZ, eAR, eLen, aN, aC, xV, xS, eX, eIf, eC_b, cA, cO, cN, sSk, sSq, sI, sL, sR, sInc, sF, sFO, sAI, sAZ, sAO, sX, sXp, sIf, sCut, sSqs, sSw, sRt, sRz_g, is01_b, is01_0, is01_1, sRv, sBk, sCt, sCp, lset, lclr, lcut, lini, lx, Value.category, ixOf, b2i_0, b2i_1, T_PL, G_row, i18, e18, e8]
    unfold rng
    by_cases h1 : x < 0 <;> by_cases h2 : 1 < x <;> by_cases h3 : y < 0 <;> by_cases h4 : nI (8 - rW (aR A)) < y <;> simp [h1, h2, h3, h4])]
  cases hr : (rng 0 1 x && rng 0 (nI (8 - rW (aR A))) y) with
  | false =>
    rw [hr] at h0
    simp [eV, eI, eL, eR, e1, e2, eDI, eDL, eFI, eFL, eFR, eAI, eAZ, eAR, eLen, aN, aC, xV, xS, eX, eIf, eC_b, cA, cO, cN, sSk, sSq, sI, sL, sR, sInc, sF, sFO, sAI, sAZ, sAO, sX, sXp, sIf, sCut, sSqs, sSw, sRt, sRz_g, is01_b, is01_0, is01_1, sRv, sBk, sCt, sCp, lset, lclr, lcut, lini, lx, Value.category, ixOf, b2i_0, b2i_1]
    simpa using h0
  | true =>
    rw [hr] at fb
    rw [Bool.and_eq_true] at hr
    obtain ⟨r, hr1, rfl⟩ := rng_n (N := 1) (by decide) hr.1
    obtain ⟨c, hc1, rfl⟩ := rng_n (by omega) hr.2
    rw [nI_clamp (by omega), nI_clamp (by omega)] at fb
    simp only [Bool.not_true, Bool.false_eq_true, if_false, sSk_eq]
    simp [eV, eI, eL, eR, e1, e2, eDI, eDL, eFI, eFL, eFR, eAI, eAZ, eAR, eLen, aN, aC, xV, xS, eX, eIf, eC_b, cA, cO, cN, sSk, sSq, sI, sL, sR, sInc, sF, sFO, sAI, sAZ, sAO, sX, sXp, sIf, sCut, sSqs, sSw, sRt, sRz_g, is01_b, is01_0, is01_1, sRv, sBk, sCt, sCp, lset, lclr, lcut, lini, lx, Value.category, ixOf, b2i_0, b2i_1, T_PL, hb]
    refine s_Pack_keepNothing (b := 48) (Or.inr rfl) scr hP i2 (Or.inl rfl) (mRow_of i3 okw) okw.1 (om := 0) (out := no) (fun k hk => b_0 k) _ fun s1 g1 g2 g3 g4 g5 => ⟨rfl, ?_⟩
    have d1 : Fr FB s s1 := g1.wk fun r k z => by omega
    have m1 : mC (aP A) 6 s1 := mC_fr d1 (by omega) (by omega) i2
    have kb : mk (s1.1 48 11) (kpf []) := by rw [g5.2.2.1]; exact mk_K
    simp [T_PL, hb]
    refine s_Pack_rootAt (b := 48) (Or.inr rfl) scr hP m1 g3 (out := no) (kp := kpf []) (fun k hk => by rw [g2]; exact b_0 k) (fun k hk => kb k (by omega)) ww g5.1 (show r < 2 by omega) (show c ≤ 8 by omega) _ ⟨_, rfl, ?_⟩
    have fb' := fun s' (g : Fr FB s s') => fb s' g
    cases hrt : rtOk (aP A) (pDep (pFol (aP A) (rB (aR A)) (rK (aR A)) no)) no (kpf []) (rW (aR A)) r c with
    | false =>
      have e : rtOk (aP A) (pDep (fol (aP A) (aR A) no)) no (kpf []) (rW (aR A)) r c = false := hrt
      have := fb' s1 d1
      rw [e] at this
      simp [n9lt]
      simpa using this
    | true =>
      have e : rtOk (aP A) (pDep (fol (aP A) (aR A) no)) no (kpf []) (rW (aR A)) r c = true := hrt
      obtain ⟨a1, a2, a3⟩ := rt_nd hP hrt
      have en := enc_lt (show rW (aR A) ≤ 4 by omega) (wfP_B hP a1)
      have ng : (nI (encN (rtB (aP A) no (kpf []) (rW (aR A)) r c)) < 0) = False := L_lt0 (by omega)
      simp [ng, T_PL, hb]
      refine s_Pack_gainOfTree (b := 48) (Or.inr rfl) scr hP m1 g3 (out := no) g4 (by simp [no]) ww (C := ([], 0, 0)) g5 a1 (fun k hk => (a2 k hk).1) a3 _ fun s2 k1 => ⟨_, rfl, ?_⟩
      have := fb' s2 (d1.tr k1 fun r k z => by omega)
      rw [e] at this
      simp at this
      exact this
theorem r_tried {A : AS} (hA : okA A) (scr : List Int32) {s : MS} (h : IR A s) (x y : Int32) (Q : Option Value → HV → Prop) (hQ : ∀ s', Fr Ft s s' → IR A s' → Q (some (.int (trA A x y))) (hp scr s')) : X_R_tried [.ref 65, .int x, .int y] (hp scr s) Q := by
  have h' := h
  have h0 := hQ s Fr.rf h
  have fz := fun s' (g : Fr Fz s s') => hQ s' (IR_z g (fun _ _ z => z) h').1 (IR_z g (fun _ _ z => z) h').2
  have hP := hA.2.1
  have h16 := hP.1
  have okw := hA.2.2.1
  have ww := okw.1.2.2
  obtain ⟨i1, i2, i3, i4, i5, i6⟩ := h
  have i18 : (18 : Int32).toNatClampNeg = 18 := rfl
  have e18 : s.1 71 18 = nI (rW (aR A)) := by rw [i3 18 (by omega)]; exact okw.2.2.2
  have e8 : (8 : Int32) - nI (rW (aR A)) = nI (8 - rW (aR A)) := by rw [show (8 : Int32) = nI 8 from rfl, nI_sub (by omega)]
  unfold trA at h0 fz
  have ti1 := fun Q => t_in scr s x 0 1 (A := 0) (B := 1) rfl rfl Q
  have ti2 := fun Q => t_in scr s y 0 (nI (8 - rW (aR A))) (A := 0) (B := (nI (8 - rW (aR A))).toInt64) rfl rfl Q
  simp [X_R_tried, B_R_tried, lini, lx, Value.category]
  rw [sSq_if (t := !(rng 0 1 x && rng 0 (nI (8 - rW (aR A))) y)) (by
    intro K
    simp [eV, eI, eL, eR, e1, e2, eDI, eDL, eFI, eFL, eFR, eAI, eAZ, eAR, eLen, aN, aC, xV, xS, eX, eIf, eC_b, cA, cO, cN, sSk, sSq, sI, sL, sR, sInc, sF, sFO, sAI, sAZ, sAO, sX, sXp, sIf, sCut, sSqs, sSw, sRt, sRz_g, is01_b, is01_0, is01_1, sRv, sBk, sCt, sCp, lset, lclr, lcut, lini, lx, Value.category, ixOf, b2i_0, b2i_1, T_R, G_R, i18, e18, e8, ti1, ti2, nb]
    cases rng 0 1 x <;> cases rng 0 (nI (8 - rW (aR A))) y <;> simp)]
  cases hr : (rng 0 1 x && rng 0 (nI (8 - rW (aR A))) y) with
  | false =>
    rw [hr] at h0
    simp [eV, eI, eL, eR, e1, e2, eDI, eDL, eFI, eFL, eFR, eAI, eAZ, eAR, eLen, aN, aC, xV, xS, eX, eIf, eC_b, cA, cO, cN, sSk, sSq, sI, sL, sR, sInc, sF, sFO, sAI, sAZ, sAO, sX, sXp, sIf, sCut, sSqs, sSw, sRt, sRz_g, is01_b, is01_0, is01_1, sRv, sBk, sCt, sCp, lset, lclr, lcut, lini, lx, Value.category, ixOf, b2i_0, b2i_1]
    simpa using h0
  | true =>
    rw [hr] at fz
    rw [Bool.and_eq_true] at hr
    obtain ⟨r, hr1, rfl⟩ := rng_n (N := 1) (by decide) hr.1
    obtain ⟨c, hc1, rfl⟩ := rng_n (by omega) hr.2
    rw [nI_clamp (by omega), nI_clamp (by omega)] at fz
    simp only [Bool.not_true, Bool.false_eq_true, if_false, sSk_eq]
    refine sSq_S1 (ls' := [.ref 65, .int (nI r), .int (nI c)]) (scr := scr) (I := fun s1 => Fr FN s s1 ∧ s1.1 65 18 = 0 ∧ s1.1 65 19 = nI (rW (aR A)) ∧ mFD (fol (aP A) (aR A) no) 78 79 (aP A).1 s1 ∧ ∀ i, i < (aP A).1 → (s1.1 80 i = -9) = (kpf [] i = false)) ?h1 ?h2
    case h1 =>
      intro kn hkn
      simp [eV, eI, eL, eR, e1, e2, eDI, eDL, eFI, eFL, eFR, eAI, eAZ, eAR, eLen, aN, aC, xV, xS, eX, eIf, eC_b, cA, cO, cN, sSk, sSq, sI, sL, sR, sInc, sF, sFO, sAI, sAZ, sAO, sX, sXp, sIf, sCut, sSqs, sSw, sRt, sRz_g, is01_b, is01_0, is01_1, sRv, sBk, sCt, sCp, lset, lclr, lcut, lini, lx, Value.category, ixOf, b2i_0, b2i_1, T_R]
      exact s_R_nothingKept scr hP i2 (Or.inl rfl) (mRow_of i3 okw) okw.1 (om := 0) (out := no) (fun k hk => b_0 k) _ fun s1 g1 g2 g3 g4 g5 g6 g7 g8 => ⟨rfl, hkn s1 ⟨g1, g2, g3, g4, fun i hi => by rw [(g8 i hi).1]; simp [kpf]⟩⟩
    case h2 =>
      rintro s1 ⟨g1, g2, g3, g4, g5⟩
      have d1 : Fr Fz s s1 := g1.wk fun r k z => by omega
      have m1 : mR (aP A) s1 := mR_fr g1 (by omega) (by omega) i2
      have ob : ∀ k, k < 16 → bt (s1.1 65 18) k = no k := fun k hk => by rw [g2]; exact b_0 k
      refine sSqIf2 (scr := scr) (t := !rtOk (aP A) (pDep (fol (aP A) (aR A) no)) no (kpf []) (rW (aR A)) r c) (I := fun s2 => Fr (fun r _ => r = 84) s1 s2 ∧ mB (rW (aR A)) 0 (rtB (aP A) no (kpf []) (rW (aR A)) r c) s2) ?h3 ?h4
      case h3 =>
        intro K hK
        simp [eV, eI, eL, eR, e1, e2, eDI, eDL, eFI, eFL, eFR, eAI, eAZ, eAR, eLen, aN, aC, xV, xS, eX, eIf, eC_b, cA, cO, cN, sSk, sSq, sI, sL, sR, sInc, sF, sFO, sAI, sAZ, sAO, sX, sXp, sIf, sCut, sSqs, sSw, sRt, sRz_g, is01_b, is01_0, is01_1, sRv, sBk, sCt, sCp, lset, lclr, lcut, lini, lx, Value.category, ixOf, b2i_0, b2i_1, T_R]
        refine s_R_laySeed scr hP m1 g4 ob g5 ww g3 (show r < 2 by omega) (show c ≤ 8 by omega) _ fun s2 l1 l2 => ⟨_, rfl, ?_⟩
        simp only [b2i_0]
        have := hK s2 ⟨l1, l2⟩
        generalize rtOk (aP A) (pDep (fol (aP A) (aR A) no)) no (kpf []) (rW (aR A)) r c = v at this ⊢
        cases v <;> simpa using this
      case h4 =>
        rintro s2 ⟨l1, l2⟩
        have d2 : Fr Fz s s2 := d1.tr l1 fun r k z => by omega
        have m2 : mR (aP A) s2 := mR_fr l1 (by omega) (by omega) m1
        cases hrt : rtOk (aP A) (pDep (fol (aP A) (aR A) no)) no (kpf []) (rW (aR A)) r c with
        | false =>
          have := fz s2 d2
          rw [hrt] at this
          simp [eV, eI, eL, eR, e1, e2, eDI, eDL, eFI, eFL, eFR, eAI, eAZ, eAR, eLen, aN, aC, xV, xS, eX, eIf, eC_b, cA, cO, cN, sSk, sSq, sI, sL, sR, sInc, sF, sFO, sAI, sAZ, sAO, sX, sXp, sIf, sCut, sSqs, sSw, sRt, sRz_g, is01_b, is01_0, is01_1, sRv, sBk, sCt, sCp, lset, lclr, lcut, lini, lx, Value.category, ixOf, b2i_0, b2i_1]
          simpa using this
        | true =>
          obtain ⟨a1, a2, a3⟩ := rt_nd hP hrt
          simp only [Bool.not_true, Bool.false_eq_true, if_false, sSk_eq]
          simp [eV, eI, eL, eR, e1, e2, eDI, eDL, eFI, eFL, eFR, eAI, eAZ, eAR, eLen, aN, aC, xV, xS, eX, eIf, eC_b, cA, cO, cN, sSk, sSq, sI, sL, sR, sInc, sF, sFO, sAI, sAZ, sAO, sX, sXp, sIf, sCut, sSqs, sSw, sRt, sRz_g, is01_b, is01_0, is01_1, sRv, sBk, sCt, sCp, lset, lclr, lcut, lini, lx, Value.category, ixOf, b2i_0, b2i_1, T_R]
          refine s_R_grow scr hP m2 (mFD_fr l1 (by omega) (by omega) g4) ww (by rw [l1.2 _ _ (by omega)]; exact g3) (kp := kpf []) (fun i hi => by rw [l1.2 _ _ (by omega)]; exact g5 i hi) a1 (fun k hk => (a2 k hk).1) a3 l2 _ fun s3 q1 q2 => ⟨rfl, ?_⟩
          have d3 : Fr Fz s s3 := d2.tr q1 fun r k z => by omega
          simp [T_R]
          refine s_R_gainOfTree scr hP (mR_fr q1 (by omega) (by omega) m2) (out := no) (fun k hk => by rw [q1.2 _ _ (by omega), l1.2 _ _ (by omega)]; exact ob k hk) ww (n := 16) (T := tEnd (aP A) (pDep (fol (aP A) (aR A) no)) (kpf []) (rW (aR A)) (rtB (aP A) no (kpf []) (rW (aR A)) r c)) (tAt_ok hP ww a1 (fun k hk => (a2 k hk).1) a3 16) q2 _ ⟨_, rfl, ?_⟩
          have := fz s3 d3
          rw [hrt] at this
          simpa using this
/-! which -/
def agA (l : List (Nat × Int32)) (M : RS) : Bool := allB (fun q => decide (M.1 (l.getD q (0, 0)).1 = (l.getD q (0, 0)).2)) l.length
def whA (A : AS) (n : Nat) (k : Nat) : Bool := decide (k < n) && agA (aS A) (pRun (aP A) (rB (aR A)) (aR A) (fl (idl (nI k)) (aP A).1))
theorem getD_memS {l : List (Nat × Int32)} {q : Nat} (h : q < l.length) : l.getD q (0, 0) ∈ l := by
  rw [List.getD_eq_getElem?_getD, List.getElem?_eq_getElem h]
  exact List.getElem_mem _
theorem s_Sights_agreeWith (scr : List Int32) {s : MS} {l : List (Nat × Int32)} (hl : l.length ≤ 6) (h16 : ∀ p, p ∈ l → p.1 < 16) (hs : mSg 33 34 32 2 l s) {M : RS} (hM : ∀ a, a < 16 → s.1 62 a = M.1 a) (Q : Option Value → HV → Prop) (h : Q (some (.int (b2i (agA l M)))) (hp scr s)) : X_Sights_agreeWith [.ref 32, .ref 62] (hp scr s) Q := by
  obtain ⟨e1', e2'⟩ := hs
  unfold agA at h
  simp [X_Sights_agreeWith, B_Sights_agreeWith, eV, eI, eL, eR, e1, e2, eDI, eDL, eFI, eFL, eFR, eAI, eAZ, eAR, eLen, aN, aC, xV, xS, eX, eIf, eC_b, cA, cO, cN, sSk, sSq, sI, sL, sR, sInc, sF, sFO, sAI, sAZ, sAO, sX, sXp, sIf, sCut, sSqs, sSw, sRt, sRz_g, is01_b, is01_0, is01_1, sRv, sBk, sCt, sCp, lset, lclr, lcut, lini, lx, Value.category, ixOf, b2i_0, b2i_1]
  refine lp_ind (fun z ls h => ∃ k, z = l.length - k ∧ k ≤ l.length ∧ allB (fun q => decide (M.1 (l.getD q (0, 0)).1 = (l.getD q (0, 0)).2)) k = true ∧ ls = [.ref 32, .ref 62, .int (nI k)] ∧ h = hp scr s) ?_ ⟨0, rfl, by omega, rfl, rfl, rfl⟩
  rintro z ls h' ⟨k, hz, hk, hA, rfl, rfl⟩ X hX
  refine cX (t := decide (k < l.length)) (h' := hp scr s) ?h1 ?h2
  case h1 =>
    intro K
    simp [eV, eI, eL, eR, e1, e2, eDI, eDL, eFI, eFL, eFR, eAI, eAZ, eAR, eLen, aN, aC, xV, xS, eX, eIf, eC_b, cA, cO, cN, sSk, sSq, sI, sL, sR, sInc, sF, sFO, sAI, sAZ, sAO, sX, sXp, sIf, sCut, sSqs, sSw, sRt, sRz_g, is01_b, is01_0, is01_1, sRv, sBk, sCt, sCp, lset, lclr, lcut, lini, lx, Value.category, ixOf, b2i_0, b2i_1, T_Sights, e1']
    simp (disch := omega) only [LIT, L_0le, L_0lt, L_0eq, L_eq0, L_le0, L_lt0, L_1eq, L_eq1, L_1le, L_1lt, L_lt1, L_le1, L_p1, nI_ltI, nI_leI, nI_eq, nI_add, nI_clamp]
  case h2 =>
    by_cases hlt : k < l.length
    · obtain ⟨q1, q2⟩ := e2' k hlt
      have a16 := h16 _ (getD_memS hlt)
      have em : nI (l.getD k (0, 0)).1 &&& 15 = nI (l.getD k (0, 0)).1 := by rw [show (15 : Int32) = nI 15 from rfl, nI_15, Nat.mod_eq_of_lt a16]
      generalize hp' : l.getD k (0, 0) = p at q1 q2 a16 em
      have go := fun (x1 : (allB (fun q => decide (M.1 (l.getD q (0, 0)).1 = (l.getD q (0, 0)).2)) (k + 1)) = true) => hX (l.length - (k + 1)) [.ref 32, .ref 62, .int (nI (k + 1))] (hp scr s) (by rw [hz]; omega) ⟨k + 1, rfl, hlt, x1, rfl, rfl⟩
      simp only [hlt, decide_true, if_true]
      simp [eV, eI, eL, eR, e1, e2, eDI, eDL, eFI, eFL, eFR, eAI, eAZ, eAR, eLen, aN, aC, xV, xS, eX, eIf, eC_b, cA, cO, cN, sSk, sSq, sI, sL, sR, sInc, sF, sFO, sAI, sAZ, sAO, sX, sXp, sIf, sCut, sSqs, sSw, sRt, sRz_g, is01_b, is01_0, is01_1, sRv, sBk, sCt, sCp, lset, lclr, lcut, lini, lx, Value.category, ixOf, b2i_0, b2i_1, T_Sights, G_Sights, G_Mach, ix80 (show k < 6 by omega) (by decide), q1, q2, em, ix80 a16 (by decide), hM p.1 a16]
      by_cases c : M.1 p.1 = p.2
      · simp [c, L_p1]
        exact go (by rw [allB, hA, hp']; simp [c])
      · simp [c, b2i_t]
        have : allB (fun q => decide (M.1 (l.getD q (0, 0)).1 = (l.getD q (0, 0)).2)) (k + 1) = false := by rw [allB, hp']; simp [c]
        rw [allB_no this hlt] at h
        simpa [b2i] using h
    · have : k = l.length := by omega
      subst this
      rw [hA] at h
      simp only [hlt, decide_false, Bool.false_eq_true, if_false]
      simpa [b2i] using h
theorem c_which {A : AS} (hA : okA A) (scr : List Int32) {s : MS} (h : IC A s) (Q : Option Value → HV → Prop) (hQ : ∀ s' y, Fr Fc s s' → IC A s' → mk y (whA A (aP A).1) → Q (some (.int y)) (hp scr s')) : X_PL_which [.ref 2] (hp scr s) Q := by
  have hP := hA.2.1
  have h16 := hP.1
  have okw := hA.2.2.1
  simp [X_PL_which, B_PL_which, eV, eI, eL, eR, e1, e2, eDI, eDL, eFI, eFL, eFR, eAI, eAZ, eAR, eLen, aN, aC, xV, xS, eX, eIf, eC_b, cA, cO, cN, sSk, sSq, sI, sL, sR, sInc, sF, sFO, sAI, sAZ, sAO, sX, sXp, sIf, sCut, sSqs, sSw, sRt, sRz_g, is01_b, is01_0, is01_1, sRv, sBk, sCt, sCp, lset, lclr, lcut, lini, lx, Value.category, ixOf, b2i_0, b2i_1]
  refine lp_ind (fun z ls h => ∃ k y s', z = (aP A).1 - k ∧ k ≤ (aP A).1 ∧ mk y (whA A k) ∧ ls = [.ref 2, .int y, .int (nI k)] ∧ h = hp scr s' ∧ Fr FM s s') ?_ ⟨0, 0, s, rfl, by omega, fun i hi => by rw [b_0]; simp [whA], rfl, rfl, Fr.rf⟩
  rintro z ls h' ⟨k, y, s1, hz, hk, hy, rfl, rfl, g1⟩ X hX
  have c1 : IC A s1 := IC_fr g1 (by omega) h
  refine cX (t := decide (k < (aP A).1)) (h' := hp scr s1) ?h1 ?h2
  case h1 =>
    intro K
    simp [eV, eI, eL, eR, e1, e2, eDI, eDL, eFI, eFL, eFR, eAI, eAZ, eAR, eLen, aN, aC, xV, xS, eX, eIf, eC_b, cA, cO, cN, sSk, sSq, sI, sL, sR, sInc, sF, sFO, sAI, sAZ, sAO, sX, sXp, sIf, sCut, sSqs, sSw, sRt, sRz_g, is01_b, is01_0, is01_1, sRv, sBk, sCt, sCp, lset, lclr, lcut, lini, lx, Value.category, ixOf, b2i_0, b2i_1, T_PL, T_Code c6, c1.2.1.1]
    simp (disch := omega) only [LIT, L_0le, L_0lt, L_0eq, L_eq0, L_le0, L_lt0, L_1eq, L_eq1, L_1le, L_1lt, L_lt1, L_le1, L_p1, nI_ltI, nI_leI, nI_eq, nI_add, nI_clamp]
  case h2 =>
    by_cases hlt : k < (aP A).1
    · simp only [hlt, decide_true, if_true]
      simp [eV, eI, eL, eR, e1, e2, eDI, eDL, eFI, eFL, eFR, eAI, eAZ, eAR, eLen, aN, aC, xV, xS, eX, eIf, eC_b, cA, cO, cN, sSk, sSq, sI, sL, sR, sInc, sF, sFO, sAI, sAZ, sAO, sX, sXp, sIf, sCut, sSqs, sSw, sRt, sRz_g, is01_b, is01_0, is01_1, sRv, sBk, sCt, sCp, lset, lclr, lcut, lini, lx, Value.category, ixOf, b2i_0, b2i_1, T_PL, T_Mach]
      refine s_Mach_runInOrder scr hP c1.2.1 (Or.inl rfl) okw.1.1 (by rw [c1.2.2.1 16 (by omega)]; exact okw.2.1) (row := aR A) (fun k hk => c1.2.2.1 k (by omega)) (nI k) _ fun s2 f1 f2 => ⟨rfl, ?_⟩
      have g2 : Fr FM s s2 := g1.tr f1 fun _ _ z => z
      have c2 : IC A s2 := IC_fr g2 (by omega) h
      simp [T_PL, T_Mach, T_Sights]
      refine s_Sights_agreeWith scr hA.2.2.2.2.2.1 hA.2.2.2.2.2.2 c2.2.2.2.2.2.1 f2.1 _ ⟨_, rfl, ?_⟩
      have go := fun x (hx : mk x (whA A (k + 1))) => hX ((aP A).1 - (k + 1)) [.ref 2, .int x, .int (nI (k + 1))] (hp scr s2) (by rw [hz]; omega) ⟨k + 1, x, s2, rfl, hlt, hx, rfl, rfl, g2⟩
      have nx : ∀ i, whA A (k + 1) i = (whA A k i || (decide (i = k) && agA (aS A) (pRun (aP A) (rB (aR A)) (aR A) (fl (idl (nI k)) (aP A).1)))) := by
        intro i
        unfold whA
        by_cases c : i = k
        · subst c; simp
        · rw [show (decide (i < k + 1)) = decide (i < k) by rw [decide_eq_decide]; omega]; simp [c]
      simp only [b2i_0]
      generalize agA (aS A) (pRun (aP A) (rB (aR A)) (aR A) (fl (idl (nI k)) (aP A).1)) = v at nx ⊢
      cases v with
      | false =>
        simp [L_p1]
        exact go _ fun i hi => by rw [hy i hi, nx]; simp
      | true =>
        simp [L_p1]
        exact go _ fun i hi => by rw [b_or, hy i hi, b_bit (by omega) hi, nx]; simp
    · have : k = (aP A).1 := by omega
      subst this
      simp only [hlt, decide_false, Bool.false_eq_true, if_false]
      simp [eV, eI, eL, eR, e1, e2, eDI, eDL, eFI, eFL, eFR, eAI, eAZ, eAR, eLen, aN, aC, xV, xS, eX, eIf, eC_b, cA, cO, cN, sSk, sSq, sI, sL, sR, sInc, sF, sFO, sAI, sAZ, sAO, sX, sXp, sIf, sCut, sSqs, sSw, sRt, sRz_g, is01_b, is01_0, is01_1, sRv, sBk, sCt, sCp, lset, lclr, lcut, lini, lx, Value.category, ixOf, b2i_0, b2i_1]
      exact hQ s1 y (g1.wk fun r k z => by omega) c1 hy
theorem r_which {A : AS} (hA : okA A) (scr : List Int32) {s : MS} (h : IR A s) (Q : Option Value → HV → Prop) (hQ : ∀ s' y, Fr Ft s s' → IR A s' → mk y (whA A (aP A).1) → Q (some (.int y)) (hp scr s')) : X_R_which [.ref 65] (hp scr s) Q := by
  have hP := hA.2.1
  have h16 := hP.1
  have okw := hA.2.2.1
  have l6 := hA.2.2.2.2.2.1
  simp [X_R_which, B_R_which, eV, eI, eL, eR, e1, e2, eDI, eDL, eFI, eFL, eFR, eAI, eAZ, eAR, eLen, aN, aC, xV, xS, eX, eIf, eC_b, cA, cO, cN, sSk, sSq, sI, sL, sR, sInc, sF, sFO, sAI, sAZ, sAO, sX, sXp, sIf, sCut, sSqs, sSw, sRt, sRz_g, is01_b, is01_0, is01_1, sRv, sBk, sCt, sCp, lset, lclr, lcut, lini, lx, Value.category, ixOf, b2i_0, b2i_1]
  refine lp_ind (fun z ls h => ∃ k y s', z = (aP A).1 - k ∧ k ≤ (aP A).1 ∧ mk y (whA A k) ∧ ls = [.ref 65, .int y, .int (nI k), .null, .null] ∧ h = hp scr s' ∧ Fr FW s s') ?_ ⟨0, 0, s, rfl, by omega, fun i hi => by rw [b_0]; simp [whA], rfl, rfl, Fr.rf⟩
  rintro z ls h' ⟨k, y, s1, hz, hk, hy, rfl, rfl, g1⟩ X hX
  have c1 : IR A s1 := (IR_z g1 (fun r k z => by omega) h).2
  refine cX (t := decide (k < (aP A).1)) (h' := hp scr s1) ?h1 ?h2
  case h1 =>
    intro K
    simp [eV, eI, eL, eR, e1, e2, eDI, eDL, eFI, eFL, eFR, eAI, eAZ, eAR, eLen, aN, aC, xV, xS, eX, eIf, eC_b, cA, cO, cN, sSk, sSq, sI, sL, sR, sInc, sF, sFO, sAI, sAZ, sAO, sX, sXp, sIf, sCut, sSqs, sSw, sRt, sRz_g, is01_b, is01_0, is01_1, sRv, sBk, sCt, sCp, lset, lclr, lcut, lini, lx, Value.category, ixOf, b2i_0, b2i_1, T_R, c1.2.1.1]
    simp (disch := omega) only [LIT, L_0le, L_0lt, L_0eq, L_eq0, L_le0, L_lt0, L_1eq, L_eq1, L_1le, L_1lt, L_lt1, L_le1, L_p1, nI_ltI, nI_leI, nI_eq, nI_add, nI_clamp]
  case h2 =>
    by_cases hlt : k < (aP A).1
    · simp only [hlt, decide_true, if_true]
      simp [eV, eI, eL, eR, e1, e2, eDI, eDL, eFI, eFL, eFR, eAI, eAZ, eAR, eLen, aN, aC, xV, xS, eX, eIf, eC_b, cA, cO, cN, sSk, sSq, sI, sL, sR, sInc, sF, sFO, sAI, sAZ, sAO, sX, sXp, sIf, sCut, sSqs, sSw, sRt, sRz_g, is01_b, is01_0, is01_1, sRv, sBk, sCt, sCp, lset, lclr, lcut, lini, lx, Value.category, ixOf, b2i_0, b2i_1, T_R]
      refine s_R_run scr hP c1.2.1 (Or.inl rfl) okw.1.1 (by rw [c1.2.2.1 16 (by omega)]; exact okw.2.1) (row := aR A) (fun k hk => c1.2.2.1 k (by omega)) (nI k) _ fun s2 f1 f2 => ⟨rfl, ?_⟩
      have g2 : Fr FW s s2 := g1.tr f1 fun _ _ z => z
      have c2 : IR A s2 := (IR_z g2 (fun r k z => by omega) h).2
      obtain ⟨e1', e2'⟩ := c2.2.2.2.2.2
      generalize hM : pRun (aP A) (rB (aR A)) (aR A) (fl (idl (nI k)) (aP A).1) = M at f2
      refine lp_ind (fun z ls h => ∃ q, z = (aS A).length - q ∧ q ≤ (aS A).length ∧ ls = [.ref 65, .int y, .int (nI k), .int (b2i (allB (fun q => decide (M.1 ((aS A).getD q (0, 0)).1 = ((aS A).getD q (0, 0)).2)) q)), .int (nI q)] ∧ h = hp scr s2) ?_ ⟨0, rfl, by omega, rfl, rfl⟩
      rintro z2 ls h' ⟨q, hz2, hq, rfl, rfl⟩ X2 hX2
      refine cX (t := decide (q < (aS A).length)) (h' := hp scr s2) ?h3 ?h4
      case h3 =>
        intro K
        simp [eV, eI, eL, eR, e1, e2, eDI, eDL, eFI, eFL, eFR, eAI, eAZ, eAR, eLen, aN, aC, xV, xS, eX, eIf, eC_b, cA, cO, cN, sSk, sSq, sI, sL, sR, sInc, sF, sFO, sAI, sAZ, sAO, sX, sXp, sIf, sCut, sSqs, sSw, sRt, sRz_g, is01_b, is01_0, is01_1, sRv, sBk, sCt, sCp, lset, lclr, lcut, lini, lx, Value.category, ixOf, b2i_0, b2i_1, T_R, e1']
        simp (disch := omega) only [LIT, L_0le, L_0lt, L_0eq, L_eq0, L_le0, L_lt0, L_1eq, L_eq1, L_1le, L_1lt, L_lt1, L_le1, L_p1, nI_ltI, nI_leI, nI_eq, nI_add, nI_clamp]
      case h4 =>
        by_cases hlt2 : q < (aS A).length
        · obtain ⟨q1, q2⟩ := e2' q hlt2
          have a16 := hA.2.2.2.2.2.2 _ (getD_memS hlt2)
          have go := fun (v : Bool) (hv : v = allB (fun q => decide (M.1 ((aS A).getD q (0, 0)).1 = ((aS A).getD q (0, 0)).2)) (q + 1)) => hX2 ((aS A).length - (q + 1)) [.ref 65, .int y, .int (nI k), .int (b2i v), .int (nI (q + 1))] (hp scr s2) (by rw [hz2]; omega) ⟨q + 1, rfl, hlt2, by rw [hv], rfl⟩
          simp only [hlt2, decide_true, if_true]
          rw [allB] at go
          generalize allB (fun q => decide (M.1 ((aS A).getD q (0, 0)).1 = ((aS A).getD q (0, 0)).2)) q = u at go ⊢
          generalize (aS A).getD q (0, 0) = p at q1 q2 a16 go
          cases u with
          | false =>
            simp [eV, eI, eL, eR, e1, e2, eDI, eDL, eFI, eFL, eFR, eAI, eAZ, eAR, eLen, aN, aC, xV, xS, eX, eIf, eC_b, cA, cO, cN, sSk, sSq, sI, sL, sR, sInc, sF, sFO, sAI, sAZ, sAO, sX, sXp, sIf, sCut, sSqs, sSw, sRt, sRz_g, is01_b, is01_0, is01_1, sRv, sBk, sCt, sCp, lset, lclr, lcut, lini, lx, Value.category, ixOf, b2i_0, b2i_1, L_p1, b2i]
            have := go false (by simp)
            simpa [b2i] using this
          | true =>
            simp [eV, eI, eL, eR, e1, e2, eDI, eDL, eFI, eFL, eFR, eAI, eAZ, eAR, eLen, aN, aC, xV, xS, eX, eIf, eC_b, cA, cO, cN, sSk, sSq, sI, sL, sR, sInc, sF, sFO, sAI, sAZ, sAO, sX, sXp, sIf, sCut, sSqs, sSw, sRt, sRz_g, is01_b, is01_0, is01_1, sRv, sBk, sCt, sCp, lset, lclr, lcut, lini, lx, Value.category, ixOf, b2i_0, b2i_1, T_R, G_R, ix80 (show q < 6 by omega) (by decide), q1, q2, ix80 a16 (by decide), f2.1 p.1 a16, L_p1, b2i]
            have := go (decide (M.1 p.1 = p.2)) (by simp)
            by_cases c : M.1 p.1 = p.2
            · simpa [c, b2i] using this
            · simpa [c, b2i] using this
        · have : q = (aS A).length := by omega
          subst this
          simp only [hlt2, decide_false, Bool.false_eq_true, if_false]
          have go := fun x (hx : mk x (whA A (k + 1))) => hX ((aP A).1 - (k + 1)) [.ref 65, .int x, .int (nI (k + 1)), .null, .null] (hp scr s2) (by rw [hz]; omega) ⟨k + 1, x, s2, rfl, hlt, hx, rfl, rfl, g2⟩
          have nx : ∀ i, whA A (k + 1) i = (whA A k i || (decide (i = k) && agA (aS A) M)) := by
            intro i
            rw [← hM]
            unfold whA
            by_cases c : i = k
            · subst c; simp
            · rw [show (decide (i < k + 1)) = decide (i < k) by rw [decide_eq_decide]; omega]; simp [c]
          unfold agA at nx
          generalize allB (fun q => decide (M.1 ((aS A).getD q (0, 0)).1 = ((aS A).getD q (0, 0)).2)) (aS A).length = v at nx ⊢
          cases v with
          | false =>
            simp [eV, eI, eL, eR, e1, e2, eDI, eDL, eFI, eFL, eFR, eAI, eAZ, eAR, eLen, aN, aC, xV, xS, eX, eIf, eC_b, cA, cO, cN, sSk, sSq, sI, sL, sR, sInc, sF, sFO, sAI, sAZ, sAO, sX, sXp, sIf, sCut, sSqs, sSw, sRt, sRz_g, is01_b, is01_0, is01_1, sRv, sBk, sCt, sCp, lset, lclr, lcut, lini, lx, Value.category, ixOf, b2i_0, b2i_1, L_p1, b2i]
            exact go _ fun i hi => by rw [hy i hi, nx]; simp
          | true =>
            simp [eV, eI, eL, eR, e1, e2, eDI, eDL, eFI, eFL, eFR, eAI, eAZ, eAR, eLen, aN, aC, xV, xS, eX, eIf, eC_b, cA, cO, cN, sSk, sSq, sI, sL, sR, sInc, sF, sFO, sAI, sAZ, sAO, sX, sXp, sIf, sCut, sSqs, sSw, sRt, sRz_g, is01_b, is01_0, is01_1, sRv, sBk, sCt, sCp, lset, lclr, lcut, lini, lx, Value.category, ixOf, b2i_0, b2i_1, L_p1, b2i]
            exact go _ fun i hi => by rw [b_or, hy i hi, b_bit (by omega) hi, nx]; simp
    · have : k = (aP A).1 := by omega
      subst this
      simp only [hlt, decide_false, Bool.false_eq_true, if_false]
      simp [eV, eI, eL, eR, e1, e2, eDI, eDL, eFI, eFL, eFR, eAI, eAZ, eAR, eLen, aN, aC, xV, xS, eX, eIf, eC_b, cA, cO, cN, sSk, sSq, sI, sL, sR, sInc, sF, sFO, sAI, sAZ, sAO, sX, sXp, sIf, sCut, sSqs, sSw, sRt, sRz_g, is01_b, is01_0, is01_1, sRv, sBk, sCt, sCp, lset, lclr, lcut, lini, lx, Value.category, ixOf, b2i_0, b2i_1]
      exact hQ s1 y (IR_z g1 (fun r k z => by omega) h).1 c1 hy
