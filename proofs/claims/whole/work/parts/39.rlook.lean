theorem mS_one {i : Nat} (hi : i < 32) : (1 : Int32) <<< (nI i &&& 31) = mS [i] := by
  rw [bit_nI hi, mS]
  congr 1
  simp [setN]
theorem mB_fr {w a : Nat} {B : List Nat} {F : Nat → Nat → Prop} {s s' : MS} (h : Fr F s s') (hF : ∀ k, k < w → ¬ F 84 (a + k)) (hB : mB w a B s) : mB w a B s' := fun k hk => by rw [h.2 _ _ (hF k hk)]; exact hB k hk
theorem s_R_look {P : PC} (scr : List Int32) {s : MS} (hP : okP P) (hm : mR P s) {f : Nat → Nat → Bool} (hf : mFD f 78 79 P.1 s) {w n : Nat} (hw : w = 2 ∨ w = 4) {kp : Nat → Bool} {T : TS} (ho : okT P w T n) (hT : mTR P w kp T s) {B : List Nat} (hB : wfP P w B) (hv : ∀ k, k < w → pK P (ln B k) ≠ 6) {q : Nat} (hq : q < T.2.1.length) (hBm : mB w (4 * (q + 1)) B s) (Q : Option Value → HV → Prop)
    (h : ∀ s', Fr FR s s' → mTR P w kp (tStep P (pDep f) kp w T B) s' → Q none (hp scr s')) : X_R_look [.ref 65, .int (nI (4 * (q + 1)))] (hp scr s) Q := by
  have h16 := hP.1
  have w0 : 0 < w := by omega
  have L0 := wfP_ln hB w0
  have k0 := (hP.2 _ L0).1
  have B0 := hBm 0 w0
  rw [Nat.add_zero] at B0
  have ok2 := tStep_ok (f := f) (kp := kp) hP hw ho hB hv
  have len2 := okT_8 hP hw ok2
  have len1 := okT_8 hP hw ho
  have t1 := hT.1
  have a80 : 4 * (q + 1) + 4 ≤ 80 := by omega
  simp [X_R_look, B_R_look, lini, lx, Value.category]
  refine sSqIf1 (t := pPk P (pDep f) w B && bFree kp T w B) (h' := hp scr s) ?h1 ?h2
  case h1 =>
    intro K hK
    simp [eV, eI, eL, eR, e1, e2, eDI, eDL, eFI, eFL, eFR, eAI, eAZ, eAR, eLen, aN, aC, xV, xS, eX, eIf, eC_b, cA, cO, cN, sSk, sSq, sI, sL, sR, sInc, sF, sFO, sAI, sAZ, sAO, sX, sXp, sIf, sCut, sSqs, sSw, sRt, sRz_g, is01_b, is01_0, is01_1, sRv, sBk, sCt, sCp, lset, lclr, lcut, lini, lx, Value.category, ixOf, b2i_0, b2i_1, T_R]
    refine s_R_isPack scr hP hm hf hw t1 hB a80 hBm _ ?_
    cases hp1 : pPk P (pDep f) w B with
    | false =>
      rw [hp1] at hK
      simp [b2i]
      exact hK
    | true =>
      rw [hp1] at hK
      simp [b2i, T_R]
      refine s_R_isFree scr hP hw ho hT hB a80 hBm _ ?_
      simp [b2i_0]
      exact hK
  case h2 =>
    unfold tStep at h ok2 len2
    cases hc : (pPk P (pDep f) w B && bFree kp T w B) with
    | false =>
      rw [hc] at h
      simp only [Bool.false_eq_true, if_false] at h ⊢
      simp [eV, eI, eL, eR, e1, e2, eDI, eDL, eFI, eFL, eFR, eAI, eAZ, eAR, eLen, aN, aC, xV, xS, eX, eIf, eC_b, cA, cO, cN, sSk, sSq, sI, sL, sR, sInc, sF, sFO, sAI, sAZ, sAO, sX, sXp, sIf, sCut, sSqs, sSw, sRt, sRz_g, is01_b, is01_0, is01_1, sRv, sBk, sCt, sCp, lset, lclr, lcut, lini, lx, Value.category, ixOf, b2i_0, b2i_1, T_R]
      refine s_R_isTreePack scr hP hw ho hT hB a80 hBm _ ⟨_, rfl, ?_⟩
      simp only [b2i_0]
      cases hcc : T.1.contains B with
      | true =>
        rw [hcc] at h
        exact h s Fr.rf hT
      | false =>
        rw [hcc] at h
        simp only [if_true, Bool.false_eq_true, if_false] at h ⊢
        simp [T_R, hT.2.2.2.2.1]
        refine s_R_costOf scr hP hm hw t1 hB a80 hBm _ ?_
        simp [T_R, U_R, nI_add]
        refine lp_ind (fun z ls h => ∃ k, z = w - k ∧ k ≤ w ∧ ls = [.ref 65, .int (nI (4 * (q + 1))), .int (nI k)] ∧ ∃ s', h = hp scr s' ∧ Fr FR s s' ∧ s'.1 65 33 = nI (T.2.2.2 + bCost P w B) ∧ s'.1 65 32 = mS (T.2.2.1 ++ B.take k) ∧ s'.1 65 31 = s.1 65 31 ∧ s'.1 65 29 = s.1 65 29 ∧ ∀ r k, r ≠ 65 → s'.1 r k = s.1 r k) ?_ ⟨0, rfl, by omega, rfl, _, rfl, Fr.rf.up _ (by omega), up_same, by simp [up_get, hT.2.2.2.1], by simp [up_get], by simp [up_get], fun r k hr => by simp [up_get, hr]⟩
        rintro z ls h' ⟨k, hz, hkw, rfl, s1, rfl, g1, g2, g3, g4, g6, g5⟩ X hX
        have e19 : s1.1 65 19 = nI w := by rw [g1.2 _ _ (by omega), t1]
        refine cX (t := decide (k < w)) (h' := hp scr s1) ?h3 ?h4
        case h3 =>
          intro K
          simp [eV, eI, eL, eR, e1, e2, eDI, eDL, eFI, eFL, eFR, eAI, eAZ, eAR, eLen, aN, aC, xV, xS, eX, eIf, eC_b, cA, cO, cN, sSk, sSq, sI, sL, sR, sInc, sF, sFO, sAI, sAZ, sAO, sX, sXp, sIf, sCut, sSqs, sSw, sRt, sRz_g, is01_b, is01_0, is01_1, sRv, sBk, sCt, sCp, lset, lclr, lcut, lini, lx, Value.category, ixOf, b2i_0, b2i_1, T_R, e19]
          simp (disch := omega) only [LIT, L_0le, L_0lt, L_0eq, L_eq0, L_le0, L_lt0, L_1eq, L_eq1, L_1le, L_1lt, L_lt1, L_le1, L_p1, nI_ltI, nI_leI, nI_eq, nI_add, nI_clamp]
        case h4 =>
          by_cases hlt : k < w
          · have Lk := wfP_ln hB hlt
            have eB : s1.1 84 (4 * (q + 1) + k) = nI (ln B k) := by rw [g5 _ _ (by omega)]; exact hBm k hlt
            simp only [hlt, decide_true, if_true]
            simp [eV, eI, eL, eR, e1, e2, eDI, eDL, eFI, eFL, eFR, eAI, eAZ, eAR, eLen, aN, aC, xV, xS, eX, eIf, eC_b, cA, cO, cN, sSk, sSq, sI, sL, sR, sInc, sF, sFO, sAI, sAZ, sAO, sX, sXp, sIf, sCut, sSqs, sSw, sRt, sRz_g, is01_b, is01_0, is01_1, sRv, sBk, sCt, sCp, lset, lclr, lcut, lini, lx, Value.category, ixOf, b2i_0, b2i_1, T_R, U_R, G_R, eB, ix80 (show 4 * (q + 1) + k < 80 by omega) (by decide), nI_add, g3, mS_one (show ln B k < 32 by omega), mS_or, L_p1]
            refine hX _ _ _ (by rw [hz]; omega) ⟨k + 1, rfl, hlt, rfl, _, rfl, g1.up _ (by omega), ?_, ?_, ?_, ?_, fun r j hr => ?_⟩
            · simp [up_get, g2]
            · simp [up_get, ln_take (wfP_B hP hB) hlt]
            · simp [up_get, g4]
            · simp [up_get, g6]
            · simp [up_get, hr]; exact g5 r j hr
          · have : k = w := by omega
            subst this
            simp only [hlt, decide_false, Bool.false_eq_true, if_false]
            have tk0 : B.take k = B := by rw [← hB.1]; exact List.take_length
            rw [tk0] at g3
            obtain ⟨_, t2, t3, t4, t5, t6, t7, t8, t9⟩ := hT
            exact h s1 g1 ⟨e19, fun i hi => by rw [g5 _ _ (by omega)]; exact t2 i hi, by rw [g6, t3], g3, g2, by rw [g4, t6], fun a ha b hb => by rw [g5 _ _ (by omega)]; exact t7 a ha b hb, fun i hi hc => by rw [g5 _ _ (by omega)]; exact t8 i hi hc, fun p hp k hk => by rw [g5 _ _ (by omega), g5 _ _ (by omega)]; exact t9 p hp k hk⟩
    | true =>
      rw [hc] at h ok2 len2
      simp only [if_true] at h ok2 len2 ⊢
      have hp1 : pPk P (pDep f) w B = true := by
        rw [Bool.and_eq_true] at hc
        exact hc.1
      have hfr : bFree kp T w B = true := by
        rw [Bool.and_eq_true] at hc
        exact hc.2
      simp [eV, eI, eL, eR, e1, e2, eDI, eDL, eFI, eFL, eFR, eAI, eAZ, eAR, eLen, aN, aC, xV, xS, eX, eIf, eC_b, cA, cO, cN, sSk, sSq, sI, sL, sR, sInc, sF, sFO, sAI, sAZ, sAO, sX, sXp, sIf, sCut, sSqs, sSw, sRt, sRz_g, is01_b, is01_0, is01_1, sRv, sBk, sCt, sCp, lset, lclr, lcut, lini, lx, Value.category, ixOf, b2i_0, b2i_1, T_R]
      refine s_R_addPack scr hP hw t1 hB (pPk_nd hP hB hp1) a80 hBm _ fun s1 g1 g2 g3 g4 => ⟨rfl, ?_⟩
      have hT1 : mTR P w kp (T.1 ++ [B], T.2) s1 := addPack_mTR hP hT ho.1 (fun k hk => by
        unfold bFree at hfr
        rw [allB_iff] at hfr
        have := hfr k hk
        simp only [Bool.and_eq_true, Bool.not_eq_true'] at this
        exact this.2) hB g1 g2 g3 g4
      have m1 : mR P s1 := mR_fr g1 (by omega) (by omega) hm
      have hBm1 : mB w (4 * (q + 1)) B s1 := mB_fr g1 (by omega) hBm
      have B01 := hBm1 0 w0
      rw [Nat.add_zero] at B01
      have fr1 : Fr FR s s1 := g1.wk fun r k z => by omega
      simp [T_R, G_R, B01, ix80 (show 4 * (q + 1) < 80 by omega) (by decide), ixf hP.1 L0, (m1.2 _ L0).1]
      simp (disch := omega) only [LIT, L_0le, L_0lt, L_0eq, L_eq0, L_le0, L_lt0, L_1eq, L_eq1, L_1le, L_1lt, L_lt1, L_le1, L_p1, nI_ltI, nI_leI, nI_eq, nI_add, nI_clamp]
      split
      · next q0 =>
        rw [if_pos q0] at h
        exact h s1 fr1 hT1
      · next q0 =>
        rw [if_neg q0] at h ok2 len2
        have hbin := fun k (hk : k < w) => pPk_bin hP hB hp1 hv q0 hk
        obtain ⟨u1, u2, u3, u4, u5, u6, u7, u8, u9⟩ := hT1
        refine s_R_waitBoth scr hP m1 hw u1 hB hbin (a := 4 * (q + 1)) (q := T.2.1.length + 1) (by omega) (by omega) u6 hBm1 _ fun s2 g5 g6 g7 g8 => ⟨rfl, ?_⟩
        refine h s2 (fr1.tr g5 fun r k z => by omega) ⟨by rw [g5.2 _ _ (by omega), u1], fun i hi => by rw [g5.2 _ _ (by omega)]; exact u2 i hi, by rw [g5.2 _ _ (by omega), u3], by rw [g5.2 _ _ (by omega), u4], by rw [g5.2 _ _ (by omega), u5], by rw [g6]; simp, fun a ha => ?_, fun i hi hc => by rw [g5.2 _ _ (by omega)]; exact u8 i hi hc, fun p hp k hk => by rw [g5.2 _ _ (by omega), g5.2 _ _ (by omega)]; exact u9 p hp k hk⟩
        simp only [List.length_append, List.length_cons, List.length_nil] at ha
        rcases Nat.lt_trichotomy a T.2.1.length with r | r | r
        · rw [List.getD_eq_getElem?_getD, List.getElem?_append_left r, ← List.getD_eq_getElem?_getD]
          intro k hk
          rw [g5.2 _ _ (by omega)]
          exact u7 a r k hk
        · rw [List.getD_eq_getElem?_getD, List.getElem?_append_right (by omega), show a - T.2.1.length = 0 by omega, r]
          exact g7
        · rw [List.getD_eq_getElem?_getD, List.getElem?_append_right (by omega), show a - T.2.1.length = 1 by omega, show 4 * (a + 1) = 4 * (T.2.1.length + 1) + 4 by omega]
          exact g8
