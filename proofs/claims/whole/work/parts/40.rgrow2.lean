theorem s_R_grow {P : PC} (scr : List Int32) {s : MS} (hP : okP P) (hm : mR P s) {f : Nat → Nat → Bool} (hf : mFD f 78 79 P.1 s) {w : Nat} (hw : w = 2 ∨ w = 4) (t1 : s.1 65 19 = nI w) {kp : Nat → Bool} (hkp : ∀ i, i < P.1 → (s.1 80 i = -9) = (kp i = false)) {r : List Nat} (hr : wfP P w r) (hs : ∀ k, k < w → pK P (ln r k) = 6) (hn : r.Nodup) (hrm : mB w 0 r s) (Q : Option Value → HV → Prop)
    (h : ∀ s', Fr FR s s' → mTR P w kp (tEnd P (pDep f) kp w r) s' → Q none (hp scr s')) : X_R_grow [.ref 65] (hp scr s) Q := by
  have h16 := hP.1
  have w0 : 0 < w := by omega
  simp [X_R_grow, B_R_grow, eV, eI, eL, eR, e1, e2, eDI, eDL, eFI, eFL, eFR, eAI, eAZ, eAR, eLen, aN, aC, xV, xS, eX, eIf, eC_b, cA, cO, cN, sSk, sSq, sI, sL, sR, sInc, sF, sFO, sAI, sAZ, sAO, sX, sXp, sIf, sCut, sSqs, sSw, sRt, sRz_g, is01_b, is01_0, is01_1, sRv, sBk, sCt, sCp, lset, lclr, lcut, lini, lx, Value.category, ixOf, b2i_0, b2i_1, T_R, U_R]
  refine lp_ind (fun z ls h => ∃ k s', z = P.1 - k ∧ k ≤ P.1 ∧ ls = [.ref 65, .int (nI k)] ∧ h = hp scr s' ∧ Fr (fun r k => r = 82 ∨ (r = 65 ∧ (k = 29 ∨ k = 32 ∨ k = 33))) s s' ∧ s'.1 65 29 = 0 ∧ s'.1 65 32 = 0 ∧ s'.1 65 33 = 0 ∧ ∀ i, i < k → s'.1 82 i = -9) ?_ ⟨0, _, rfl, by omega, rfl, rfl, ((Fr.rf.up _ (by omega)).up _ (by omega)).up _ (by omega), by simp [up_get], by simp [up_get], by simp [up_get], fun i hi => by omega⟩
  rintro z ls h' ⟨k, s1, hz, hkw, rfl, rfl, g1, g2, g3, g4, g5⟩ X hX
  have m1 : mR P s1 := mR_fr g1 (by omega) (by omega) hm
  refine cX (t := decide (k < P.1)) (h' := hp scr s1) ?h1 ?h2
  case h1 =>
    intro K
    simp [eV, eI, eL, eR, e1, e2, eDI, eDL, eFI, eFL, eFR, eAI, eAZ, eAR, eLen, aN, aC, xV, xS, eX, eIf, eC_b, cA, cO, cN, sSk, sSq, sI, sL, sR, sInc, sF, sFO, sAI, sAZ, sAO, sX, sXp, sIf, sCut, sSqs, sSw, sRt, sRz_g, is01_b, is01_0, is01_1, sRv, sBk, sCt, sCp, lset, lclr, lcut, lini, lx, Value.category, ixOf, b2i_0, b2i_1, T_R, m1.1]
    simp (disch := omega) only [LIT, L_0le, L_0lt, L_0eq, L_eq0, L_le0, L_lt0, L_1eq, L_eq1, L_1le, L_1lt, L_lt1, L_le1, L_p1, nI_ltI, nI_leI, nI_eq, nI_add, nI_clamp]
  case h2 =>
    by_cases hlt : k < P.1
    · simp only [hlt, decide_true, if_true]
      simp [eV, eI, eL, eR, e1, e2, eDI, eDL, eFI, eFL, eFR, eAI, eAZ, eAR, eLen, aN, aC, xV, xS, eX, eIf, eC_b, cA, cO, cN, sSk, sSq, sI, sL, sR, sInc, sF, sFO, sAI, sAZ, sAO, sX, sXp, sIf, sCut, sSqs, sSw, sRt, sRz_g, is01_b, is01_0, is01_1, sRv, sBk, sCt, sCp, lset, lclr, lcut, lini, lx, Value.category, ixOf, b2i_0, b2i_1, T_R, G_R, ixf hP.1 hlt, L_p1]
      refine hX _ _ _ (by rw [hz]; omega) ⟨k + 1, _, rfl, hlt, rfl, rfl, g1.up _ (by omega), by simp [up_get, g2], by simp [up_get, g3], by simp [up_get, g4], fun i hi => ?_⟩
      simp only [up_get, true_and]
      split
      · rfl
      · exact g5 i (by omega)
    · have : k = P.1 := by omega
      subst this
      simp only [hlt, decide_false, Bool.false_eq_true, if_false]
      simp [eV, eI, eL, eR, e1, e2, eDI, eDL, eFI, eFL, eFR, eAI, eAZ, eAR, eLen, aN, aC, xV, xS, eX, eIf, eC_b, cA, cO, cN, sSk, sSq, sI, sL, sR, sInc, sF, sFO, sAI, sAZ, sAO, sX, sXp, sIf, sCut, sSqs, sSw, sRt, sRz_g, is01_b, is01_0, is01_1, sRv, sBk, sCt, sCp, lset, lclr, lcut, lini, lx, Value.category, ixOf, b2i_0, b2i_1, T_R]
      have e19 : s1.1 65 19 = nI w := by rw [g1.2 _ _ (by omega), t1]
      have rm1 : mB w 0 r s1 := mB_fr g1 (by omega) hrm
      refine s_R_addPack scr hP hw e19 hr hn (a := 0) (by omega) rm1 _ fun s2 q1 q2 q3 q4 => ⟨rfl, ?_⟩
      have q5 : Fr FR s s2 := (g1.wk fun r k z => by omega).tr q1 fun r k z => by omega
      refine lp_ind (fun z ls h => ∃ k s', z = w - k ∧ k ≤ w ∧ ls = [.ref 65, .int (nI k)] ∧ h = hp scr s' ∧ Fr (fun r k => r = 84 ∧ 4 ≤ k) s2 s' ∧ ∀ i, i < k → s'.1 84 (4 + i) = nI (vS P r i)) ?_ ⟨0, _, rfl, by omega, rfl, rfl, Fr.rf, fun i hi => by omega⟩
      rintro z ls h' ⟨k, s3, hz3, hk3, rfl, rfl, f1, f2⟩ X3 hX3
      have q6 : Fr FR s s3 := q5.tr f1 fun r k z => by omega
      have e19 : s3.1 65 19 = nI w := by rw [q6.2 _ _ (by omega), t1]
      refine cX (t := decide (k < w)) (h' := hp scr s3) ?h3 ?h4
      case h3 =>
        intro K
        simp [eV, eI, eL, eR, e1, e2, eDI, eDL, eFI, eFL, eFR, eAI, eAZ, eAR, eLen, aN, aC, xV, xS, eX, eIf, eC_b, cA, cO, cN, sSk, sSq, sI, sL, sR, sInc, sF, sFO, sAI, sAZ, sAO, sX, sXp, sIf, sCut, sSqs, sSw, sRt, sRz_g, is01_b, is01_0, is01_1, sRv, sBk, sCt, sCp, lset, lclr, lcut, lini, lx, Value.category, ixOf, b2i_0, b2i_1, T_R, e19]
        simp (disch := omega) only [LIT, L_0le, L_0lt, L_0eq, L_eq0, L_le0, L_lt0, L_1eq, L_eq1, L_1le, L_1lt, L_lt1, L_le1, L_p1, nI_ltI, nI_leI, nI_eq, nI_add, nI_clamp]
      case h4 =>
        by_cases hlt3 : k < w
        · have Lk := wfP_ln hr hlt3
          have eB : s3.1 84 k = nI (ln r k) := by
            have := hrm k hlt3
            rw [Nat.zero_add] at this
            rw [f1.2 _ _ (by omega), q1.2 _ _ (by omega), g1.2 _ _ (by omega), this]
          have m3 : mR P s3 := mR_fr q6 (by omega) (by omega) hm
          have m69 := (m3.2 _ Lk).2.2.2 (hs k hlt3)
          have e4 : (4 : Int32) + nI k = nI (4 + k) := by rw [show (4 : Int32) = nI 4 from rfl, nI_add]
          simp only [hlt3, decide_true, if_true]
          simp [eV, eI, eL, eR, e1, e2, eDI, eDL, eFI, eFL, eFR, eAI, eAZ, eAR, eLen, aN, aC, xV, xS, eX, eIf, eC_b, cA, cO, cN, sSk, sSq, sI, sL, sR, sInc, sF, sFO, sAI, sAZ, sAO, sX, sXp, sIf, sCut, sSqs, sSw, sRt, sRz_g, is01_b, is01_0, is01_1, sRv, sBk, sCt, sCp, lset, lclr, lcut, lini, lx, Value.category, ixOf, b2i_0, b2i_1, T_R, G_R, eB, ix80 (show k < 80 by omega) (by decide), ix80 (show 4 + k < 80 by omega) (by decide), ixf hP.1 Lk, e4, m69, L_p1]
          refine hX3 _ _ _ (by rw [hz3]; omega) ⟨k + 1, _, rfl, hlt3, rfl, rfl, f1.up _ (by omega), fun i hi => ?_⟩
          simp only [up_get, true_and]
          by_cases c : i = k
          · subst c; rw [if_pos rfl]; rfl
          · rw [if_neg (by omega)]; exact f2 i (by omega)
        · have : k = w := by omega
          subst this
          simp only [hlt3, decide_false, Bool.false_eq_true, if_false]
          simp [eV, eI, eL, eR, e1, e2, eDI, eDL, eFI, eFL, eFR, eAI, eAZ, eAR, eLen, aN, aC, xV, xS, eX, eIf, eC_b, cA, cO, cN, sSk, sSq, sI, sL, sR, sInc, sF, sFO, sAI, sAZ, sAO, sX, sXp, sIf, sCut, sSqs, sSw, sRt, sRz_g, is01_b, is01_0, is01_1, sRv, sBk, sCt, sCp, lset, lclr, lcut, lini, lx, Value.category, ixOf, b2i_0, b2i_1, T_R, U_R]
          have f0 : Fr FR s (up s3 65 31 2) := q6.up _ (by omega)
          have v81 : ∀ i, s3.1 82 i = s2.1 82 i ∧ s3.1 83 i = s2.1 83 i := fun i => ⟨f1.2 _ _ (by omega), f1.2 _ _ (by omega)⟩
          have hT0 : mTR P k kp (tAt P (pDep f) kp k r 0) (up s3 65 31 2) := by
            unfold tAt tIni
            refine ⟨by rw [f0.2 _ _ (by omega), t1], fun i hi => by rw [f0.2 _ _ (by omega)]; exact hkp i hi, ?_, ?_, ?_, ?_, fun a ha => ?_, fun i hi hc => ?_, fun p hp j hj => ?_⟩
            · simp only [up_get, true_and]
              rw [if_neg (by omega), f1.2 _ _ (by omega), q2, g2]; rfl
            · simp only [up_get, true_and]
              rw [if_neg (by omega), f1.2 _ _ (by omega), q1.2 _ _ (by omega), g3]; rfl
            · simp only [up_get, true_and]
              rw [if_neg (by omega), f1.2 _ _ (by omega), q1.2 _ _ (by omega), g4]; rfl
            · simp [up_get]; rfl
            · have : a = 0 := by simp at ha; exact ha
              subst this
              intro j hj
              show (up s3 65 31 2).1 84 (4 + j) = nI (ln (tab (vS P r) k) j)
              rw [tab_ln _ hj]
              simp [up_get]; exact f2 j hj
            · simp only [up_get]
              rw [if_neg (by omega), (v81 i).1]
              have hc2 : r.contains i = false := by simpa using hc
              rw [(q4 i hc2).1]
              exact g5 i hi
            · have : p = 0 := by simp at hp; exact hp
              subst this
              show (up s3 65 31 2).1 82 (ln r j) = nI 0 ∧ (up s3 65 31 2).1 83 (ln r j) = nI j
              simp only [up_get]
              rw [if_neg (by omega), if_neg (by omega), (v81 _).1, (v81 _).2, (q3 j hj).1, (q3 j hj).2, g2]
              exact ⟨rfl, rfl⟩
          refine lp_ind (fun z ls h => ∃ b s', z = 17 - b ∧ b ≤ 16 ∧ ls = [.ref 65, .int (nI (b + 1))] ∧ h = hp scr s' ∧ Fr FR s s' ∧ mTR P k kp (tAt P (pDep f) kp k r b) s') ?_ ⟨0, _, rfl, by omega, rfl, rfl, f0, hT0⟩
          rintro z ls h' ⟨b, s4, hz4, hb4, rfl, rfl, x1, x2⟩ X4 hX4
          have m4 : mR P s4 := mR_fr x1 (by omega) (by omega) hm
          have d4 : mFD f 78 79 P.1 s4 := mFD_fr x1 (by omega) (by omega) hf
          have ok := tAt_ok (f := f) (kp := kp) hP hw hr hs hn b
          have l8 := okT_8 hP hw ok
          have x5 := x2.2.2.2.2.2.1
          have xq := x2.2.2.2.2.2.2.1
          refine cX (t := decide (b < (tAt P (pDep f) kp k r b).2.1.length)) (h' := hp scr s4) ?h5 ?h6
          case h5 =>
            intro K
            simp [eV, eI, eL, eR, e1, e2, eDI, eDL, eFI, eFL, eFR, eAI, eAZ, eAR, eLen, aN, aC, xV, xS, eX, eIf, eC_b, cA, cO, cN, sSk, sSq, sI, sL, sR, sInc, sF, sFO, sAI, sAZ, sAO, sX, sXp, sIf, sCut, sSqs, sSw, sRt, sRz_g, is01_b, is01_0, is01_1, sRv, sBk, sCt, sCp, lset, lclr, lcut, lini, lx, Value.category, ixOf, b2i_0, b2i_1, T_R, x5]
            simp (disch := omega) only [LIT, L_0le, L_0lt, L_0eq, L_eq0, L_le0, L_lt0, L_1eq, L_eq1, L_1le, L_1lt, L_lt1, L_le1, L_p1, nI_ltI, nI_leI, nI_eq, nI_add, nI_clamp]
            simp
          case h6 =>
            by_cases hlt4 : b < (tAt P (pDep f) kp k r b).2.1.length
            · have hB := ok.2.2.1 _ (getD_mem hlt4)
              have fqk := xq b hlt4
              have e4 : (4 : Int32) * nI (b + 1) = nI (4 * (b + 1)) := by rw [show (4 : Int32) = nI 4 from rfl, nI_mul]
              simp only [hlt4, decide_true, if_true]
              simp [eV, eI, eL, eR, e1, e2, eDI, eDL, eFI, eFL, eFR, eAI, eAZ, eAR, eLen, aN, aC, xV, xS, eX, eIf, eC_b, cA, cO, cN, sSk, sSq, sI, sL, sR, sInc, sF, sFO, sAI, sAZ, sAO, sX, sXp, sIf, sCut, sSqs, sSw, sRt, sRz_g, is01_b, is01_0, is01_1, sRv, sBk, sCt, sCp, lset, lclr, lcut, lini, lx, Value.category, ixOf, b2i_0, b2i_1, T_R, e4]
              refine s_R_look scr hP m4 d4 hw ok x2 hB.1 hB.2 hlt4 fqk _ fun s5 g5' g6 => ⟨rfl, ?_⟩
              simp [L_p1]
              refine hX4 _ _ _ (by rw [hz4]; omega) ⟨b + 1, s5, rfl, by omega, rfl, rfl, x1.tr g5' fun _ _ z => z, ?_⟩
              rw [tAt, if_pos hlt4]
              exact g6
            · simp only [hlt4, decide_false, Bool.false_eq_true, if_false]
              refine h s4 x1 ?_
              rw [← tAt_16 (by omega) hb4]
              exact x2
