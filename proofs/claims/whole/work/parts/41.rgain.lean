theorem s_R_isUsedOutside {P : PC} (scr : List Int32) {s : MS} (hP : okP P) (hm : mR P s) {out : Nat → Bool} (hob : ∀ k, k < 16 → bt (s.1 65 18) k = out k) {w n : Nat} (hw : w = 2 ∨ w = 4) {kp : Nat → Bool} {T : TS} (ho : okT P w T n) (hT : mTR P w kp T s) {i : Nat} (hi : i < P.1) (Q : Option Value → HV → Prop)
    (h : Q (some (.int (b2i (tk P out kp T i)))) (hp scr s)) : X_R_isUsedOutside [.ref 65, .int (nI i)] (hp scr s) Q := by
  have h16 := hP.1
  have t4 := hT.2.2.2.1
  have hs := fun Q => t_has scr s (s.1 65 32) (show i < 32 by omega) Q
  rw [t4, mS_bit _ (by omega)] at hs
  unfold tk at h
  generalize hF : (fun j => !pOutw P out kp T i j) = F at h
  have F0 : ∀ j, j ≤ i → F j = true := by
    intro j hj
    rw [← hF]
    have : ¬ i < j := by omega
    simp [pOutw, this]
  generalize T.2.2.1.contains i = c at hs h
  simp [X_R_isUsedOutside, B_R_isUsedOutside, eV, eI, eL, eR, e1, e2, eDI, eDL, eFI, eFL, eFR, eAI, eAZ, eAR, eLen, aN, aC, xV, xS, eX, eIf, eC_b, cA, cO, cN, sSk, sSq, sI, sL, sR, sInc, sF, sFO, sAI, sAZ, sAO, sX, sXp, sIf, sCut, sSqs, sSw, sRt, sRz_g, is01_b, is01_0, is01_1, sRv, sBk, sCt, sCp, lset, lclr, lcut, lini, lx, Value.category, ixOf, b2i_0, b2i_1, T_R, t4, hs, L_p1]
  refine lp_ind (fun z ls h => ∃ k, z = P.1 - k ∧ i + 1 ≤ k ∧ k ≤ P.1 ∧ ls = [.ref 65, .int (nI i), .int (b2i (c || !allB F k)), .int (nI k)] ∧ h = hp scr s) ?_ ⟨i + 1, rfl, by omega, by omega, ?_, rfl⟩
  · rintro z ls h' ⟨k, hz, hk1, hk, rfl, rfl⟩ X hX
    refine cX (t := decide (k < P.1)) (h' := hp scr s) ?h1 ?h2
    case h1 =>
      intro K
      simp [eV, eI, eL, eR, e1, e2, eDI, eDL, eFI, eFL, eFR, eAI, eAZ, eAR, eLen, aN, aC, xV, xS, eX, eIf, eC_b, cA, cO, cN, sSk, sSq, sI, sL, sR, sInc, sF, sFO, sAI, sAZ, sAO, sX, sXp, sIf, sCut, sSqs, sSw, sRt, sRz_g, is01_b, is01_0, is01_1, sRv, sBk, sCt, sCp, lset, lclr, lcut, lini, lx, Value.category, ixOf, b2i_0, b2i_1, T_R, hm.1]
      simp (disch := omega) only [LIT, L_0le, L_0lt, L_0eq, L_eq0, L_le0, L_lt0, L_1eq, L_eq1, L_1le, L_1lt, L_lt1, L_le1, L_p1, nI_ltI, nI_leI, nI_eq, nI_add, nI_clamp]
    case h2 =>
      by_cases hlt : k < P.1
      · have go := fun (x : Bool) (hx : (c || !allB F (k + 1)) = x) => hX (P.1 - (k + 1)) [.ref 65, .int (nI i), .int (b2i x), .int (nI (k + 1))] (hp scr s) (by rw [hz]; omega) ⟨k + 1, rfl, by omega, hlt, by rw [hx], rfl⟩
        rw [allB] at go
        have n1 := hT.2.1 _ hlt
        have n2 := tr_none hP hw ho hT hlt
        have n3 : F k = !pOutw P out kp T i k := by rw [← hF]
        have hq := fun Q => t_has scr s (s.1 65 18) (show k < 32 by omega) Q
        rw [hob k (by omega)] at hq
        unfold pOutw at n3
        rw [show decide (i < k) = true from decide_eq_true hk1, Bool.true_and] at n3
        generalize T.1.flatten.contains k = c2 at n2 n3
        rw [n3] at go
        generalize allB F k = u at go ⊢
        simp only [hlt, decide_true, if_true]
        simp [eV, eI, eL, eR, e1, e2, eDI, eDL, eFI, eFL, eFR, eAI, eAZ, eAR, eLen, aN, aC, xV, xS, eX, eIf, eC_b, cA, cO, cN, sSk, sSq, sI, sL, sR, sInc, sF, sFO, sAI, sAZ, sAO, sX, sXp, sIf, sCut, sSqs, sSw, sRt, sRz_g, is01_b, is01_0, is01_1, sRv, sBk, sCt, sCp, lset, lclr, lcut, lini, lx, Value.category, ixOf, b2i_0, b2i_1, G_R, T_R, ixf hP.1 hlt, n1, n2, s_R_uses scr hP hm hi hlt, hq, b2i_0, L_p1]
        cases c <;> cases u <;> cases h1 : pUses P k i <;> cases h2 : out k <;> cases h3 : kp k <;> cases c2 <;> simp [h1, h2, h3] at go ⊢ <;> exact go
      · have : k = P.1 := by omega
        subst this
        simp only [hlt, decide_false, Bool.false_eq_true, if_false]
        simp [eV, eI, eL, eR, e1, e2, eDI, eDL, eFI, eFL, eFR, eAI, eAZ, eAR, eLen, aN, aC, xV, xS, eX, eIf, eC_b, cA, cO, cN, sSk, sSq, sI, sL, sR, sInc, sF, sFO, sAI, sAZ, sAO, sX, sXp, sIf, sCut, sSqs, sSw, sRt, sRz_g, is01_b, is01_0, is01_1, sRv, sBk, sCt, sCp, lset, lclr, lcut, lini, lx, Value.category, ixOf, b2i_0, b2i_1]
        exact h
  · have : allB F (i + 1) = true := by
      rw [allB_iff]
      intro j hj
      exact F0 j (by omega)
    rw [this]
    simp
theorem s_R_gainOfTree {P : PC} (scr : List Int32) {s : MS} (hP : okP P) (hm : mR P s) {out : Nat → Bool} (hob : ∀ k, k < 16 → bt (s.1 65 18) k = out k) {w n : Nat} (hw : w = 2 ∨ w = 4) {kp : Nat → Bool} {T : TS} (ho : okT P w T n) (hT : mTR P w kp T s) (Q : Option Value → HV → Prop)
    (h : Q (some (.int (pGain P out kp w T))) (hp scr s)) : X_R_gainOfTree [.ref 65] (hp scr s) Q := by
  have h16 := hP.1
  have t1 := hT.1
  have t3 := hT.2.2.1
  have t5 := hT.2.2.2.2.1
  have hw1 : nI w - 1 = nI (w - 1) := by rw [show (1 : Int32) = nI 1 from rfl, nI_sub (by omega)]
  unfold pGain at h
  generalize hx : nI (w - 1) * nI T.1.length - nI T.2.2.2 = x at h
  simp [X_R_gainOfTree, B_R_gainOfTree, eV, eI, eL, eR, e1, e2, eDI, eDL, eFI, eFL, eFR, eAI, eAZ, eAR, eLen, aN, aC, xV, xS, eX, eIf, eC_b, cA, cO, cN, sSk, sSq, sI, sL, sR, sInc, sF, sFO, sAI, sAZ, sAO, sX, sXp, sIf, sCut, sSqs, sSw, sRt, sRz_g, is01_b, is01_0, is01_1, sRv, sBk, sCt, sCp, lset, lclr, lcut, lini, lx, Value.category, ixOf, b2i_0, b2i_1, T_R, t1, t3, t5, hw1, hx]
  refine lp_ind (fun z ls h => ∃ k, z = P.1 - k ∧ k ≤ P.1 ∧ ls = [.ref 65, .int (x - nI (cnt (pLoss P out kp T) k)), .int (nI k)] ∧ h = hp scr s) ?_ ⟨0, rfl, by omega, by show _ = [_, Value.int (_ - nI 0), _]; rw [show nI 0 = (0 : Int32) from rfl, Int32.sub_zero], rfl⟩
  rintro z ls h' ⟨k, hz, hk, rfl, rfl⟩ X hX
  refine cX (t := decide (k < P.1)) (h' := hp scr s) ?h1 ?h2
  case h1 =>
    intro K
    simp [eV, eI, eL, eR, e1, e2, eDI, eDL, eFI, eFL, eFR, eAI, eAZ, eAR, eLen, aN, aC, xV, xS, eX, eIf, eC_b, cA, cO, cN, sSk, sSq, sI, sL, sR, sInc, sF, sFO, sAI, sAZ, sAO, sX, sXp, sIf, sCut, sSqs, sSw, sRt, sRz_g, is01_b, is01_0, is01_1, sRv, sBk, sCt, sCp, lset, lclr, lcut, lini, lx, Value.category, ixOf, b2i_0, b2i_1, T_R, hm.1]
    simp (disch := omega) only [LIT, L_0le, L_0lt, L_0eq, L_eq0, L_le0, L_lt0, L_1eq, L_eq1, L_1le, L_1lt, L_lt1, L_le1, L_p1, nI_ltI, nI_leI, nI_eq, nI_add, nI_clamp]
  case h2 =>
    by_cases hlt : k < P.1
    · have kk := (hP.2 k hlt).1
      have go : ∀ y, y = x - nI (cnt (pLoss P out kp T) (k + 1)) → X [.ref 65, .int y, .int (nI (k + 1))] (hp scr s) := by
        rintro y rfl
        exact hX _ _ _ (by rw [hz]; omega) ⟨k + 1, rfl, hlt, rfl, rfl⟩
      have g0 : pLoss P out kp T k = false → x - nI (cnt (pLoss P out kp T) k) - 0 = x - nI (cnt (pLoss P out kp T) (k + 1)) := by
        intro q
        rw [Int32.sub_zero]
        simp [cnt, q]
      have g1 : pLoss P out kp T k = true → x - nI (cnt (pLoss P out kp T) k) - 1 = x - nI (cnt (pLoss P out kp T) (k + 1)) := by
        intro q
        simp only [cnt, q, if_true]
        rw [← nI_add, show nI 1 = (1 : Int32) from rfl]
        generalize nI (cnt (pLoss P out kp T) k) = y
        grind
      have pl : pLoss P out kp T k = (T.1.flatten.contains k && decide (pK P k ≠ 6) && tk P out kp T k) := rfl
      have n2 := tr_none hP hw ho hT hlt
      have k6 : (nI (pK P k) = 6) = (pK P k = 6) := by rw [show (6 : Int32) = nI 6 from rfl, nI_eq (by omega) (by omega)]
      generalize T.1.flatten.contains k = c at n2 pl
      simp only [hlt, decide_true, if_true]
      simp only [Int32.sub_zero] at g0
      simp [eV, eI, eL, eR, e1, e2, eDI, eDL, eFI, eFL, eFR, eAI, eAZ, eAR, eLen, aN, aC, xV, xS, eX, eIf, eC_b, cA, cO, cN, sSk, sSq, sI, sL, sR, sInc, sF, sFO, sAI, sAZ, sAO, sX, sXp, sIf, sCut, sSqs, sSw, sRt, sRz_g, is01_b, is01_0, is01_1, sRv, sBk, sCt, sCp, lset, lclr, lcut, lini, lx, Value.category, ixOf, b2i_0, b2i_1, G_R, T_R, ixf hP.1 hlt, n2, hm.2 k hlt, k6, L_p1]
      cases c with
      | false =>
        simp
        exact go _ (g0 (by rw [pl]; rfl))
      | true =>
        simp
        split
        · next q2 => exact go _ (g0 (by rw [pl, q2]; simp))
        · next q2 =>
          refine s_R_isUsedOutside scr hP hm hob hw ho hT hlt _ ⟨_, rfl, ?_⟩
          simp only [b2i_0]
          split
          · next q3 => exact go _ (g0 (by rw [pl, q3]; simp))
          · next q3 =>
            simp only [Bool.not_eq_true, Bool.not_eq_false] at q3
            exact go _ (g1 (by rw [pl, q3]; simpa using q2))
    · have : k = P.1 := by omega
      subst this
      simp only [hlt, decide_false, Bool.false_eq_true, if_false]
      simp [eV, eI, eL, eR, e1, e2, eDI, eDL, eFI, eFL, eFR, eAI, eAZ, eAR, eLen, aN, aC, xV, xS, eX, eIf, eC_b, cA, cO, cN, sSk, sSq, sI, sL, sR, sInc, sF, sFO, sAI, sAZ, sAO, sX, sXp, sIf, sCut, sSqs, sSw, sRt, sRz_g, is01_b, is01_0, is01_1, sRv, sBk, sCt, sCp, lset, lclr, lcut, lini, lx, Value.category, ixOf, b2i_0, b2i_1]
      exact h
