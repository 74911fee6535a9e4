theorem s_R_costOf {P : PC} (scr : List Int32) {s : MS} (hP : okP P) (hm : mR P s) {w : Nat} (hw : w = 2 ∨ w = 4) (t1 : s.1 65 19 = nI w) {B : List Nat} (hB : wfP P w B) {a : Nat} (ha : a + 4 ≤ 80) (hBm : mB w a B s) (Q : Option Value → HV → Prop)
    (h : Q (some (.int (nI (bCost P w B)))) (hp scr s)) : X_R_costOf [.ref 65, .int (nI a)] (hp scr s) Q := by
  have h16 := hP.1
  have w0 : 0 < w := by omega
  have L0 := wfP_ln hB w0
  have B0 := hBm 0 w0
  rw [Nat.add_zero] at B0
  unfold bCost bSame bCon at h
  generalize hF : (fun k => decide (ln B k = ln B 0)) = F at h
  generalize hG : (fun k => decide (pK P (ln B k) = 1)) = G at h
  simp [X_R_costOf, B_R_costOf, eV, eI, eL, eR, e1, e2, eDI, eDL, eFI, eFL, eFR, eAI, eAZ, eAR, eLen, aN, aC, xV, xS, eX, eIf, eC_b, cA, cO, cN, sSk, sSq, sI, sL, sR, sInc, sF, sFO, sAI, sAZ, sAO, sX, sXp, sIf, sCut, sSqs, sSw, sRt, sRz_g, is01_b, is01_0, is01_1, sRv, sBk, sCt, sCp, lset, lclr, lcut, lini, lx, Value.category, ixOf, b2i_0, b2i_1]
  refine lp_ind (fun z ls h => ∃ k, z = w - k ∧ k ≤ w ∧ ls = [.ref 65, .int (nI a), .int (b2i (allB F k)), .int (b2i (allB G k)), .int (nI k)] ∧ h = hp scr s) ?_ ⟨0, rfl, by omega, rfl, rfl⟩
  rintro z ls h' ⟨k, hz, hk, rfl, rfl⟩ X hX
  refine cX (t := decide (k < w)) (h' := hp scr s) ?h1 ?h2
  case h1 =>
    intro K
    simp [eV, eI, eL, eR, e1, e2, eDI, eDL, eFI, eFL, eFR, eAI, eAZ, eAR, eLen, aN, aC, xV, xS, eX, eIf, eC_b, cA, cO, cN, sSk, sSq, sI, sL, sR, sInc, sF, sFO, sAI, sAZ, sAO, sX, sXp, sIf, sCut, sSqs, sSw, sRt, sRz_g, is01_b, is01_0, is01_1, sRv, sBk, sCt, sCp, lset, lclr, lcut, lini, lx, Value.category, ixOf, b2i_0, b2i_1, T_R, t1]
    simp (disch := omega) only [LIT, L_0le, L_0lt, L_0eq, L_eq0, L_le0, L_lt0, L_1eq, L_eq1, L_1le, L_1lt, L_lt1, L_le1, L_p1, nI_ltI, nI_leI, nI_eq, nI_add, nI_clamp]
  case h2 =>
    by_cases hlt : k < w
    · have Lk := wfP_ln hB hlt
      have kk := (hP.2 _ Lk).1
      have go := fun (x y : Bool) (hx : allB F (k + 1) = x) (hy : allB G (k + 1) = y) => hX (w - (k + 1)) [.ref 65, .int (nI a), .int (b2i x), .int (b2i y), .int (nI (k + 1))] (hp scr s) (by rw [hz]; omega) ⟨k + 1, rfl, hlt, by rw [hx, hy], rfl⟩
      have n1 : allB F (k + 1) = (allB F k && decide (ln B k = ln B 0)) := by rw [allB, ← hF]
      have n2 : allB G (k + 1) = (allB G k && decide (pK P (ln B k) = 1)) := by rw [allB, ← hG]
      have e1' : (nI (ln B k) = nI (ln B 0)) = (ln B k = ln B 0) := by rw [nI_eq (by omega) (by omega)]
      have e2' : (nI (pK P (ln B k)) = 1) = (pK P (ln B k) = 1) := L_eq1 (by omega)
      generalize allB F k = u at n1 ⊢
      generalize allB G k = v at n2 ⊢
      simp only [hlt, decide_true, if_true]
      simp [eV, eI, eL, eR, e1, e2, eDI, eDL, eFI, eFL, eFR, eAI, eAZ, eAR, eLen, aN, aC, xV, xS, eX, eIf, eC_b, cA, cO, cN, sSk, sSq, sI, sL, sR, sInc, sF, sFO, sAI, sAZ, sAO, sX, sXp, sIf, sCut, sSqs, sSw, sRt, sRz_g, is01_b, is01_0, is01_1, sRv, sBk, sCt, sCp, lset, lclr, lcut, lini, lx, Value.category, ixOf, b2i_0, b2i_1, hBm k hlt, B0, G_R, T_R, ix80 (show a + k < 80 by omega) (by decide), ix80 (show a < 80 by omega) (by decide), ixf hP.1 Lk, ixf hP.1 L0, nI_pos', nI_add, L_p1, hm.2 _ Lk, e1', e2']
      rw [n1, n2] at go
      have go := go _ _ rfl rfl
      cases u <;> cases v <;> simp at go ⊢ <;> exact go
    · have : k = w := by omega
      subst this
      simp only [hlt, decide_false, Bool.false_eq_true, if_false]
      simp [eV, eI, eL, eR, e1, e2, eDI, eDL, eFI, eFL, eFR, eAI, eAZ, eAR, eLen, aN, aC, xV, xS, eX, eIf, eC_b, cA, cO, cN, sSk, sSq, sI, sL, sR, sInc, sF, sFO, sAI, sAZ, sAO, sX, sXp, sIf, sCut, sSqs, sSw, sRt, sRz_g, is01_b, is01_0, is01_1, sRv, sBk, sCt, sCp, lset, lclr, lcut, lini, lx, Value.category, ixOf, b2i_0, b2i_1, T_R, t1]
      cases u : allB F k <;> cases v : allB G k <;> rw [u, v] at h <;> simp at h ⊢ <;> exact h
theorem s_R_waitBoth {P : PC} (scr : List Int32) {s : MS} (hP : okP P) (hm : mR P s) {w : Nat} (hw : w = 2 ∨ w = 4) (t1 : s.1 65 19 = nI w) {B : List Nat} (hB : wfP P w B) (hk : ∀ k, k < w → pK P (ln B k) = pK P (ln B 0) ∧ 2 ≤ pK P (ln B k) ∧ pK P (ln B k) ≤ 5) {a q : Nat} (ha : a + 4 ≤ 4 * q) (hq : q ≤ 17) (t2 : s.1 65 31 = nI q) (hBm : mB w a B s) (Q : Option Value → HV → Prop)
    (h : ∀ s', Fr (fun r k => (r = 84 ∧ 4 * q ≤ k) ∨ (r = 65 ∧ k = 31)) s s' → s'.1 65 31 = nI (q + 2) → mB w (4 * q) (tab (vL P B) w) s' → mB w (4 * q + 4) (tab (vR P B) w) s' → Q none (hp scr s')) : X_R_waitBoth [.ref 65, .int (nI a)] (hp scr s) Q := by
  have h16 := hP.1
  have w0 : 0 < w := by omega
  have L0 := wfP_ln hB w0
  have B0 := hBm 0 w0
  rw [Nat.add_zero] at B0
  have op : ∀ k, k < w → pa P (ln B k) < P.1 ∧ pb P (ln B k) < P.1 := fun k q => ⟨(opLR hP (wfP_ln hB q) (hk k q).2).1, (opLR hP (wfP_ln hB q) (hk k q).2).2.1⟩
  have e4 : (4 : Int32) * nI q = nI (4 * q) := by rw [show (4 : Int32) = nI 4 from rfl, nI_mul]
  have e5 : nI (4 * q) + (4 : Int32) = nI (4 * q + 4) := by rw [show (4 : Int32) = nI 4 from rfl, nI_add]
  simp [X_R_waitBoth, B_R_waitBoth, eV, eI, eL, eR, e1, e2, eDI, eDL, eFI, eFL, eFR, eAI, eAZ, eAR, eLen, aN, aC, xV, xS, eX, eIf, eC_b, cA, cO, cN, sSk, sSq, sI, sL, sR, sInc, sF, sFO, sAI, sAZ, sAO, sX, sXp, sIf, sCut, sSqs, sSw, sRt, sRz_g, is01_b, is01_0, is01_1, sRv, sBk, sCt, sCp, lset, lclr, lcut, lini, lx, Value.category, ixOf, b2i_0, b2i_1, T_R, G_R, ix80 (show a < 80 by omega) (by decide), B0, t2, e4, e5]
  refine lp_ind (fun z ls h => ∃ k s', z = w - k ∧ k ≤ w ∧ ls = [.ref 65, .int (nI a), .int (nI (ln B 0)), .int (nI (4 * q)), .int (nI (4 * q + 4)), .int (nI k), .null, .null, .null, .null] ∧ h = hp scr s' ∧ Fr (fun r k => r = 84 ∧ 4 * q ≤ k) s s' ∧ (∀ j, j < k → s'.1 84 (4 * q + j) = nI (vL P B j)) ∧ (∀ j, j < k → s'.1 84 (4 * q + 4 + j) = nI (vR P B j))) ?_ ⟨0, s, rfl, by omega, rfl, rfl, Fr.rf, fun j hj => by omega, fun j hj => by omega⟩
  rintro z ls h' ⟨k, s1, hz, hkw, rfl, rfl, g1, g2, g3⟩ X hX
  have e19 : s1.1 65 19 = nI w := by rw [g1.2 _ _ (by omega), t1]
  have m1 : mR P s1 := mR_fr g1 (by omega) (by omega) hm
  refine cX (t := decide (k < w)) (h' := hp scr s1) ?h1 ?h2
  case h1 =>
    intro K
    simp [eV, eI, eL, eR, e1, e2, eDI, eDL, eFI, eFL, eFR, eAI, eAZ, eAR, eLen, aN, aC, xV, xS, eX, eIf, eC_b, cA, cO, cN, sSk, sSq, sI, sL, sR, sInc, sF, sFO, sAI, sAZ, sAO, sX, sXp, sIf, sCut, sSqs, sSw, sRt, sRz_g, is01_b, is01_0, is01_1, sRv, sBk, sCt, sCp, lset, lclr, lcut, lini, lx, Value.category, ixOf, b2i_0, b2i_1, T_R, e19]
    simp (disch := omega) only [LIT, L_0le, L_0lt, L_0eq, L_eq0, L_le0, L_lt0, L_1eq, L_eq1, L_1le, L_1lt, L_lt1, L_le1, L_p1, nI_ltI, nI_leI, nI_eq, nI_add, nI_clamp]
  case h2 =>
    by_cases hlt : k < w
    · have Lk := wfP_ln hB hlt
      have eB : s1.1 84 (a + k) = nI (ln B k) := by rw [g1.2 _ _ (by omega)]; exact hBm k hlt
      have o0 := op 0 w0
      have ok := op k hlt
      have k1 := hk k hlt
      have mk := m1.2 _ Lk
      have m0 := m1.2 _ L0
      simp only [hlt, decide_true, if_true, sCut]
      rw [sSq_I (v := nI (ln B k)) (h' := hp scr s1) ?h3 (by simp)]
      case h3 =>
        intro K
        simp [eV, eI, eL, eR, e1, e2, eDI, eDL, eFI, eFL, eFR, eAI, eAZ, eAR, eLen, aN, aC, xV, xS, eX, eIf, eC_b, cA, cO, cN, sSk, sSq, sI, sL, sR, sInc, sF, sFO, sAI, sAZ, sAO, sX, sXp, sIf, sCut, sSqs, sSw, sRt, sRz_g, is01_b, is01_0, is01_1, sRv, sBk, sCt, sCp, lset, lclr, lcut, lini, lx, Value.category, ixOf, b2i_0, b2i_1, T_R, G_R, eB, ix80 (show a + k < 80 by omega) (by decide), nI_add]
      have kB := mk.2.2.1 (by omega)
      have ka := (m1.2 _ ok.1).1
      have kb := (m1.2 _ ok.2).1
      have ka0 := (m1.2 _ o0.1).1
      have ua := (hP.2 _ ok.1).1
      have ub := (hP.2 _ ok.2).1
      have ua0 := (hP.2 _ o0.1).1
      rw [sSq_C (t := decide (0 < k) && (decide (pK P (ln B 0) = 2) || decide (pK P (ln B 0) = 4))) ?h4 (by simp [lset])]
      case h4 =>
        intro K
        simp [eV, eI, eL, eR, e1, e2, eDI, eDL, eFI, eFL, eFR, eAI, eAZ, eAR, eLen, aN, aC, xV, xS, eX, eIf, eC_b, cA, cO, cN, sSk, sSq, sI, sL, sR, sInc, sF, sFO, sAI, sAZ, sAO, sX, sXp, sIf, sCut, sSqs, sSw, sRt, sRz_g, is01_b, is01_0, is01_1, sRv, sBk, sCt, sCp, lset, lclr, lcut, lini, lx, Value.category, ixOf, b2i_0, b2i_1, T_R, G_R, ixf hP.1 Lk, mk.1, k1.1]
        simp (disch := omega) only [LIT, L_0le, L_0lt, L_0eq, L_eq0, L_le0, L_lt0, L_1eq, L_eq1, L_1le, L_1lt, L_lt1, L_le1, L_p1, nI_ltI, nI_leI, nI_eq, nI_add, nI_clamp]
        by_cases c1 : pK P (ln B 0) = 2 <;> by_cases c2 : pK P (ln B 0) = 4 <;> by_cases c3 : 0 < k <;> simp_all
      rw [sSq_I (v := nI (pK P (pa P (ln B 0)))) (h' := hp scr s1) ?h5 (by simp [lset])]
      case h5 =>
        intro K
        simp [eV, eI, eL, eR, e1, e2, eDI, eDL, eFI, eFL, eFR, eAI, eAZ, eAR, eLen, aN, aC, xV, xS, eX, eIf, eC_b, cA, cO, cN, sSk, sSq, sI, sL, sR, sInc, sF, sFO, sAI, sAZ, sAO, sX, sXp, sIf, sCut, sSqs, sSw, sRt, sRz_g, is01_b, is01_0, is01_1, sRv, sBk, sCt, sCp, lset, lclr, lcut, lini, lx, Value.category, ixOf, b2i_0, b2i_1, T_R, G_R, ixf hP.1 L0, m0.2.1, ixf hP.1 o0.1, ka0]
      rw [sSq_C (t := pTurn P B k) ?h6 (by simp [lset])]
      case h6 =>
        intro K
        unfold pTurn
        generalize (decide (0 < k) && (decide (pK P (ln B 0) = 2) || decide (pK P (ln B 0) = 4))) = c
        simp [eV, eI, eL, eR, e1, e2, eDI, eDL, eFI, eFL, eFR, eAI, eAZ, eAR, eLen, aN, aC, xV, xS, eX, eIf, eC_b, cA, cO, cN, sSk, sSq, sI, sL, sR, sInc, sF, sFO, sAI, sAZ, sAO, sX, sXp, sIf, sCut, sSqs, sSw, sRt, sRz_g, is01_b, is01_0, is01_1, sRv, sBk, sCt, sCp, lset, lclr, lcut, lini, lx, Value.category, ixOf, b2i_0, b2i_1, T_R, G_R, ixf hP.1 Lk, mk.2.1, kB, ixf hP.1 ok.1, ixf hP.1 ok.2, ka, kb]
        simp (disch := omega) only [LIT, L_0le, L_0lt, L_0eq, L_eq0, L_le0, L_lt0, L_1eq, L_eq1, L_1le, L_1lt, L_lt1, L_le1, L_p1, nI_ltI, nI_leI, nI_eq, nI_add, nI_clamp]
        cases c <;> by_cases c1 : pK P (pa P (ln B k)) = pK P (pa P (ln B 0)) <;> simp [c1]
      have fin : ∀ s', s' = up (up s1 84 (4 * q + k) (nI (vL P B k))) 84 (4 * q + 4 + k) (nI (vR P B k)) → X [.ref 65, .int (nI a), .int (nI (ln B 0)), .int (nI (4 * q)), .int (nI (4 * q + 4)), .int (nI (k + 1)), .null, .null, .null, .null] (hp scr s') := by
        rintro s' rfl
        refine hX _ _ _ (by rw [hz]; omega) ⟨k + 1, _, rfl, hlt, rfl, rfl, (g1.up _ ⟨rfl, by omega⟩).up _ ⟨rfl, by omega⟩, fun j hj => ?_, fun j hj => ?_⟩
        · simp only [up_get, true_and]
          rw [if_neg (by omega)]
          by_cases c : j = k
          · subst c; rw [if_pos rfl]
          · rw [if_neg (by omega)]; exact g2 j (by omega)
        · simp only [up_get, true_and]
          by_cases c : j = k
          · subst c; rw [if_pos rfl]
          · rw [if_neg (by omega), if_neg (by omega)]; exact g3 j (by omega)
      unfold vL vR at fin
      have n4 : ∀ x, (up s1 84 (4 * q + k) x).1 68 (ln B k) = s1.1 68 (ln B k) ∧ (up s1 84 (4 * q + k) x).1 69 (ln B k) = s1.1 69 (ln B k) := fun x => by simp [up_get]
      cases ht : pTurn P B k with
      | false =>
        rw [ht] at fin
        simp [eV, eI, eL, eR, e1, e2, eDI, eDL, eFI, eFL, eFR, eAI, eAZ, eAR, eLen, aN, aC, xV, xS, eX, eIf, eC_b, cA, cO, cN, sSk, sSq, sI, sL, sR, sInc, sF, sFO, sAI, sAZ, sAO, sX, sXp, sIf, sCut, sSqs, sSw, sRt, sRz_g, is01_b, is01_0, is01_1, sRv, sBk, sCt, sCp, lset, lclr, lcut, lini, lx, Value.category, ixOf, b2i_0, b2i_1, T_R, G_R, ixf hP.1 Lk, mk.2.1, kB, nI_add, ix80 (show 4 * q + k < 80 by omega) (by decide), ix80 (show 4 * q + 4 + k < 80 by omega) (by decide), n4, L_p1]
        exact fin _ rfl
      | true =>
        rw [ht] at fin
        simp [eV, eI, eL, eR, e1, e2, eDI, eDL, eFI, eFL, eFR, eAI, eAZ, eAR, eLen, aN, aC, xV, xS, eX, eIf, eC_b, cA, cO, cN, sSk, sSq, sI, sL, sR, sInc, sF, sFO, sAI, sAZ, sAO, sX, sXp, sIf, sCut, sSqs, sSw, sRt, sRz_g, is01_b, is01_0, is01_1, sRv, sBk, sCt, sCp, lset, lclr, lcut, lini, lx, Value.category, ixOf, b2i_0, b2i_1, T_R, G_R, ixf hP.1 Lk, mk.2.1, kB, nI_add, ix80 (show 4 * q + k < 80 by omega) (by decide), ix80 (show 4 * q + 4 + k < 80 by omega) (by decide), n4, L_p1]
        exact fin _ rfl
    · have : k = w := by omega
      subst this
      simp only [hlt, decide_false, Bool.false_eq_true, if_false]
      simp [eV, eI, eL, eR, e1, e2, eDI, eDL, eFI, eFL, eFR, eAI, eAZ, eAR, eLen, aN, aC, xV, xS, eX, eIf, eC_b, cA, cO, cN, sSk, sSq, sI, sL, sR, sInc, sF, sFO, sAI, sAZ, sAO, sX, sXp, sIf, sCut, sSqs, sSw, sRt, sRz_g, is01_b, is01_0, is01_1, sRv, sBk, sCt, sCp, lset, lclr, lcut, lini, lx, Value.category, ixOf, b2i_0, b2i_1, T_R, U_R]
      refine h _ ((g1.wk fun r k z => Or.inl z).up _ (Or.inr ⟨rfl, rfl⟩)) ?_ (fun j hj => ?_) (fun j hj => ?_)
      · rw [up_same, g1.2 _ _ (by omega), t2, show (2 : Int32) = nI 2 from rfl, nI_add]
      · rw [tab_ln _ hj]; simp [up_get]; exact g2 j hj
      · rw [tab_ln _ hj]; simp [up_get]; exact g3 j hj
