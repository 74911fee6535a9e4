theorem s_R_noTree {P : PC} (scr : List Int32) {s : MS} (hP : okP P) (hm : mR P s) (Q : Option Value → HV → Prop)
    (h : ∀ s', Fr (fun r _ => r = 82) s s' → (∀ i, i < P.1 → s'.1 82 i = -9) → Q none (hp scr s')) : X_R_noTree [.ref 65] (hp scr s) Q := by
  have h16 := hP.1
  simp [X_R_noTree, B_R_noTree, eV, eI, eL, eR, e1, e2, eDI, eDL, eFI, eFL, eFR, eAI, eAZ, eAR, eLen, aN, aC, xV, xS, eX, eIf, eC_b, cA, cO, cN, sSk, sSq, sI, sL, sR, sInc, sF, sFO, sAI, sAZ, sAO, sX, sXp, sIf, sCut, sSqs, sSw, sRt, sRz_g, is01_b, is01_0, is01_1, sRv, sBk, sCt, sCp, lset, lclr, lcut, lini, lx, Value.category, ixOf, b2i_0, b2i_1]
  refine lp_ind (fun z ls h => ∃ k s', z = P.1 - k ∧ k ≤ P.1 ∧ ls = [.ref 65, .int (nI k)] ∧ h = hp scr s' ∧ Fr (fun r _ => r = 82) s s' ∧ ∀ i, i < k → s'.1 82 i = -9) ?_ ⟨0, s, rfl, by omega, rfl, rfl, Fr.rf, fun i hi => by omega⟩
  rintro z ls h' ⟨k, s1, hz, hk, rfl, rfl, g1, g2⟩ X hX
  have m1 : mR P s1 := mR_fr g1 (by omega) (by omega) hm
  refine cX (t := decide (k < P.1)) (h' := hp scr s1) ?h1 ?h2
  case h1 =>
    intro K
    simp [eV, eI, eL, eR, e1, e2, eDI, eDL, eFI, eFL, eFR, eAI, eAZ, eAR, eLen, aN, aC, xV, xS, eX, eIf, eC_b, cA, cO, cN, sSk, sSq, sI, sL, sR, sInc, sF, sFO, sAI, sAZ, sAO, sX, sXp, sIf, sCut, sSqs, sSw, sRt, sRz_g, is01_b, is01_0, is01_1, sRv, sBk, sCt, sCp, lset, lclr, lcut, lini, lx, Value.category, ixOf, b2i_0, b2i_1, T_R, m1.1]
    simp (disch := omega) only [LIT, L_0le, L_0lt, L_0eq, L_eq0, L_le0, L_lt0, L_1eq, L_eq1, L_1le, L_1lt, L_lt1, L_le1, L_p1, nI_ltI, nI_leI, nI_eq, nI_add, nI_clamp]
  case h2 =>
    by_cases hlt : k < P.1
    · simp only [hlt, decide_true, if_true]
      simp [eV, eI, eL, eR, e1, e2, eDI, eDL, eFI, eFL, eFR, eAI, eAZ, eAR, eLen, aN, aC, xV, xS, eX, eIf, eC_b, cA, cO, cN, sSk, sSq, sI, sL, sR, sInc, sF, sFO, sAI, sAZ, sAO, sX, sXp, sIf, sCut, sSqs, sSw, sRt, sRz_g, is01_b, is01_0, is01_1, sRv, sBk, sCt, sCp, lset, lclr, lcut, lini, lx, Value.category, ixOf, b2i_0, b2i_1, T_R, G_R, ixf hP.1 hlt, L_p1]
      refine hX _ _ _ (by rw [hz]; omega) ⟨k + 1, _, rfl, hlt, rfl, rfl, g1.up _ rfl, fun i hi => ?_⟩
      simp only [up_get, true_and]
      split
      · rfl
      · exact g2 i (by omega)
    · have : k = P.1 := by omega
      subst this
      simp only [hlt, decide_false, Bool.false_eq_true, if_false]
      exact h s1 g1 g2
theorem s_R_keepTree {P : PC} (scr : List Int32) {s : MS} (hP : okP P) (hm : mR P s) {w : Nat} {K T : List (List Nat)} (hT : ∀ B, B ∈ T → wfP P w B) (lT : T.length ≤ 100) (lK : K.length ≤ 100) (nT : NR P w 82 T s) (lT2 : ∀ p, p < T.length → ∀ k, k < w → s.1 83 (ln (T.getD p []) k) = nI k) (t24 : s.1 65 24 = nI K.length) (t29 : s.1 65 29 = nI T.length) (g : Int32) (Q : Option Value → HV → Prop)
    (h : ∀ s', Fr (fun r k => r = 80 ∨ r = 81 ∨ (r = 65 ∧ (k = 24 ∨ k = 25 ∨ k = 26))) s s' → s'.1 65 24 = nI (K.length + T.length) → s'.1 65 25 = s.1 65 25 + 1 → s'.1 65 26 = s.1 65 26 + g → (∀ i, i < P.1 → T.flatten.contains i = false → s'.1 80 i = s.1 80 i ∧ s'.1 81 i = s.1 81 i) → (∀ q, q < T.length → ∀ k, k < w → s'.1 80 (ln (T.getD q []) k) = nI (K.length + q) ∧ s'.1 81 (ln (T.getD q []) k) = nI k) → Q none (hp scr s')) : X_R_keepTree [.ref 65, .int g] (hp scr s) Q := by
  have h16 := hP.1
  have no : ∀ i, i < P.1 → (s.1 82 i = -9) = (T.flatten.contains i = false) := by
    intro i hi
    cases hc : T.flatten.contains i with
    | false => exact propext ⟨fun _ => rfl, fun _ => nT.1 i hi hc⟩
    | true =>
      obtain ⟨p, k, hp, hk, rfl⟩ := (in_flat hP hT).mp hc
      rw [nT.2 p hp k hk, nI_n9 (by omega)]
      simp
  simp [X_R_keepTree, B_R_keepTree, eV, eI, eL, eR, e1, e2, eDI, eDL, eFI, eFL, eFR, eAI, eAZ, eAR, eLen, aN, aC, xV, xS, eX, eIf, eC_b, cA, cO, cN, sSk, sSq, sI, sL, sR, sInc, sF, sFO, sAI, sAZ, sAO, sX, sXp, sIf, sCut, sSqs, sSw, sRt, sRz_g, is01_b, is01_0, is01_1, sRv, sBk, sCt, sCp, lset, lclr, lcut, lini, lx, Value.category, ixOf, b2i_0, b2i_1]
  refine lp_ind (fun z ls h => ∃ k s', z = P.1 - k ∧ k ≤ P.1 ∧ ls = [.ref 65, .int g, .int (nI k)] ∧ h = hp scr s' ∧ Fr (fun r _ => r = 80 ∨ r = 81) s s' ∧ (∀ i, (T.flatten.contains i = false ∨ k ≤ i) → s'.1 80 i = s.1 80 i ∧ s'.1 81 i = s.1 81 i) ∧ (∀ i, i < k → T.flatten.contains i = true → s'.1 80 i = nI K.length + s.1 82 i ∧ s'.1 81 i = s.1 83 i)) ?_ ⟨0, s, rfl, by omega, rfl, rfl, Fr.rf, fun i _ => ⟨rfl, rfl⟩, fun i hi => by omega⟩
  rintro z ls h' ⟨k, s1, hz, hk, rfl, rfl, g1, g2, g3⟩ X hX
  have m1 : mR P s1 := mR_fr g1 (by omega) (by omega) hm
  have e24 : s1.1 65 24 = nI K.length := by rw [g1.2 _ _ (by omega), t24]
  have e29 : s1.1 65 29 = nI T.length := by rw [g1.2 _ _ (by omega), t29]
  refine cX (t := decide (k < P.1)) (h' := hp scr s1) ?h1 ?h2
  case h1 =>
    intro K
    simp [eV, eI, eL, eR, e1, e2, eDI, eDL, eFI, eFL, eFR, eAI, eAZ, eAR, eLen, aN, aC, xV, xS, eX, eIf, eC_b, cA, cO, cN, sSk, sSq, sI, sL, sR, sInc, sF, sFO, sAI, sAZ, sAO, sX, sXp, sIf, sCut, sSqs, sSw, sRt, sRz_g, is01_b, is01_0, is01_1, sRv, sBk, sCt, sCp, lset, lclr, lcut, lini, lx, Value.category, ixOf, b2i_0, b2i_1, T_R, m1.1]
    simp (disch := omega) only [LIT, L_0le, L_0lt, L_0eq, L_eq0, L_le0, L_lt0, L_1eq, L_eq1, L_1le, L_1lt, L_lt1, L_le1, L_p1, nI_ltI, nI_leI, nI_eq, nI_add, nI_clamp]
  case h2 =>
    by_cases hlt : k < P.1
    · have n1 := no k hlt
      have e81 : s1.1 82 k = s.1 82 k := g1.2 _ _ (by omega)
      have e82 : s1.1 83 k = s.1 83 k := g1.2 _ _ (by omega)
      simp only [hlt, decide_true, if_true]
      cases hc : T.flatten.contains k with
      | false =>
        rw [hc] at n1
        simp [eV, eI, eL, eR, e1, e2, eDI, eDL, eFI, eFL, eFR, eAI, eAZ, eAR, eLen, aN, aC, xV, xS, eX, eIf, eC_b, cA, cO, cN, sSk, sSq, sI, sL, sR, sInc, sF, sFO, sAI, sAZ, sAO, sX, sXp, sIf, sCut, sSqs, sSw, sRt, sRz_g, is01_b, is01_0, is01_1, sRv, sBk, sCt, sCp, lset, lclr, lcut, lini, lx, Value.category, ixOf, b2i_0, b2i_1, T_R, G_R, ixf hP.1 hlt, e81, n1, L_p1]
        refine hX _ _ _ (by rw [hz]; omega) ⟨k + 1, s1, rfl, hlt, rfl, rfl, g1, fun i hi => g2 i (hi.imp id fun q => by omega), fun i hi hci => ?_⟩
        have : i ≠ k := by rintro rfl; rw [hc] at hci; simp at hci
        exact g3 i (by omega) hci
      | true =>
        rw [hc] at n1
        have n2 : ¬ s.1 82 k = -9 := by rw [n1]; simp
        simp [eV, eI, eL, eR, e1, e2, eDI, eDL, eFI, eFL, eFR, eAI, eAZ, eAR, eLen, aN, aC, xV, xS, eX, eIf, eC_b, cA, cO, cN, sSk, sSq, sI, sL, sR, sInc, sF, sFO, sAI, sAZ, sAO, sX, sXp, sIf, sCut, sSqs, sSw, sRt, sRz_g, is01_b, is01_0, is01_1, sRv, sBk, sCt, sCp, lset, lclr, lcut, lini, lx, Value.category, ixOf, b2i_0, b2i_1, T_R, G_R, ixf hP.1 hlt, e81, e82, n2, e24, up_get, L_p1]
        refine hX _ _ _ (by rw [hz]; omega) ⟨k + 1, _, rfl, hlt, rfl, rfl, (g1.up _ (Or.inl rfl)).up _ (Or.inr rfl), fun i hi => ?_, fun i hi hci => ?_⟩
        · have : i ≠ k := by
            rintro rfl
            rcases hi with q | q
            · rw [hc] at q; simp at q
            · omega
          simp [up_get, this]
          exact g2 i (hi.imp id fun q => by omega)
        · by_cases c : i = k
          · subst c; simp [up_get]
          · simp [up_get, c]
            exact g3 i (by omega) hci
    · have : k = P.1 := by omega
      subst this
      simp only [hlt, decide_false, Bool.false_eq_true, if_false]
      simp [eV, eI, eL, eR, e1, e2, eDI, eDL, eFI, eFL, eFR, eAI, eAZ, eAR, eLen, aN, aC, xV, xS, eX, eIf, eC_b, cA, cO, cN, sSk, sSq, sI, sL, sR, sInc, sF, sFO, sAI, sAZ, sAO, sX, sXp, sIf, sCut, sSqs, sSw, sRt, sRz_g, is01_b, is01_0, is01_1, sRv, sBk, sCt, sCp, lset, lclr, lcut, lini, lx, Value.category, ixOf, b2i_0, b2i_1, T_R, U_R, e24, e29, up_get, nI_add]
      refine h _ ((((g1.wk fun r k z => by omega).up _ (by omega)).up _ (by omega)).up _ (by omega)) ?_ ?_ ?_ (fun i hi hc => ?_) (fun q hq k hk => ?_)
      · simp [up_get]
      · simp [up_get]; rw [g1.2 _ _ (by omega)]
      · simp [up_get]; rw [g1.2 _ _ (by omega)]
      · simp [up_get]; exact g2 i (Or.inl hc)
      · have L := wfP_ln (hT _ (getD_mem hq)) hk
        have := g3 _ L ((in_flat hP hT).mpr ⟨q, k, hq, hk, rfl⟩)
        simp only [up_get]
        rw [if_neg (by omega), if_neg (by omega), if_neg (by omega), if_neg (by omega), if_neg (by omega), if_neg (by omega), this.1, this.2, nT.2 q hq k hk, nI_add, lT2 q hq k hk]
        exact ⟨rfl, rfl⟩
