set_option maxRecDepth 8000 in
theorem s_Code_add {P : PC} {c : Nat} (hc : c = 6 ∨ c = 13) (scr : List Int32) {s : MS} (hm : mC P c s) (h16 : P.1 < 16) {k : Nat} (hk : k ≤ 6) {ps : List Nat} {p1 p2 p3 : Int32} (h1 : p1 = nI (ps.getD 0 0)) (h2 : 2 ≤ szN k → p2 = nI (ps.getD 1 0)) (h3 : 3 ≤ szN k → p3 = nI (ps.getD 2 0)) (Q : Option Value → HV → Prop) (h : ∀ s', Fr (fun r _ => c ≤ r ∧ r ≤ c + 6) s s' → mC (addP P k ps) c s' → Q none (hp scr s')) : X_Code_add [.ref c, .int (nI k), .int p1, .int p2, .int p3] (hp scr s) Q := by
  have e1' := hm.1
  have l16 : (16 ≤ nI P.1) = False := by rw [show (16 : Int32) = nI 16 from rfl]; exact eq_false (by rw [nI_leI (by decide) (by omega)]; omega)
  have fin : ∀ s', Fr (fun r _ => c ≤ r ∧ r ≤ c + 6) s s' → s'.1 c 6 = nI (P.1 + 1) → (∀ r j, c < r → j ≠ P.1 → s'.1 r j = s.1 r j) → (s'.1 (c + 1) P.1 = nI k ∧ s'.1 (c + 2) P.1 = nI (if k = 0 ∨ k = 6 then ps.getD 0 0 else 0) ∧ s'.1 (c + 3) P.1 = nI (if k = 0 ∨ k = 6 then ps.getD 1 0 else 0) ∧ s'.1 (c + 4) P.1 = nI (if k = 1 then ps.getD 0 0 else 0) ∧ s'.1 (c + 5) P.1 = nI (if k = 6 then ps.getD 2 0 else if 2 ≤ k then ps.getD 0 0 else 0) ∧ s'.1 (c + 6) P.1 = nI (if 2 ≤ k ∧ k ≤ 5 then ps.getD 1 0 else 0)) → Q none (hp scr s') := by
    intro s' g a b d
    refine h s' g ⟨a, fun i hi => ?_⟩
    have hi : i < P.1 + 1 := hi
    by_cases e : i = P.1
    · subst e
      obtain ⟨n1, n2, n3, n4⟩ := addP_new P k ps
      rw [n1, n2, n3, n4]
      exact d
    · have hi : i < P.1 := by omega
      obtain ⟨o1, o2, o3, o4⟩ := addP_old (k := k) (ps := ps) hi
      rw [o1, o2, o3, o4, b _ i (by omega) e, b _ i (by omega) e, b _ i (by omega) e, b _ i (by omega) e, b _ i (by omega) e, b _ i (by omega) e]
      exact hm.2 i hi
  have cn : c ≠ 0 ∧ c ≠ 1 ∧ 1 ≤ c := ⟨(ccf hc).1, (ccf hc).2, by omega⟩
  have ix := ix80 h16 (by decide)
  have z0 : (0 : Int32) = nI 0 := rfl
  rcases (show k = 0 ∨ k = 1 ∨ k = 6 ∨ (2 ≤ k ∧ k ≤ 5) by omega) with rfl | rfl | rfl | q
  · have h2 := h2 (by decide)
    subst h1 h2
    simp [X_Code_add, B_Code_add, eV, eI, eL, eR, e1, e2, eDI, eDL, eFI, eFL, eFR, eAI, eAZ, eAR, eLen, aN, aC, xV, xS, eX, eIf, eC_b, cA, cO, cN, sSk, sSq, sI, sL, sR, sInc, sF, sFO, sAI, sAZ, sAO, sX, sXp, sIf, sCut, sSqs, sSw, sRt, sRz_g, is01_b, is01_0, is01_1, sRv, sBk, sCt, sCp, lset, lclr, lcut, lini, lx, Value.category, ixOf, b2i_0, b2i_1, T_Code hc, U_Code hc, G_Code hc, cn, e1', l16, ix, up_get, L_p1, show nI 0 = 0 from rfl]
    refine fin _ (((((((((Fr.rf.up _ (by omega)).up _ (by omega)).up _ (by omega)).up _ (by omega)).up _ (by omega)).up _ (by omega)).up _ (by omega)).up _ (by omega)).up _ (by omega)) ?_ ?_ ?_
    · simp [up_get]
    · intro r j hr hj
      simp [up_get, hj]
      omega
    · simp [up_get, show nI 0 = 0 from rfl]
  · subst h1
    simp [X_Code_add, B_Code_add, eV, eI, eL, eR, e1, e2, eDI, eDL, eFI, eFL, eFR, eAI, eAZ, eAR, eLen, aN, aC, xV, xS, eX, eIf, eC_b, cA, cO, cN, sSk, sSq, sI, sL, sR, sInc, sF, sFO, sAI, sAZ, sAO, sX, sXp, sIf, sCut, sSqs, sSw, sRt, sRz_g, is01_b, is01_0, is01_1, sRv, sBk, sCt, sCp, lset, lclr, lcut, lini, lx, Value.category, ixOf, b2i_0, b2i_1, T_Code hc, U_Code hc, G_Code hc, cn, e1', l16, ix, up_get, L_p1, show nI 1 = 1 from rfl]
    refine fin _ ((((((((Fr.rf.up _ (by omega)).up _ (by omega)).up _ (by omega)).up _ (by omega)).up _ (by omega)).up _ (by omega)).up _ (by omega)).up _ (by omega)) ?_ ?_ ?_
    · simp [up_get]
    · intro r j hr hj
      simp [up_get, hj]
      omega
    · simp [up_get, show nI 0 = 0 from rfl, show nI 1 = 1 from rfl]
  · have h2 := h2 (by decide)
    have h3 := h3 (by decide)
    subst h1 h2 h3
    simp [X_Code_add, B_Code_add, eV, eI, eL, eR, e1, e2, eDI, eDL, eFI, eFL, eFR, eAI, eAZ, eAR, eLen, aN, aC, xV, xS, eX, eIf, eC_b, cA, cO, cN, sSk, sSq, sI, sL, sR, sInc, sF, sFO, sAI, sAZ, sAO, sX, sXp, sIf, sCut, sSqs, sSw, sRt, sRz_g, is01_b, is01_0, is01_1, sRv, sBk, sCt, sCp, lset, lclr, lcut, lini, lx, Value.category, ixOf, b2i_0, b2i_1, T_Code hc, U_Code hc, G_Code hc, cn, e1', l16, ix, up_get, L_p1, show nI 6 = 6 from rfl]
    refine fin _ ((((((((((Fr.rf.up _ (by omega)).up _ (by omega)).up _ (by omega)).up _ (by omega)).up _ (by omega)).up _ (by omega)).up _ (by omega)).up _ (by omega)).up _ (by omega)).up _ (by omega)) ?_ ?_ ?_
    · simp [up_get]
    · intro r j hr hj
      simp [up_get, hj]
      omega
    · simp [up_get, show nI 0 = 0 from rfl, show nI 6 = 6 from rfl]
  · have h2 := h2 (by unfold szN; rw [if_neg (by omega), if_neg (by omega)]; omega)
    subst h1 h2
    have n0 : ¬ nI k = 0 := by rw [L_eq0 (by omega)]; omega
    have n1 : ¬ nI k = 1 := by rw [L_eq1 (by omega)]; omega
    have n6 : ¬ nI k = 6 := by rw [show (6 : Int32) = nI 6 from rfl, nI_eq (by omega) (by decide)]; omega
    simp [X_Code_add, B_Code_add, eV, eI, eL, eR, e1, e2, eDI, eDL, eFI, eFL, eFR, eAI, eAZ, eAR, eLen, aN, aC, xV, xS, eX, eIf, eC_b, cA, cO, cN, sSk, sSq, sI, sL, sR, sInc, sF, sFO, sAI, sAZ, sAO, sX, sXp, sIf, sCut, sSqs, sSw, sRt, sRz_g, is01_b, is01_0, is01_1, sRv, sBk, sCt, sCp, lset, lclr, lcut, lini, lx, Value.category, ixOf, b2i_0, b2i_1, T_Code hc, U_Code hc, G_Code hc, cn, e1', l16, ix, up_get, L_p1, n0, n1, n6]
    refine fin _ (((((((((Fr.rf.up _ (by omega)).up _ (by omega)).up _ (by omega)).up _ (by omega)).up _ (by omega)).up _ (by omega)).up _ (by omega)).up _ (by omega)).up _ (by omega)) ?_ ?_ ?_
    · simp [up_get]
    · intro r j hr hj
      simp [up_get, hj]
      omega
    · have k00 : ¬ k = 0 := by omega
      have k0 : ¬ (k = 0 ∨ k = 6) := by omega
      have k1 : ¬ k = 1 := by omega
      have k6 : ¬ k = 6 := by omega
      simp [up_get, show nI 0 = 0 from rfl, k00, k1, k6, q]
/-! letters as numbers -/
theorem leq (a b : Nat) (ha : a < 2 ^ 31) (hb : b < 2 ^ 31) : (nI a = nI b) = (a = b) := propext (nI_eq ha hb)
theorem s_Src_headerAllows (scr : List Int32) (s : MS) {at_ c : Nat} (ha : at_ < 4) (hc : c < 256) (Q : Option Value → HV → Prop) : X_Src_headerAllows [.int (nI at_), .int (nI c)] (hp scr s) Q ↔ Q (some (.int (b2i (hdOk at_ c)))) (hp scr s) := by
  have l : ∀ b : Nat, b < 256 → ((nI c = nI b) = (c = b)) := fun b hb => leq c b (by omega) (by omega)
  have g : ∀ b : Nat, b < 256 → ((nI b ≤ nI c) = (b ≤ c)) := fun b hb => propext (nI_leI (by omega) (by omega))
  have g2 : ∀ b : Nat, b < 256 → ((nI c ≤ nI b) = (c ≤ b)) := fun b hb => propext (nI_leI (by omega) (by omega))
  have l86 := l 86 (by decide)
  have l48 := l 48 (by decide)
  have l49 := l 49 (by decide)
  have l50 := l 50 (by decide)
  have l52 := l 52 (by decide)
  have g48 := g 48 (by decide)
  have g56 := g2 56 (by decide)
  rcases (show at_ = 0 ∨ at_ = 1 ∨ at_ = 2 ∨ at_ = 3 by omega) with rfl | rfl | rfl | rfl
  · have l86 : (nI c = 86) = (c = 86) := l86
    simp [X_Src_headerAllows, B_Src_headerAllows, eV, eI, eL, eR, e1, e2, eDI, eDL, eFI, eFL, eFR, eAI, eAZ, eAR, eLen, aN, aC, xV, xS, eX, eIf, eC_b, cA, cO, cN, sSk, sSq, sI, sL, sR, sInc, sF, sFO, sAI, sAZ, sAO, sX, sXp, sIf, sCut, sSqs, sSw, sRt, sRz_g, is01_b, is01_0, is01_1, sRv, sBk, sCt, sCp, lset, lclr, lcut, lini, lx, Value.category, ixOf, b2i_0, b2i_1, show nI 0 = 0 from rfl, hdOk, l86]
  · have g48 : (48 ≤ nI c) = (48 ≤ c) := g48
    have g56 : (nI c ≤ 56) = (c ≤ 56) := g56
    simp [X_Src_headerAllows, B_Src_headerAllows, eV, eI, eL, eR, e1, e2, eDI, eDL, eFI, eFL, eFR, eAI, eAZ, eAR, eLen, aN, aC, xV, xS, eX, eIf, eC_b, cA, cO, cN, sSk, sSq, sI, sL, sR, sInc, sF, sFO, sAI, sAZ, sAO, sX, sXp, sIf, sCut, sSqs, sSw, sRt, sRz_g, is01_b, is01_0, is01_1, sRv, sBk, sCt, sCp, lset, lclr, lcut, lini, lx, Value.category, ixOf, b2i_0, b2i_1, show nI 1 = 1 from rfl, hdOk, g48, g56]
    by_cases q : 48 ≤ c <;> simp [q]
  · have l48 : (nI c = 48) = (c = 48) := l48
    have l49 : (nI c = 49) = (c = 49) := l49
    simp [X_Src_headerAllows, B_Src_headerAllows, eV, eI, eL, eR, e1, e2, eDI, eDL, eFI, eFL, eFR, eAI, eAZ, eAR, eLen, aN, aC, xV, xS, eX, eIf, eC_b, cA, cO, cN, sSk, sSq, sI, sL, sR, sInc, sF, sFO, sAI, sAZ, sAO, sX, sXp, sIf, sCut, sSqs, sSw, sRt, sRz_g, is01_b, is01_0, is01_1, sRv, sBk, sCt, sCp, lset, lclr, lcut, lini, lx, Value.category, ixOf, b2i_0, b2i_1, show nI 2 = 2 from rfl, hdOk, l48, l49]
    by_cases q : c = 48 <;> simp [q]
  · have l50 : (nI c = 50) = (c = 50) := l50
    have l52 : (nI c = 52) = (c = 52) := l52
    simp [X_Src_headerAllows, B_Src_headerAllows, eV, eI, eL, eR, e1, e2, eDI, eDL, eFI, eFL, eFR, eAI, eAZ, eAR, eLen, aN, aC, xV, xS, eX, eIf, eC_b, cA, cO, cN, sSk, sSq, sI, sL, sR, sInc, sF, sFO, sAI, sAZ, sAO, sX, sXp, sIf, sCut, sSqs, sSw, sRt, sRz_g, is01_b, is01_0, is01_1, sRv, sBk, sCt, sCp, lset, lclr, lcut, lini, lx, Value.category, ixOf, b2i_0, b2i_1, show nI 3 = 3 from rfl, hdOk, l50, l52]
    by_cases q : c = 50 <;> simp [q]
theorem s_Src_kindOf (scr : List Int32) (s : MS) {c : Nat} (hc : c < 256) (Q : Option Value → HV → Prop) : X_Src_kindOf [.int (nI c)] (hp scr s) Q ↔ Q (some (.int (vO (kindN c)))) (hp scr s) := by
  have l : ∀ b : Nat, b < 256 → ((nI c = nI b) = (c = b)) := fun b hb => leq c b (by omega) (by omega)
  have l42 : (nI c = 42) = (c = 42) := l 42 (by decide)
  have l43 : (nI c = 43) = (c = 43) := l 43 (by decide)
  have l45 : (nI c = 45) = (c = 45) := l 45 (by decide)
  have l47 : (nI c = 47) = (c = 47) := l 47 (by decide)
  have l107 : (nI c = 107) = (c = 107) := l 107 (by decide)
  have l108 : (nI c = 108) = (c = 108) := l 108 (by decide)
  have l115 : (nI c = 115) = (c = 115) := l 115 (by decide)
  unfold kindN
  by_cases q1 : c = 108
  · subst q1; simp [X_Src_kindOf, B_Src_kindOf, eV, eI, eL, eR, e1, e2, eDI, eDL, eFI, eFL, eFR, eAI, eAZ, eAR, eLen, aN, aC, xV, xS, eX, eIf, eC_b, cA, cO, cN, sSk, sSq, sI, sL, sR, sInc, sF, sFO, sAI, sAZ, sAO, sX, sXp, sIf, sCut, sSqs, sSw, sRt, sRz_g, is01_b, is01_0, is01_1, sRv, sBk, sCt, sCp, lset, lclr, lcut, lini, lx, Value.category, ixOf, b2i_0, b2i_1, show nI 108 = 108 from rfl, vO, show nI 0 = 0 from rfl]
  by_cases q2 : c = 107
  · subst q2; simp [X_Src_kindOf, B_Src_kindOf, eV, eI, eL, eR, e1, e2, eDI, eDL, eFI, eFL, eFR, eAI, eAZ, eAR, eLen, aN, aC, xV, xS, eX, eIf, eC_b, cA, cO, cN, sSk, sSq, sI, sL, sR, sInc, sF, sFO, sAI, sAZ, sAO, sX, sXp, sIf, sCut, sSqs, sSw, sRt, sRz_g, is01_b, is01_0, is01_1, sRv, sBk, sCt, sCp, lset, lclr, lcut, lini, lx, Value.category, ixOf, b2i_0, b2i_1, show nI 107 = 107 from rfl, vO, show nI 1 = 1 from rfl]
  by_cases q3 : c = 43
  · subst q3; simp [X_Src_kindOf, B_Src_kindOf, eV, eI, eL, eR, e1, e2, eDI, eDL, eFI, eFL, eFR, eAI, eAZ, eAR, eLen, aN, aC, xV, xS, eX, eIf, eC_b, cA, cO, cN, sSk, sSq, sI, sL, sR, sInc, sF, sFO, sAI, sAZ, sAO, sX, sXp, sIf, sCut, sSqs, sSw, sRt, sRz_g, is01_b, is01_0, is01_1, sRv, sBk, sCt, sCp, lset, lclr, lcut, lini, lx, Value.category, ixOf, b2i_0, b2i_1, show nI 43 = 43 from rfl, vO, show nI 2 = 2 from rfl]
  by_cases q4 : c = 45
  · subst q4; simp [X_Src_kindOf, B_Src_kindOf, eV, eI, eL, eR, e1, e2, eDI, eDL, eFI, eFL, eFR, eAI, eAZ, eAR, eLen, aN, aC, xV, xS, eX, eIf, eC_b, cA, cO, cN, sSk, sSq, sI, sL, sR, sInc, sF, sFO, sAI, sAZ, sAO, sX, sXp, sIf, sCut, sSqs, sSw, sRt, sRz_g, is01_b, is01_0, is01_1, sRv, sBk, sCt, sCp, lset, lclr, lcut, lini, lx, Value.category, ixOf, b2i_0, b2i_1, show nI 45 = 45 from rfl, vO, show nI 3 = 3 from rfl]
  by_cases q5 : c = 42
  · subst q5; simp [X_Src_kindOf, B_Src_kindOf, eV, eI, eL, eR, e1, e2, eDI, eDL, eFI, eFL, eFR, eAI, eAZ, eAR, eLen, aN, aC, xV, xS, eX, eIf, eC_b, cA, cO, cN, sSk, sSq, sI, sL, sR, sInc, sF, sFO, sAI, sAZ, sAO, sX, sXp, sIf, sCut, sSqs, sSw, sRt, sRz_g, is01_b, is01_0, is01_1, sRv, sBk, sCt, sCp, lset, lclr, lcut, lini, lx, Value.category, ixOf, b2i_0, b2i_1, show nI 42 = 42 from rfl, vO, show nI 4 = 4 from rfl]
  by_cases q6 : c = 47
  · subst q6; simp [X_Src_kindOf, B_Src_kindOf, eV, eI, eL, eR, e1, e2, eDI, eDL, eFI, eFL, eFR, eAI, eAZ, eAR, eLen, aN, aC, xV, xS, eX, eIf, eC_b, cA, cO, cN, sSk, sSq, sI, sL, sR, sInc, sF, sFO, sAI, sAZ, sAO, sX, sXp, sIf, sCut, sSqs, sSw, sRt, sRz_g, is01_b, is01_0, is01_1, sRv, sBk, sCt, sCp, lset, lclr, lcut, lini, lx, Value.category, ixOf, b2i_0, b2i_1, show nI 47 = 47 from rfl, vO, show nI 5 = 5 from rfl]
  by_cases q7 : c = 115
  · subst q7; simp [X_Src_kindOf, B_Src_kindOf, eV, eI, eL, eR, e1, e2, eDI, eDL, eFI, eFL, eFR, eAI, eAZ, eAR, eLen, aN, aC, xV, xS, eX, eIf, eC_b, cA, cO, cN, sSk, sSq, sI, sL, sR, sInc, sF, sFO, sAI, sAZ, sAO, sX, sXp, sIf, sCut, sSqs, sSw, sRt, sRz_g, is01_b, is01_0, is01_1, sRv, sBk, sCt, sCp, lset, lclr, lcut, lini, lx, Value.category, ixOf, b2i_0, b2i_1, show nI 115 = 115 from rfl, vO, show nI 6 = 6 from rfl]
  simp [X_Src_kindOf, B_Src_kindOf, eV, eI, eL, eR, e1, e2, eDI, eDL, eFI, eFL, eFR, eAI, eAZ, eAR, eLen, aN, aC, xV, xS, eX, eIf, eC_b, cA, cO, cN, sSk, sSq, sI, sL, sR, sInc, sF, sFO, sAI, sAZ, sAO, sX, sXp, sIf, sCut, sSqs, sSw, sRt, sRz_g, is01_b, is01_0, is01_1, sRv, sBk, sCt, sCp, lset, lclr, lcut, lini, lx, Value.category, ixOf, b2i_0, b2i_1, l42, l43, l45, l47, l107, l108, l115, q1, q2, q3, q4, q5, q6, q7, vO]
theorem s_Src_partsOf (scr : List Int32) (s : MS) {k : Nat} (hk : k ≤ 6) (Q : Option Value → HV → Prop) : X_Src_partsOf [.int (nI k)] (hp scr s) Q ↔ Q (some (.int (nI (szN k)))) (hp scr s) := by
  have e1' : (nI k = 1) = (k = 1) := L_eq1 (by omega)
  have e6 : (nI k = 6) = (k = 6) := leq k 6 (by omega) (by decide)
  unfold szN
  by_cases q1 : k = 1
  · simp [X_Src_partsOf, B_Src_partsOf, eV, eI, eL, eR, e1, e2, eDI, eDL, eFI, eFL, eFR, eAI, eAZ, eAR, eLen, aN, aC, xV, xS, eX, eIf, eC_b, cA, cO, cN, sSk, sSq, sI, sL, sR, sInc, sF, sFO, sAI, sAZ, sAO, sX, sXp, sIf, sCut, sSqs, sSw, sRt, sRz_g, is01_b, is01_0, is01_1, sRv, sBk, sCt, sCp, lset, lclr, lcut, lini, lx, Value.category, ixOf, b2i_0, b2i_1, q1, show nI 1 = 1 from rfl]
  · by_cases q6 : k = 6
    · simp [X_Src_partsOf, B_Src_partsOf, eV, eI, eL, eR, e1, e2, eDI, eDL, eFI, eFL, eFR, eAI, eAZ, eAR, eLen, aN, aC, xV, xS, eX, eIf, eC_b, cA, cO, cN, sSk, sSq, sI, sL, sR, sInc, sF, sFO, sAI, sAZ, sAO, sX, sXp, sIf, sCut, sSqs, sSw, sRt, sRz_g, is01_b, is01_0, is01_1, sRv, sBk, sCt, sCp, lset, lclr, lcut, lini, lx, Value.category, ixOf, b2i_0, b2i_1, q6, show nI 3 = 3 from rfl, show nI 6 = 6 from rfl]
    · simp [X_Src_partsOf, B_Src_partsOf, eV, eI, eL, eR, e1, e2, eDI, eDL, eFI, eFL, eFR, eAI, eAZ, eAR, eLen, aN, aC, xV, xS, eX, eIf, eC_b, cA, cO, cN, sSk, sSq, sI, sL, sR, sInc, sF, sFO, sAI, sAZ, sAO, sX, sXp, sIf, sCut, sSqs, sSw, sRt, sRz_g, is01_b, is01_0, is01_1, sRv, sBk, sCt, sCp, lset, lclr, lcut, lini, lx, Value.category, ixOf, b2i_0, b2i_1, e1', e6, q1, q6, show nI 2 = 2 from rfl]
theorem sub_case {c b : Nat} (hc : c < 256) (hb : b < 256) : b ≤ c ∧ nI c - nI b = nI (c - b) ∨ c < b ∧ nI c - nI b < 0 := by
  rcases Nat.lt_or_ge c b with q | q
  · exact Or.inr ⟨q, pk_sneg (by omega) q⟩
  · exact Or.inl ⟨q, nI_sub q⟩
theorem s_Src_digitBelow (scr : List Int32) (s : MS) {lim c : Nat} (hl : lim < 100) (hc : c < 256) (Q : Option Value → HV → Prop) : X_Src_digitBelow [.int (nI lim), .int (nI c)] (hp scr s) Q ↔ Q (some (.int (vO (digN lim c)))) (hp scr s) := by
  unfold digN
  rcases sub_case (b := 48) hc (by decide) with ⟨q, e⟩ | ⟨q, e⟩
  · have e : nI c - 48 = nI (c - 48) := e
    have a1 : (0 ≤ nI (c - 48)) = True := L_0le (by omega)
    have a2 : (nI (c - 48) < nI lim) = (c - 48 < lim) := propext (nI_ltI (by omega) (by omega))
    simp [X_Src_digitBelow, B_Src_digitBelow, eV, eI, eL, eR, e1, e2, eDI, eDL, eFI, eFL, eFR, eAI, eAZ, eAR, eLen, aN, aC, xV, xS, eX, eIf, eC_b, cA, cO, cN, sSk, sSq, sI, sL, sR, sInc, sF, sFO, sAI, sAZ, sAO, sX, sXp, sIf, sCut, sSqs, sSw, sRt, sRz_g, is01_b, is01_0, is01_1, sRv, sBk, sCt, sCp, lset, lclr, lcut, lini, lx, Value.category, ixOf, b2i_0, b2i_1, e, a1, a2]
    by_cases r : c - 48 < lim
    · have : 48 ≤ c ∧ c < 48 + lim := by omega
      simp [r, this, vO]
    · have : ¬ (48 ≤ c ∧ c < 48 + lim) := by omega
      simp [r, this, vO]
  · have e : nI c - 48 < 0 := e
    have a1 : ¬ (0 ≤ nI c - 48) := fun z => absurd e (Int32.not_lt.mpr z)
    have : ¬ (48 ≤ c ∧ c < 48 + lim) := by omega
    simp [X_Src_digitBelow, B_Src_digitBelow, eV, eI, eL, eR, e1, e2, eDI, eDL, eFI, eFL, eFR, eAI, eAZ, eAR, eLen, aN, aC, xV, xS, eX, eIf, eC_b, cA, cO, cN, sSk, sSq, sI, sL, sR, sInc, sF, sFO, sAI, sAZ, sAO, sX, sXp, sIf, sCut, sSqs, sSw, sRt, sRz_g, is01_b, is01_0, is01_1, sRv, sBk, sCt, sCp, lset, lclr, lcut, lini, lx, Value.category, ixOf, b2i_0, b2i_1, a1, this, vO]
theorem s_Code_operandNamed {P : PC} {c : Nat} (hcd : c = 6 ∨ c = 13) (scr : List Int32) {s : MS} (hP : okP P) (hm : mC P c s) {x : Nat} (hx : x < 256) (Q : Option Value → HV → Prop) : X_Code_operandNamed [.ref c, .int (nI x)] (hp scr s) Q ↔ Q (some (.int (vO (opN P x)))) (hp scr s) := by
  have h16 := hP.1
  have ch : ∀ y : Int32, ∀ Q, X_Code_has [.ref c, .int y] (hp scr s) Q ↔ Q (some (.int (b2i (isI P y)))) (hp scr s) := fun y Q => by rw [s_Code_has hcd, hm.1, isI_has hP]
  unfold opN
  rcases sub_case (b := 97) hx (by decide) with ⟨q, e⟩ | ⟨q, e⟩
  · have e : nI x - 97 = nI (x - 97) := e
    have ch' := ch (nI (x - 97))
    rw [isI_nat hP (by omega)] at ch'
    by_cases r : x - 97 < P.1
    · rw [decide_eq_true r] at ch'
      have kk := (hP.2 _ r).1
      have e6 : (nI (pK P (x - 97)) = 6) = (pK P (x - 97) = 6) := leq _ 6 (by omega) (by decide)
      simp [X_Code_operandNamed, B_Code_operandNamed, eV, eI, eL, eR, e1, e2, eDI, eDL, eFI, eFL, eFR, eAI, eAZ, eAR, eLen, aN, aC, xV, xS, eX, eIf, eC_b, cA, cO, cN, sSk, sSq, sI, sL, sR, sInc, sF, sFO, sAI, sAZ, sAO, sX, sXp, sIf, sCut, sSqs, sSw, sRt, sRz_g, is01_b, is01_0, is01_1, sRv, sBk, sCt, sCp, lset, lclr, lcut, lini, lx, Value.category, ixOf, b2i_0, b2i_1, e, ch', b2i_t, T_Code hcd, ccf hcd, G_Code hcd, ixf hP.1 r, (hm.2 _ r).1, e6]
      by_cases z : pK P (x - 97) = 6
      · simp [z, vO]
      · simp [z, q, r, vO]
    · rw [decide_eq_false r] at ch'
      simp [X_Code_operandNamed, B_Code_operandNamed, eV, eI, eL, eR, e1, e2, eDI, eDL, eFI, eFL, eFR, eAI, eAZ, eAR, eLen, aN, aC, xV, xS, eX, eIf, eC_b, cA, cO, cN, sSk, sSq, sI, sL, sR, sInc, sF, sFO, sAI, sAZ, sAO, sX, sXp, sIf, sCut, sSqs, sSw, sRt, sRz_g, is01_b, is01_0, is01_1, sRv, sBk, sCt, sCp, lset, lclr, lcut, lini, lx, Value.category, ixOf, b2i_0, b2i_1, e, ch', b2i_f, T_Code hcd, ccf hcd, r, vO]
  · have e : nI x - 97 < 0 := e
    have ch' := ch (nI x - 97)
    have : isI P (nI x - 97) = false := by
      unfold isI rng
      simp [e]
    rw [this] at ch'
    have q2 : ¬ 97 ≤ x := by omega
    simp [X_Code_operandNamed, B_Code_operandNamed, eV, eI, eL, eR, e1, e2, eDI, eDL, eFI, eFL, eFR, eAI, eAZ, eAR, eLen, aN, aC, xV, xS, eX, eIf, eC_b, cA, cO, cN, sSk, sSq, sI, sL, sR, sInc, sF, sFO, sAI, sAZ, sAO, sX, sXp, sIf, sCut, sSqs, sSw, sRt, sRz_g, is01_b, is01_0, is01_1, sRv, sBk, sCt, sCp, lset, lclr, lcut, lini, lx, Value.category, ixOf, b2i_0, b2i_1, ch', b2i_f, T_Code hcd, ccf hcd, q2, vO]
theorem s_Src_partOf {P : PC} {c : Nat} (hcd : c = 6 ∨ c = 13) (scr : List Int32) {s : MS} (hP : okP P) (hm : mC P c s) {k part x : Nat} (hk : k ≤ 6) (hp1 : part < 10) (hx : x < 256) (Q : Option Value → HV → Prop) : X_Src_partOf [.int (nI k), .int (nI part), .int (nI x), .ref c] (hp scr s) Q ↔ Q (some (.int (vO (partN P k part x)))) (hp scr s) := by
  have e1' : (nI k = 1) = (k = 1) := L_eq1 (by omega)
  have e0' : (nI k = 0) = (k = 0) := L_eq0 (by omega)
  have e6 : (nI k = 6) = (k = 6) := leq k 6 (by omega) (by decide)
  have f1 : (nI part = 1) = (part = 1) := L_eq1 (by omega)
  have f2 : (nI part = 2) = (part = 2) := leq part 2 (by omega) (by decide)
  have l65 : (nI x = 65) = (x = 65) := leq x 65 (by omega) (by decide)
  have l66 : (nI x = 66) = (x = 66) := leq x 66 (by omega) (by decide)
  have d10 : ∀ Q, X_Src_digitBelow [.int 10, .int (nI x)] (hp scr s) Q ↔ Q (some (.int (vO (digN 10 x)))) (hp scr s) := fun Q => s_Src_digitBelow scr s (lim := 10) (by decide) hx Q
  have d8 : ∀ Q, X_Src_digitBelow [.int 8, .int (nI x)] (hp scr s) Q ↔ Q (some (.int (vO (digN 8 x)))) (hp scr s) := fun Q => s_Src_digitBelow scr s (lim := 8) (by decide) hx Q
  have op := fun Q => s_Code_operandNamed hcd scr hP hm hx Q
  unfold partN
  by_cases q1 : k = 1
  · simp [X_Src_partOf, B_Src_partOf, eV, eI, eL, eR, e1, e2, eDI, eDL, eFI, eFL, eFR, eAI, eAZ, eAR, eLen, aN, aC, xV, xS, eX, eIf, eC_b, cA, cO, cN, sSk, sSq, sI, sL, sR, sInc, sF, sFO, sAI, sAZ, sAO, sX, sXp, sIf, sCut, sSqs, sSw, sRt, sRz_g, is01_b, is01_0, is01_1, sRv, sBk, sCt, sCp, lset, lclr, lcut, lini, lx, Value.category, ixOf, b2i_0, b2i_1, q1, show nI 1 = 1 from rfl, d10]
  · by_cases q06 : k = 0 ∨ k = 6
    · by_cases p1 : part = 1
      · subst p1
        unfold rowN
        rcases q06 with rfl | rfl
        · by_cases r : x = 65
          · simp [X_Src_partOf, B_Src_partOf, eV, eI, eL, eR, e1, e2, eDI, eDL, eFI, eFL, eFR, eAI, eAZ, eAR, eLen, aN, aC, xV, xS, eX, eIf, eC_b, cA, cO, cN, sSk, sSq, sI, sL, sR, sInc, sF, sFO, sAI, sAZ, sAO, sX, sXp, sIf, sCut, sSqs, sSw, sRt, sRz_g, is01_b, is01_0, is01_1, sRv, sBk, sCt, sCp, lset, lclr, lcut, lini, lx, Value.category, ixOf, b2i_0, b2i_1, show nI 0 = 0 from rfl, show nI 1 = 1 from rfl, show nI 65 = 65 from rfl, r, vO]
          · by_cases r2 : x = 66
            · simp [X_Src_partOf, B_Src_partOf, eV, eI, eL, eR, e1, e2, eDI, eDL, eFI, eFL, eFR, eAI, eAZ, eAR, eLen, aN, aC, xV, xS, eX, eIf, eC_b, cA, cO, cN, sSk, sSq, sI, sL, sR, sInc, sF, sFO, sAI, sAZ, sAO, sX, sXp, sIf, sCut, sSqs, sSw, sRt, sRz_g, is01_b, is01_0, is01_1, sRv, sBk, sCt, sCp, lset, lclr, lcut, lini, lx, Value.category, ixOf, b2i_0, b2i_1, show nI 0 = 0 from rfl, show nI 1 = 1 from rfl, show nI 66 = 66 from rfl, r2, vO]
            · simp [X_Src_partOf, B_Src_partOf, eV, eI, eL, eR, e1, e2, eDI, eDL, eFI, eFL, eFR, eAI, eAZ, eAR, eLen, aN, aC, xV, xS, eX, eIf, eC_b, cA, cO, cN, sSk, sSq, sI, sL, sR, sInc, sF, sFO, sAI, sAZ, sAO, sX, sXp, sIf, sCut, sSqs, sSw, sRt, sRz_g, is01_b, is01_0, is01_1, sRv, sBk, sCt, sCp, lset, lclr, lcut, lini, lx, Value.category, ixOf, b2i_0, b2i_1, show nI 0 = 0 from rfl, show nI 1 = 1 from rfl, l65, l66, r, r2, vO]
        · by_cases r : x = 65
          · simp [X_Src_partOf, B_Src_partOf, eV, eI, eL, eR, e1, e2, eDI, eDL, eFI, eFL, eFR, eAI, eAZ, eAR, eLen, aN, aC, xV, xS, eX, eIf, eC_b, cA, cO, cN, sSk, sSq, sI, sL, sR, sInc, sF, sFO, sAI, sAZ, sAO, sX, sXp, sIf, sCut, sSqs, sSw, sRt, sRz_g, is01_b, is01_0, is01_1, sRv, sBk, sCt, sCp, lset, lclr, lcut, lini, lx, Value.category, ixOf, b2i_0, b2i_1, show nI 6 = 6 from rfl, show nI 1 = 1 from rfl, show nI 0 = 0 from rfl, show nI 65 = 65 from rfl, r, vO]
          · by_cases r2 : x = 66
            · simp [X_Src_partOf, B_Src_partOf, eV, eI, eL, eR, e1, e2, eDI, eDL, eFI, eFL, eFR, eAI, eAZ, eAR, eLen, aN, aC, xV, xS, eX, eIf, eC_b, cA, cO, cN, sSk, sSq, sI, sL, sR, sInc, sF, sFO, sAI, sAZ, sAO, sX, sXp, sIf, sCut, sSqs, sSw, sRt, sRz_g, is01_b, is01_0, is01_1, sRv, sBk, sCt, sCp, lset, lclr, lcut, lini, lx, Value.category, ixOf, b2i_0, b2i_1, show nI 6 = 6 from rfl, show nI 1 = 1 from rfl, show nI 66 = 66 from rfl, r2, vO]
            · simp [X_Src_partOf, B_Src_partOf, eV, eI, eL, eR, e1, e2, eDI, eDL, eFI, eFL, eFR, eAI, eAZ, eAR, eLen, aN, aC, xV, xS, eX, eIf, eC_b, cA, cO, cN, sSk, sSq, sI, sL, sR, sInc, sF, sFO, sAI, sAZ, sAO, sX, sXp, sIf, sCut, sSqs, sSw, sRt, sRz_g, is01_b, is01_0, is01_1, sRv, sBk, sCt, sCp, lset, lclr, lcut, lini, lx, Value.category, ixOf, b2i_0, b2i_1, show nI 6 = 6 from rfl, show nI 1 = 1 from rfl, l65, l66, r, r2, vO]
      · by_cases p2 : part = 2
        · subst p2
          rcases q06 with rfl | rfl
          · simp [X_Src_partOf, B_Src_partOf, eV, eI, eL, eR, e1, e2, eDI, eDL, eFI, eFL, eFR, eAI, eAZ, eAR, eLen, aN, aC, xV, xS, eX, eIf, eC_b, cA, cO, cN, sSk, sSq, sI, sL, sR, sInc, sF, sFO, sAI, sAZ, sAO, sX, sXp, sIf, sCut, sSqs, sSw, sRt, sRz_g, is01_b, is01_0, is01_1, sRv, sBk, sCt, sCp, lset, lclr, lcut, lini, lx, Value.category, ixOf, b2i_0, b2i_1, show nI 0 = 0 from rfl, show nI 2 = 2 from rfl, d8]
          · simp [X_Src_partOf, B_Src_partOf, eV, eI, eL, eR, e1, e2, eDI, eDL, eFI, eFL, eFR, eAI, eAZ, eAR, eLen, aN, aC, xV, xS, eX, eIf, eC_b, cA, cO, cN, sSk, sSq, sI, sL, sR, sInc, sF, sFO, sAI, sAZ, sAO, sX, sXp, sIf, sCut, sSqs, sSw, sRt, sRz_g, is01_b, is01_0, is01_1, sRv, sBk, sCt, sCp, lset, lclr, lcut, lini, lx, Value.category, ixOf, b2i_0, b2i_1, show nI 6 = 6 from rfl, show nI 2 = 2 from rfl, d8]
        · rcases q06 with rfl | rfl
          · simp [X_Src_partOf, B_Src_partOf, eV, eI, eL, eR, e1, e2, eDI, eDL, eFI, eFL, eFR, eAI, eAZ, eAR, eLen, aN, aC, xV, xS, eX, eIf, eC_b, cA, cO, cN, sSk, sSq, sI, sL, sR, sInc, sF, sFO, sAI, sAZ, sAO, sX, sXp, sIf, sCut, sSqs, sSw, sRt, sRz_g, is01_b, is01_0, is01_1, sRv, sBk, sCt, sCp, lset, lclr, lcut, lini, lx, Value.category, ixOf, b2i_0, b2i_1, show nI 0 = 0 from rfl, f1, f2, p1, p2, op, T_Code hcd, ccf hcd]
          · simp [X_Src_partOf, B_Src_partOf, eV, eI, eL, eR, e1, e2, eDI, eDL, eFI, eFL, eFR, eAI, eAZ, eAR, eLen, aN, aC, xV, xS, eX, eIf, eC_b, cA, cO, cN, sSk, sSq, sI, sL, sR, sInc, sF, sFO, sAI, sAZ, sAO, sX, sXp, sIf, sCut, sSqs, sSw, sRt, sRz_g, is01_b, is01_0, is01_1, sRv, sBk, sCt, sCp, lset, lclr, lcut, lini, lx, Value.category, ixOf, b2i_0, b2i_1, show nI 6 = 6 from rfl, f1, f2, p1, p2, op, T_Code hcd, ccf hcd]
    · have n0 : ¬ k = 0 := fun z => q06 (Or.inl z)
      have n6 : ¬ k = 6 := fun z => q06 (Or.inr z)
      simp [X_Src_partOf, B_Src_partOf, eV, eI, eL, eR, e1, e2, eDI, eDL, eFI, eFL, eFR, eAI, eAZ, eAR, eLen, aN, aC, xV, xS, eX, eIf, eC_b, cA, cO, cN, sSk, sSq, sI, sL, sR, sInc, sF, sFO, sAI, sAZ, sAO, sX, sXp, sIf, sCut, sSqs, sSw, sRt, sRz_g, is01_b, is01_0, is01_1, sRv, sBk, sCt, sCp, lset, lclr, lcut, lini, lx, Value.category, ixOf, b2i_0, b2i_1, e1', e0', e6, q1, n0, n6, op, T_Code hcd, ccf hcd]
theorem allB_ex {p : Nat → Bool} {n : Nat} : allB p n = false ↔ cnt p n < n := by
  constructor
  · intro h
    rcases Nat.lt_or_ge (cnt p n) n with q | q
    · exact q
    · have := cnt_full n q
      rw [Bool.eq_false_iff] at h
      exact absurd (by rw [allB_iff]; exact this) h
  · intro h
    rw [Bool.eq_false_iff]
    intro q
    rw [allB_iff] at q
    have : cnt p n = n := by
      have e := cnt_cong (p := p) (q := fun _ => true) (n := n) q
      have f : ∀ m, cnt (fun _ => true) m = m := fun m => by
        induction m with
        | zero => rfl
        | succ m ih => simp [cnt, ih]
      rw [e, f]
    omega
theorem fl_cnt (N : Nat → Bool) : ∀ n, (fl N n).length = cnt N n
  | 0 => rfl
  | n + 1 => by
    rw [fl_s, cnt]
    split
    · simp [fl_cnt N n]
    · exact fl_cnt N n
theorem s_Code_canBegin {P : PC} {c : Nat} (hcd : c = 6 ∨ c = 13) (scr : List Int32) {s : MS} (hP : okP P) (hm : mC P c s) {k : Nat} (hk : k ≤ 6) (Q : Option Value → HV → Prop) (h : Q (some (.int (b2i (begN P k)))) (hp scr s)) : X_Code_canBegin [.ref c, .int (nI k)] (hp scr s) Q := by
  have h16 := hP.1
  have e1' : (nI k = 1) = (k = 1) := L_eq1 (by omega)
  have e0' : (nI k = 0) = (k = 0) := L_eq0 (by omega)
  have l16 : (16 ≤ nI P.1) = ¬ (P.1 < 16) := by rw [show (16 : Int32) = nI 16 from rfl, nI_leI (by decide) (by omega)]; apply propext; omega
  have av : anyV P = decide ((stL P).length < P.1) := by
    unfold anyV
    rw [Bool.eq_iff_iff, Bool.not_eq_true', allB_ex, decide_eq_true_eq]
    rw [show (stL P).length = cnt (isSt P) P.1 from fl_cnt _ _]
    rfl
  unfold begN at h
  by_cases q : P.1 < 16
  · rw [decide_eq_true q] at h
    by_cases k0 : k = 0
    · simp [X_Code_canBegin, B_Code_canBegin, eV, eI, eL, eR, e1, e2, eDI, eDL, eFI, eFL, eFR, eAI, eAZ, eAR, eLen, aN, aC, xV, xS, eX, eIf, eC_b, cA, cO, cN, sSk, sSq, sI, sL, sR, sInc, sF, sFO, sAI, sAZ, sAO, sX, sXp, sIf, sCut, sSqs, sSw, sRt, sRz_g, is01_b, is01_0, is01_1, sRv, sBk, sCt, sCp, lset, lclr, lcut, lini, lx, Value.category, ixOf, b2i_0, b2i_1, T_Code hcd, ccf hcd, hm.1, l16, q, k0, show nI 0 = 0 from rfl]
      simpa [k0, b2i] using h
    · by_cases k1 : k = 1
      · simp [X_Code_canBegin, B_Code_canBegin, eV, eI, eL, eR, e1, e2, eDI, eDL, eFI, eFL, eFR, eAI, eAZ, eAR, eLen, aN, aC, xV, xS, eX, eIf, eC_b, cA, cO, cN, sSk, sSq, sI, sL, sR, sInc, sF, sFO, sAI, sAZ, sAO, sX, sXp, sIf, sCut, sSqs, sSw, sRt, sRz_g, is01_b, is01_0, is01_1, sRv, sBk, sCt, sCp, lset, lclr, lcut, lini, lx, Value.category, ixOf, b2i_0, b2i_1, T_Code hcd, ccf hcd, hm.1, l16, q, k1, show nI 1 = 1 from rfl]
        simpa [k1, b2i] using h
      · simp [X_Code_canBegin, B_Code_canBegin, eV, eI, eL, eR, e1, e2, eDI, eDL, eFI, eFL, eFR, eAI, eAZ, eAR, eLen, aN, aC, xV, xS, eX, eIf, eC_b, cA, cO, cN, sSk, sSq, sI, sL, sR, sInc, sF, sFO, sAI, sAZ, sAO, sX, sXp, sIf, sCut, sSqs, sSw, sRt, sRz_g, is01_b, is01_0, is01_1, sRv, sBk, sCt, sCp, lset, lclr, lcut, lini, lx, Value.category, ixOf, b2i_0, b2i_1, T_Code hcd, ccf hcd, hm.1, l16, q, e0', e1', k0, k1]
        refine s_Code_stores hcd scr hP hm _ ⟨_, rfl, ?_⟩
        rw [s_count (P := P) scr s (stL_lt hP) (fl_nd _ _)]
        have ll : (stL P).length ≤ P.1 := by rw [show (stL P).length = cnt (isSt P) P.1 from fl_cnt _ _]; exact cnt_le _ _
        have lt : (nI (stL P).length < nI P.1) = ((stL P).length < P.1) := propext (nI_ltI (by omega) (by omega))
        refine ⟨_, rfl, ?_⟩
        simp [T_Code hcd, ccf hcd, hm.1, lt]
        rw [av] at h
        by_cases z : (stL P).length < P.1 <;> simp [k0, k1, z, b2i] at h ⊢ <;> exact h
  · rw [decide_eq_false q] at h
    simp [X_Code_canBegin, B_Code_canBegin, eV, eI, eL, eR, e1, e2, eDI, eDL, eFI, eFL, eFR, eAI, eAZ, eAR, eLen, aN, aC, xV, xS, eX, eIf, eC_b, cA, cO, cN, sSk, sSq, sI, sL, sR, sInc, sF, sFO, sAI, sAZ, sAO, sX, sXp, sIf, sCut, sSqs, sSw, sRt, sRz_g, is01_b, is01_0, is01_1, sRv, sBk, sCt, sCp, lset, lclr, lcut, lini, lx, Value.category, ixOf, b2i_0, b2i_1, T_Code hcd, ccf hcd, hm.1, l16, q]
    simpa [b2i] using h
