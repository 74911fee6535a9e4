/-! the first sixty-four cells -/
def tp (scr : List Int32) (s : MS) : HV := (hp scr s).take 65
theorem tp_at {scr : List Int32} {s : MS} {r : Nat} (h : r < 65) : (tp scr s)[r]? = (hp scr s)[r]? := by unfold tp; rw [List.getElem?_take]; simp [h]
theorem tp_k {scr : List Int32} {s : MS} {r : Nat} (h : r < 65) : hk (tp scr s) r = hk (hp scr s) r := by unfold hk; rw [tp_at h]
theorem tp_g {scr : List Int32} {s : MS} {r k : Nat} (h : r < 65) : hg (tp scr s) r k = hg (hp scr s) r k := by unfold hg; rw [tp_at h]
theorem tp_n {scr : List Int32} {s : MS} {r : Nat} (h : r < 65) : hn (tp scr s) r = hn (hp scr s) r := by unfold hn; rw [tp_at h]
theorem tp_s {scr : List Int32} {s : MS} {r k : Nat} {v : Value} (h : r < 65) : hs (tp scr s) r k v = (hs (hp scr s) r k v).take 65 := by
  unfold hs
  rw [tp_at h]
  cases (hp scr s)[r]? with
  | none => rfl
  | some c => exact (List.take_set ..).symm
theorem tp_f {scr : List Int32} {s : MS} : (hp scr s).take 65 = tp scr s := rfl
theorem k_PL_restart (scr : List Int32) {s : MS} {h : Nat × Nat × Nat} (Q : Option Value → HV → Prop) (hQ : ∀ s', Fr (fun r k => r = 20 ∨ (r = 24 ∧ k = 2) ∨ r = 28) s s' → mRw 20 (row0 h) s' → s'.1 24 2 = 0 → (∀ j, j < 2 → s'.1 28 j = 0) → Q none (tp scr s')) : X_PL_restart [.ref 2, .int (nI h.1), .int (nI h.2.1), .int (nI h.2.2)] (tp scr s) Q := by
  simp [X_PL_restart, B_PL_restart, eV, eI, eL, eR, e1, e2, eDI, eDL, eFI, eFL, eFR, eAI, eAZ, eAR, eLen, aN, aC, xV, xS, eX, eIf, eC_b, cA, cO, cN, sSk, sSq, sI, sL, sR, sInc, sF, sFO, sAI, sAZ, sAO, sX, sXp, sIf, sCut, sSqs, sSw, sRt, sRz_g, is01_b, is01_0, is01_1, sRv, sBk, sCt, sCp, lset, lclr, lcut, lini, lx, Value.category, ixOf, b2i_0, b2i_1]
  refine lp_ind (fun z ls hh => ∃ k s', z = 16 - k ∧ k ≤ 16 ∧ ls = [.ref 2, .int (nI h.1), .int (nI h.2.1), .int (nI h.2.2), .int (nI k)] ∧ hh = tp scr s' ∧ Fr (fun r _ => r = 20) s s' ∧ ∀ b, b < k → s'.1 20 b = nI (b + 1)) ?_ ⟨0, s, rfl, by omega, rfl, rfl, Fr.rf, fun b hb => by omega⟩
  rintro z ls h' ⟨k, s1, hz, hk, rfl, rfl, g1, g2⟩ X hX
  refine cX (t := decide (k < 16)) (h' := tp scr s1) ?h1 ?h2
  case h1 =>
    intro K
    simp [eV, eI, eL, eR, e1, e2, eDI, eDL, eFI, eFL, eFR, eAI, eAZ, eAR, eLen, aN, aC, xV, xS, eX, eIf, eC_b, cA, cO, cN, sSk, sSq, sI, sL, sR, sInc, sF, sFO, sAI, sAZ, sAO, sX, sXp, sIf, sCut, sSqs, sSw, sRt, sRz_g, is01_b, is01_0, is01_1, sRv, sBk, sCt, sCp, lset, lclr, lcut, lini, lx, Value.category, ixOf, b2i_0, b2i_1]
    simp (disch := omega) only [LIT, L_0le, L_0lt, L_0eq, L_eq0, L_le0, L_lt0, L_1eq, L_eq1, L_1le, L_1lt, L_lt1, L_le1, L_p1, nI_ltI, nI_leI, nI_eq, nI_add, nI_clamp]
  case h2 =>
    by_cases hlt : k < 16
    · simp only [hlt, decide_true, if_true]
      simp [eV, eI, eL, eR, e1, e2, eDI, eDL, eFI, eFL, eFR, eAI, eAZ, eAR, eLen, aN, aC, xV, xS, eX, eIf, eC_b, cA, cO, cN, sSk, sSq, sI, sL, sR, sInc, sF, sFO, sAI, sAZ, sAO, sX, sXp, sIf, sCut, sSqs, sSw, sRt, sRz_g, is01_b, is01_0, is01_1, sRv, sBk, sCt, sCp, lset, lclr, lcut, lini, lx, Value.category, ixOf, b2i_0, b2i_1, tp_k, tp_g, tp_s, tp_f, tp_n, T_PL, G_row, ix80 (show k < 19 by omega) (by decide), L_p1]
      refine hX _ _ _ (by rw [hz]; omega) ⟨k + 1, _, rfl, hlt, rfl, rfl, g1.up _ rfl, fun b hb => ?_⟩
      by_cases c : b = k
      · subst c; simp [up_get]
      · simp [up_get, c]; exact g2 b (by omega)
    · have : k = 16 := by omega
      subst this
      simp only [hlt, decide_false, Bool.false_eq_true, if_false]
      simp [eV, eI, eL, eR, e1, e2, eDI, eDL, eFI, eFL, eFR, eAI, eAZ, eAR, eLen, aN, aC, xV, xS, eX, eIf, eC_b, cA, cO, cN, sSk, sSq, sI, sL, sR, sInc, sF, sFO, sAI, sAZ, sAO, sX, sXp, sIf, sCut, sSqs, sSw, sRt, sRz_g, is01_b, is01_0, is01_1, sRv, sBk, sCt, sCp, lset, lclr, lcut, lini, lx, Value.category, ixOf, b2i_0, b2i_1, tp_k, tp_g, tp_s, tp_f, tp_n, T_PL, T_Acts, U_Acts, T_Slots, G_row, show (16 : Int32).toNatClampNeg = 16 from rfl, show (17 : Int32).toNatClampNeg = 17 from rfl, show (18 : Int32).toNatClampNeg = 18 from rfl, X_Acts_clear, B_Acts_clear]
      simp [X_Slots_clear, B_Slots_clear, eV, eI, eL, eR, e1, e2, eDI, eDL, eFI, eFL, eFR, eAI, eAZ, eAR, eLen, aN, aC, xV, xS, eX, eIf, eC_b, cA, cO, cN, sSk, sSq, sI, sL, sR, sInc, sF, sFO, sAI, sAZ, sAO, sX, sXp, sIf, sCut, sSqs, sSw, sRt, sRz_g, is01_b, is01_0, is01_1, sRv, sBk, sCt, sCp, lset, lclr, lcut, lini, lx, Value.category, ixOf, b2i_0, b2i_1]
      have gg : Fr (fun r k => r = 20 ∨ (r = 24 ∧ k = 2) ∨ r = 28) s (up (up (up (up s1 20 16 (nI h.1)) 20 17 (nI h.2.1)) 20 18 (nI h.2.2)) 24 2 0) := ((((g1.wk fun r k z => by omega).up _ (by omega)).up _ (by omega)).up _ (by omega)).up _ (by omega)
      have ww : mRw 20 (row0 h) (up (up (up (up s1 20 16 (nI h.1)) 20 17 (nI h.2.1)) 20 18 (nI h.2.2)) 24 2 0) := fun k hk => by
        simp only [up_get, row0]
        by_cases a : k < 16
        · have a1 : k ≠ 16 := by omega
          have a2 : k ≠ 17 := by omega
          have a3 : k ≠ 18 := by omega
          simp [a, a1, a2, a3]; exact g2 k a
        · rcases (show k = 16 ∨ k = 17 ∨ k = 18 by omega) with rfl | rfl | rfl <;> simp
      have w23 : (up (up (up (up s1 20 16 (nI h.1)) 20 17 (nI h.2.1)) 20 18 (nI h.2.2)) 24 2 0).1 24 2 = 0 := by simp [up_get]
      generalize (up (up (up (up s1 20 16 (nI h.1)) 20 17 (nI h.2.1)) 20 18 (nI h.2.2)) 24 2 0) = s2 at gg ww w23 ⊢
      refine lp_ind (fun z ls hh => ∃ k s', z = 2 - k ∧ k ≤ 2 ∧ ls = [.ref 27, .int (nI k)] ∧ hh = tp scr s' ∧ Fr (fun r _ => r = 28) s2 s' ∧ ∀ b, b < k → s'.1 28 b = 0) ?_ ⟨0, s2, rfl, by omega, rfl, rfl, Fr.rf, fun b hb => by omega⟩
      rintro z2 ls h' ⟨k, s3, hz2, hk, rfl, rfl, f1, f2⟩ X2 hX2
      refine cX (t := decide (k < 2)) (h' := tp scr s3) ?h3 ?h4
      case h3 =>
        intro K
        simp [eV, eI, eL, eR, e1, e2, eDI, eDL, eFI, eFL, eFR, eAI, eAZ, eAR, eLen, aN, aC, xV, xS, eX, eIf, eC_b, cA, cO, cN, sSk, sSq, sI, sL, sR, sInc, sF, sFO, sAI, sAZ, sAO, sX, sXp, sIf, sCut, sSqs, sSw, sRt, sRz_g, is01_b, is01_0, is01_1, sRv, sBk, sCt, sCp, lset, lclr, lcut, lini, lx, Value.category, ixOf, b2i_0, b2i_1]
        simp (disch := omega) only [LIT, L_0le, L_0lt, L_0eq, L_eq0, L_le0, L_lt0, L_1eq, L_eq1, L_1le, L_1lt, L_lt1, L_le1, L_p1, nI_ltI, nI_leI, nI_eq, nI_add, nI_clamp]
      case h4 =>
        by_cases hlt2 : k < 2
        · simp only [hlt2, decide_true, if_true]
          simp [eV, eI, eL, eR, e1, e2, eDI, eDL, eFI, eFL, eFR, eAI, eAZ, eAR, eLen, aN, aC, xV, xS, eX, eIf, eC_b, cA, cO, cN, sSk, sSq, sI, sL, sR, sInc, sF, sFO, sAI, sAZ, sAO, sX, sXp, sIf, sCut, sSqs, sSw, sRt, sRz_g, is01_b, is01_0, is01_1, sRv, sBk, sCt, sCp, lset, lclr, lcut, lini, lx, Value.category, ixOf, b2i_0, b2i_1, tp_k, tp_g, tp_s, tp_f, tp_n, T_Slots, ix80 hlt2 (by decide), Z27, L_p1]
          refine hX2 _ _ _ (by rw [hz2]; omega) ⟨k + 1, _, rfl, hlt2, rfl, rfl, f1.up _ rfl, fun b hb => ?_⟩
          by_cases c : b = k
          · subst c; simp [up_get]
          · simp [up_get, c]; exact f2 b (by omega)
        · have : k = 2 := by omega
          subst this
          simp only [hlt2, decide_false, Bool.false_eq_true, if_false]
          exact hQ s3 (gg.tr f1 fun r k z => by omega) (mRw_fr f1 (by omega) ww) (by rw [f1.2 _ _ (by omega)]; exact w23) f2
theorem k_Links_find (scr : List Int32) {s : MS} (hm : s.1 6 6 = 0) {x y : Int32} (Q : Option Value → HV → Prop) (h : Q none (tp scr (up s 41 4 0))) : X_Links_find [.ref 41, .int x, .int y, .int 0] (tp scr s) Q := by
  have hT := T_Pack (b := 35) (Or.inl rfl)
  have hU := U_Pack (b := 35) (Or.inl rfl)
  simp only [Nat.reduceAdd] at hT hU
  simp [X_Links_find, B_Links_find, eV, eI, eL, eR, e1, e2, eDI, eDL, eFI, eFL, eFR, eAI, eAZ, eAR, eLen, aN, aC, xV, xS, eX, eIf, eC_b, cA, cO, cN, sSk, sSq, sI, sL, sR, sInc, sF, sFO, sAI, sAZ, sAO, sX, sXp, sIf, sCut, sSqs, sSw, sRt, sRz_g, is01_b, is01_0, is01_1, sRv, sBk, sCt, sCp, lset, lclr, lcut, lini, lx, Value.category, ixOf, b2i_0, b2i_1, tp_k, tp_g, tp_s, tp_f, tp_n, hT, hU]
  refine lp_ind (fun z ls h => ls = [.ref 41, .int x, .int y, .int 0, .int 0, .null] ∧ h = tp scr (up s 41 4 0)) ?_ (m := 0) ⟨rfl, rfl⟩
  rintro z ls h' ⟨rfl, rfl⟩ X hX
  have z6 : (up s 41 4 0).1 6 6 = 0 := by simp [up_get, hm]
  simp [eV, eI, eL, eR, e1, e2, eDI, eDL, eFI, eFL, eFR, eAI, eAZ, eAR, eLen, aN, aC, xV, xS, eX, eIf, eC_b, cA, cO, cN, sSk, sSq, sI, sL, sR, sInc, sF, sFO, sAI, sAZ, sAO, sX, sXp, sIf, sCut, sSqs, sSw, sRt, sRz_g, is01_b, is01_0, is01_1, sRv, sBk, sCt, sCp, lset, lclr, lcut, lini, lx, Value.category, ixOf, b2i_0, b2i_1, tp_k, tp_g, tp_s, tp_f, tp_n, hT, T_Code c6, z6]
  exact h
theorem k_Pack_leastStore (scr : List Int32) {s : MS} (hm : s.1 6 6 = 0) {x y : Int32} (Q : Option Value → HV → Prop) (h : Q (some (.int (-9))) (tp scr s)) : X_Pack_leastStore [.ref 35, .int x, .int y] (tp scr s) Q := by
  have hT := T_Pack (b := 35) (Or.inl rfl)
  simp only [Nat.reduceAdd] at hT
  simp [X_Pack_leastStore, B_Pack_leastStore, eV, eI, eL, eR, e1, e2, eDI, eDL, eFI, eFL, eFR, eAI, eAZ, eAR, eLen, aN, aC, xV, xS, eX, eIf, eC_b, cA, cO, cN, sSk, sSq, sI, sL, sR, sInc, sF, sFO, sAI, sAZ, sAO, sX, sXp, sIf, sCut, sSqs, sSw, sRt, sRz_g, is01_b, is01_0, is01_1, sRv, sBk, sCt, sCp, lset, lclr, lcut, lini, lx, Value.category, ixOf, b2i_0, b2i_1, tp_k, tp_g, tp_s, tp_f, tp_n, hT]
  refine lp_ind (fun z ls h => ls = [.ref 35, .int x, .int y, .int 0] ∧ h = tp scr s) ?_ (m := 0) ⟨rfl, rfl⟩
  rintro z ls h' ⟨rfl, rfl⟩ X hX
  simp [eV, eI, eL, eR, e1, e2, eDI, eDL, eFI, eFL, eFR, eAI, eAZ, eAR, eLen, aN, aC, xV, xS, eX, eIf, eC_b, cA, cO, cN, sSk, sSq, sI, sL, sR, sInc, sF, sFO, sAI, sAZ, sAO, sX, sXp, sIf, sCut, sSqs, sSw, sRt, sRz_g, is01_b, is01_0, is01_1, sRv, sBk, sCt, sCp, lset, lclr, lcut, lini, lx, Value.category, ixOf, b2i_0, b2i_1, tp_k, tp_g, tp_s, tp_f, tp_n, hT, T_Code c6, hm]
  exact h
theorem k_Pack_rootAt (scr : List Int32) {s : MS} (hm : s.1 6 6 = 0) (h3 : s.1 35 3 = 2) {x y : Int32} (Q : Option Value → HV → Prop) (h : Q (some (.int (-9))) (tp scr s)) : X_Pack_rootAt [.ref 35, .int x, .int y] (tp scr s) Q := by
  have hT := T_Pack (b := 35) (Or.inl rfl)
  simp only [Nat.reduceAdd] at hT
  simp [X_Pack_rootAt, B_Pack_rootAt, eV, eI, eL, eR, e1, e2, eDI, eDL, eFI, eFL, eFR, eAI, eAZ, eAR, eLen, aN, aC, xV, xS, eX, eIf, eC_b, cA, cO, cN, sSk, sSq, sI, sL, sR, sInc, sF, sFO, sAI, sAZ, sAO, sX, sXp, sIf, sCut, sSqs, sSw, sRt, sRz_g, is01_b, is01_0, is01_1, sRv, sBk, sCt, sCp, lset, lclr, lcut, lini, lx, Value.category, ixOf, b2i_0, b2i_1, tp_k, tp_g, tp_s, tp_f, tp_n, hT]
  refine lp_ind (fun z ls h => ls = [.ref 35, .int x, .int y, .int 0, .int 0, .null] ∧ h = tp scr s) ?_ (m := 0) ⟨rfl, rfl⟩
  rintro z ls h' ⟨rfl, rfl⟩ X hX
  simp [eV, eI, eL, eR, e1, e2, eDI, eDL, eFI, eFL, eFR, eAI, eAZ, eAR, eLen, aN, aC, xV, xS, eX, eIf, eC_b, cA, cO, cN, sSk, sSq, sI, sL, sR, sInc, sF, sFO, sAI, sAZ, sAO, sX, sXp, sIf, sCut, sSqs, sSw, sRt, sRz_g, is01_b, is01_0, is01_1, sRv, sBk, sCt, sCp, lset, lclr, lcut, lini, lx, Value.category, ixOf, b2i_0, b2i_1, tp_k, tp_g, tp_s, tp_f, tp_n, hT, h3]
  refine k_Pack_leastStore scr hm _ ?_
  simp [eV, eI, eL, eR, e1, e2, eDI, eDL, eFI, eFL, eFR, eAI, eAZ, eAR, eLen, aN, aC, xV, xS, eX, eIf, eC_b, cA, cO, cN, sSk, sSq, sI, sL, sR, sInc, sF, sFO, sAI, sAZ, sAO, sX, sXp, sIf, sCut, sSqs, sSw, sRt, sRz_g, is01_b, is01_0, is01_1, sRv, sBk, sCt, sCp, lset, lclr, lcut, lini, lx, Value.category, ixOf, b2i_0, b2i_1]
  exact h
theorem k_Pack_putInOrder (scr : List Int32) {s : MS} (hm : s.1 6 6 = 0) (h4 : s.1 41 4 = 0) (Q : Option Value → HV → Prop) (h : Q (some (.int 1)) (tp scr (up s 35 9 0))) : X_Pack_putInOrder [.ref 35] (tp scr s) Q := by
  have hT := T_Pack (b := 35) (Or.inl rfl)
  have hU := U_Pack (b := 35) (Or.inl rfl)
  simp only [Nat.reduceAdd] at hT hU
  simp [X_Pack_putInOrder, B_Pack_putInOrder, eV, eI, eL, eR, e1, e2, eDI, eDL, eFI, eFL, eFR, eAI, eAZ, eAR, eLen, aN, aC, xV, xS, eX, eIf, eC_b, cA, cO, cN, sSk, sSq, sI, sL, sR, sInc, sF, sFO, sAI, sAZ, sAO, sX, sXp, sIf, sCut, sSqs, sSw, sRt, sRz_g, is01_b, is01_0, is01_1, sRv, sBk, sCt, sCp, lset, lclr, lcut, lini, lx, Value.category, ixOf, b2i_0, b2i_1, tp_k, tp_g, tp_s, tp_f, tp_n, hT, hU, T_Code c6, hm, h4]
  refine lp_ind (fun z ls h => ls = [.ref 35, .int 0, .int 0, .int 0, .int 0, .null] ∧ h = tp scr (up s 35 9 0)) ?_ (m := 0) ⟨rfl, rfl⟩
  rintro z ls h' ⟨rfl, rfl⟩ X hX
  simp [eV, eI, eL, eR, e1, e2, eDI, eDL, eFI, eFL, eFR, eAI, eAZ, eAR, eLen, aN, aC, xV, xS, eX, eIf, eC_b, cA, cO, cN, sSk, sSq, sI, sL, sR, sInc, sF, sFO, sAI, sAZ, sAO, sX, sXp, sIf, sCut, sSqs, sSw, sRt, sRz_g, is01_b, is01_0, is01_1, sRv, sBk, sCt, sCp, lset, lclr, lcut, lini, lx, Value.category, ixOf, b2i_0, b2i_1]
  exact h
theorem k_Pack_keepNothing (scr : List Int32) {s : MS} (hm : s.1 6 6 = 0) (h18 : s.1 20 18 = 2) (Q : Option Value → HV → Prop)
    (h : ∀ s', Fr (FK 35) s s' → s'.1 41 4 = 0 → mPk e0P 35 2 ([], 0, 0) s' → Q none (tp scr s')) : X_Pack_keepNothing [.ref 35, .ref 20, .int 0] (tp scr s) Q := by
  have hT := T_Pack (b := 35) (Or.inl rfl)
  have hU := U_Pack (b := 35) (Or.inl rfl)
  have hG := G_Pack (b := 35) (Or.inl rfl)
  simp only [Nat.reduceAdd] at hT hU hG
  simp [X_Pack_keepNothing, B_Pack_keepNothing, eV, eI, eL, eR, e1, e2, eDI, eDL, eFI, eFL, eFR, eAI, eAZ, eAR, eLen, aN, aC, xV, xS, eX, eIf, eC_b, cA, cO, cN, sSk, sSq, sI, sL, sR, sInc, sF, sFO, sAI, sAZ, sAO, sX, sXp, sIf, sCut, sSqs, sSw, sRt, sRz_g, is01_b, is01_0, is01_1, sRv, sBk, sCt, sCp, lset, lclr, lcut, lini, lx, Value.category, ixOf, b2i_0, b2i_1, tp_k, tp_g, tp_s, tp_f, tp_n, hT, hU, G_row, show (16 : Int32).toNatClampNeg = 16 from rfl, show (17 : Int32).toNatClampNeg = 17 from rfl]
  refine k_Links_find scr hm _ ⟨rfl, ?_⟩
  simp [tp_k, tp_g, tp_s, tp_f, tp_n, hT, hU, G_row, show (18 : Int32).toNatClampNeg = 18 from rfl, up_get, h18]
  refine lp_ind (fun z ls h => ∃ k s', z = 16 - k ∧ k ≤ 16 ∧ ls = [.ref 35, .ref 20, .int 0, .int (nI k)] ∧ h = tp scr s' ∧ Fr (FK 35) s s' ∧ s'.1 41 4 = 0 ∧ s'.1 35 3 = 2 ∧ s'.1 35 10 = 0 ∧ s'.1 35 11 = 0 ∧ s'.1 35 12 = 0 ∧ s'.1 35 13 = 0 ∧ ∀ i, i < k → mk (s'.1 36 i) (nd [] i) ∧ s'.1 37 i = -9 ∧ s'.1 38 i = -9) ?_ ⟨0, _, rfl, by omega, rfl, rfl, (((((Fr.rf.up _ (by omega)).up _ (by omega)).up _ (by omega)).up _ (by omega)).up _ (by omega)).up _ (by omega), by simp [up_get], by simp [up_get], by simp [up_get], by simp [up_get], by simp [up_get], by simp [up_get], fun i hi => by omega⟩
  rintro z ls h' ⟨k, s2, hz, hk, rfl, rfl, q1, q0, q2, q3, q4, q5, q6, q7⟩ X hX
  refine cX (t := decide (k < 16)) (h' := tp scr s2) ?h1 ?h2
  case h1 =>
    intro K
    simp [eV, eI, eL, eR, e1, e2, eDI, eDL, eFI, eFL, eFR, eAI, eAZ, eAR, eLen, aN, aC, xV, xS, eX, eIf, eC_b, cA, cO, cN, sSk, sSq, sI, sL, sR, sInc, sF, sFO, sAI, sAZ, sAO, sX, sXp, sIf, sCut, sSqs, sSw, sRt, sRz_g, is01_b, is01_0, is01_1, sRv, sBk, sCt, sCp, lset, lclr, lcut, lini, lx, Value.category, ixOf, b2i_0, b2i_1]
    simp (disch := omega) only [LIT, L_0le, L_0lt, L_0eq, L_eq0, L_le0, L_lt0, L_1eq, L_eq1, L_1le, L_1lt, L_lt1, L_le1, L_p1, nI_ltI, nI_leI, nI_eq, nI_add, nI_clamp]
  case h2 =>
    by_cases hlt : k < 16
    · simp only [hlt, decide_true, if_true]
      simp [eV, eI, eL, eR, e1, e2, eDI, eDL, eFI, eFL, eFR, eAI, eAZ, eAR, eLen, aN, aC, xV, xS, eX, eIf, eC_b, cA, cO, cN, sSk, sSq, sI, sL, sR, sInc, sF, sFO, sAI, sAZ, sAO, sX, sXp, sIf, sCut, sSqs, sSw, sRt, sRz_g, is01_b, is01_0, is01_1, sRv, sBk, sCt, sCp, lset, lclr, lcut, lini, lx, Value.category, ixOf, b2i_0, b2i_1, tp_k, tp_g, tp_s, tp_f, tp_n, hT, hG, ix80 hlt (by decide), L_p1]
      refine hX _ _ _ (by rw [hz]; omega) ⟨k + 1, _, rfl, hlt, rfl, rfl, ((q1.up _ (by omega)).up _ (by omega)).up _ (by omega), by simp [up_get, q0], by simp [up_get, q2], by simp [up_get, q3], by simp [up_get, q4], by simp [up_get, q5], by simp [up_get, q6], fun i hi => ?_⟩
      by_cases c : i = k
      · subst c
        simp [up_get]
        intro j hj
        rw [b_bit (by omega) hj]
        simp [nd, eq_comm]
      · simp [up_get, c]; exact q7 i (by omega)
    · have : k = 16 := by omega
      subst this
      simp only [hlt, decide_false, Bool.false_eq_true, if_false]
      refine h s2 q1 q0 ⟨q2, q3, q4, q5, q6, fun i hi => (q7 i hi).1, ⟨fun i hi => absurd hi (Nat.not_lt_zero i), fun p hp => by simp at hp⟩, ⟨fun i hi => absurd hi (Nat.not_lt_zero i), fun p hp => by simp at hp⟩⟩
theorem k_Pack_choosePacks (scr : List Int32) {s : MS} (hm : s.1 6 6 = 0) (h18 : s.1 20 18 = 2) (Q : Option Value → HV → Prop)
    (h : ∀ s', Fr (fun r _ => 35 ≤ r ∧ r ≤ 47) s s' → mPk e0P 35 2 ([], 0, 0) s' → mOr 35 [] s' → Q none (tp scr s')) : X_Pack_choosePacks [.ref 35, .ref 20, .int 0] (tp scr s) Q := by
  have hT := T_Pack (b := 35) (Or.inl rfl)
  simp only [Nat.reduceAdd] at hT
  simp [X_Pack_choosePacks, B_Pack_choosePacks, eV, eI, eL, eR, e1, e2, eDI, eDL, eFI, eFL, eFR, eAI, eAZ, eAR, eLen, aN, aC, xV, xS, eX, eIf, eC_b, cA, cO, cN, sSk, sSq, sI, sL, sR, sInc, sF, sFO, sAI, sAZ, sAO, sX, sXp, sIf, sCut, sSqs, sSw, sRt, sRz_g, is01_b, is01_0, is01_1, sRv, sBk, sCt, sCp, lset, lclr, lcut, lini, lx, Value.category, ixOf, b2i_0, b2i_1, tp_k, tp_g, tp_s, tp_f, tp_n, hT]
  refine k_Pack_keepNothing scr hm h18 _ fun s1 f1 f2 f3 => ⟨rfl, ?_⟩
  have m1 : s1.1 6 6 = 0 := by rw [f1.2 _ _ (by omega)]; exact hm
  have w1 : s1.1 35 3 = 2 := f3.1
  refine lp_ind (fun z ls h => ∃ row, z = 2 - row ∧ row ≤ 2 ∧ ls = [.ref 35, .ref 20, .int 0, .int (nI row), .null, .null] ∧ h = tp scr s1) ?_ ⟨0, rfl, by omega, rfl, rfl⟩
  rintro z ls h' ⟨row, hz, hrow, rfl, rfl⟩ X hX
  refine cX (t := decide (row < 2)) (h' := tp scr s1) ?h1 ?h2
  case h1 =>
    intro K
    simp [eV, eI, eL, eR, e1, e2, eDI, eDL, eFI, eFL, eFR, eAI, eAZ, eAR, eLen, aN, aC, xV, xS, eX, eIf, eC_b, cA, cO, cN, sSk, sSq, sI, sL, sR, sInc, sF, sFO, sAI, sAZ, sAO, sX, sXp, sIf, sCut, sSqs, sSw, sRt, sRz_g, is01_b, is01_0, is01_1, sRv, sBk, sCt, sCp, lset, lclr, lcut, lini, lx, Value.category, ixOf, b2i_0, b2i_1]
    simp (disch := omega) only [LIT, L_0le, L_0lt, L_0eq, L_eq0, L_le0, L_lt0, L_1eq, L_eq1, L_1le, L_1lt, L_lt1, L_le1, L_p1, nI_ltI, nI_leI, nI_eq, nI_add, nI_clamp]
  case h2 =>
    by_cases hlt : row < 2
    · simp only [hlt, decide_true, if_true]
      simp [eV, eI, eL, eR, e1, e2, eDI, eDL, eFI, eFL, eFR, eAI, eAZ, eAR, eLen, aN, aC, xV, xS, eX, eIf, eC_b, cA, cO, cN, sSk, sSq, sI, sL, sR, sInc, sF, sFO, sAI, sAZ, sAO, sX, sXp, sIf, sCut, sSqs, sSw, sRt, sRz_g, is01_b, is01_0, is01_1, sRv, sBk, sCt, sCp, lset, lclr, lcut, lini, lx, Value.category, ixOf, b2i_0, b2i_1]
      refine lp_ind (fun z ls h => ∃ cell, z = 7 - cell ∧ cell ≤ 7 ∧ ls = [.ref 35, .ref 20, .int 0, .int (nI row), .int (nI cell), .null] ∧ h = tp scr s1) ?_ ⟨0, rfl, by omega, rfl, rfl⟩
      rintro z2 ls h' ⟨cell, hz2, hcell, rfl, rfl⟩ X2 hX2
      refine cX (t := decide (cell < 7)) (h' := tp scr s1) ?h3 ?h4
      case h3 =>
        intro K
        have e9 : (nI cell ≤ 6) = (cell < 7) := by
          rw [show (6 : Int32) = nI 6 from rfl, nI_leI (by omega) (by omega)]
          apply propext; omega
        simp [eV, eI, eL, eR, e1, e2, eDI, eDL, eFI, eFL, eFR, eAI, eAZ, eAR, eLen, aN, aC, xV, xS, eX, eIf, eC_b, cA, cO, cN, sSk, sSq, sI, sL, sR, sInc, sF, sFO, sAI, sAZ, sAO, sX, sXp, sIf, sCut, sSqs, sSw, sRt, sRz_g, is01_b, is01_0, is01_1, sRv, sBk, sCt, sCp, lset, lclr, lcut, lini, lx, Value.category, ixOf, b2i_0, b2i_1, tp_k, tp_g, tp_s, tp_f, tp_n, hT, w1, e9]
      case h4 =>
        by_cases hlt2 : cell < 7
        · simp only [hlt2, decide_true, if_true]
          simp [eV, eI, eL, eR, e1, e2, eDI, eDL, eFI, eFL, eFR, eAI, eAZ, eAR, eLen, aN, aC, xV, xS, eX, eIf, eC_b, cA, cO, cN, sSk, sSq, sI, sL, sR, sInc, sF, sFO, sAI, sAZ, sAO, sX, sXp, sIf, sCut, sSqs, sSw, sRt, sRz_g, is01_b, is01_0, is01_1, sRv, sBk, sCt, sCp, lset, lclr, lcut, lini, lx, Value.category, ixOf, b2i_0, b2i_1, tp_k, tp_g, tp_s, tp_f, tp_n, hT]
          refine k_Pack_rootAt scr m1 w1 _ ?_
          simp [L_p1, show ¬ ((0 : Int32) ≤ -9) by decide]
          exact hX2 _ _ _ (by rw [hz2]; omega) ⟨cell + 1, rfl, hlt2, rfl, rfl⟩
        · have ec : cell = 7 := by omega
          subst ec
          simp only [hlt2, decide_false, Bool.false_eq_true, if_false]
          simp [eV, eI, eL, eR, e1, e2, eDI, eDL, eFI, eFL, eFR, eAI, eAZ, eAR, eLen, aN, aC, xV, xS, eX, eIf, eC_b, cA, cO, cN, sSk, sSq, sI, sL, sR, sInc, sF, sFO, sAI, sAZ, sAO, sX, sXp, sIf, sCut, sSqs, sSw, sRt, sRz_g, is01_b, is01_0, is01_1, sRv, sBk, sCt, sCp, lset, lclr, lcut, lini, lx, Value.category, ixOf, b2i_0, b2i_1, L_p1]
          exact hX _ _ _ (by rw [hz]; omega) ⟨row + 1, rfl, hlt, rfl, rfl⟩
    · have er : row = 2 := by omega
      subst er
      simp only [hlt, decide_false, Bool.false_eq_true, if_false]
      simp [eV, eI, eL, eR, e1, e2, eDI, eDL, eFI, eFL, eFR, eAI, eAZ, eAR, eLen, aN, aC, xV, xS, eX, eIf, eC_b, cA, cO, cN, sSk, sSq, sI, sL, sR, sInc, sF, sFO, sAI, sAZ, sAO, sX, sXp, sIf, sCut, sSqs, sSw, sRt, sRz_g, is01_b, is01_0, is01_1, sRv, sBk, sCt, sCp, lset, lclr, lcut, lini, lx, Value.category, ixOf, b2i_0, b2i_1, tp_k, tp_g, tp_s, tp_f, tp_n, hT]
      refine k_Pack_putInOrder scr m1 f2 _ ⟨⟨_, rfl⟩, ?_⟩
      have gg : Fr (fun r _ => 35 ≤ r ∧ r ≤ 47) s (up s1 35 9 0) := (f1.wk fun r k z => by omega).up _ (by omega)
      refine h _ gg ?_ ⟨by simp [up_get]; rfl, fun q hq => absurd hq (Nat.not_lt_zero q)⟩
      obtain ⟨p1, p2, p3, p4, p5, p6, p7, p8⟩ := f3
      exact ⟨by simp [up_get, p1], by simp [up_get, p2], by simp [up_get, p3], by simp [up_get, p4], by simp [up_get, p5], fun i hi => by simp [up_get]; exact p6 i hi, ⟨fun i hi => absurd hi (Nat.not_lt_zero i), fun p hp => by simp at hp⟩, ⟨fun i hi => absurd hi (Nat.not_lt_zero i), fun p hp => by simp at hp⟩⟩
