theorem s_Tree_turnedLanes {P : PC} {b : Nat} (hb : pB b) (scr : List Int32) {s : MS} (hP : okP P) (hm : mC P 6 s) {w : Nat} (hw : w = 2 ∨ w = 4) (hwd : s.1 (b + 10) 7 = nI w) {B : List Nat} (hB : wfP P w B) (hk : ∀ k, k < w → 2 ≤ pK P (ln B k) ∧ pK P (ln B k) ≤ 5) (Q : Option Value → HV → Prop)
    (h : ∀ x, (∀ k, k < w → bt x k = pTurn P B k) → Q (some (.int x)) (hp scr s)) : X_Tree_turnedLanes [.ref (b + 10), .int (nI (encN B))] (hp scr s) Q := by
  have h16 := hP.1
  have bf := pbf hb
  have hWB := wfP_B hP hB
  have w4 : w ≤ 4 := by omega
  have w0 : 0 < w := by omega
  have L0 := wfP_ln hB w0
  have fact : ∀ k, k < w → s.1 11 (ln B k) = nI (pa P (ln B k)) ∧ s.1 12 (ln B k) = nI (pb P (ln B k)) ∧ s.1 7 (ln B k) = nI (pK P (ln B k)) ∧ s.1 7 (pa P (ln B k)) = nI (pK P (pa P (ln B k))) ∧ s.1 7 (pb P (ln B k)) = nI (pK P (pb P (ln B k))) ∧ pK P (pa P (ln B k)) < 2 ^ 31 ∧ pK P (pb P (ln B k)) < 2 ^ 31 := by
    intro k q
    have L := wfP_ln hB q
    have g := mC6 hm L
    have q2 := hk k q
    obtain ⟨o1, o2, -⟩ := opLR hP L q2
    have := (hP.2 _ o1).1
    have := (hP.2 _ o2).1
    exact ⟨by rw [g.2.2.2.2.1, if_neg (by omega), if_pos (by omega)], by rw [g.2.2.2.2.2, if_pos q2], g.1, (mC6 hm o1).1, (mC6 hm o2).1, by omega, by omega⟩
  have op : ∀ k, k < w → pa P (ln B k) < P.1 ∧ pb P (ln B k) < P.1 := fun k q => ⟨(opLR hP (wfP_ln hB q) (hk k q)).1, (opLR hP (wfP_ln hB q) (hk k q)).2.1⟩
  have g0 := fact 0 w0
  have op0 := op 0 w0
  have k0 := hk 0 w0
  simp [X_Tree_turnedLanes, B_Tree_turnedLanes, lini, lx, Value.category]
  rw [sSq_I (v := nI (ln B 0)) (h' := hp scr s) ?h1 (by simp)]
  case h1 =>
    intro K
    simp [eV, eI, eL, eR, e1, e2, eDI, eDL, eFI, eFL, eFR, eAI, eAZ, eAR, eLen, aN, aC, xV, xS, eX, eIf, eC_b, cA, cO, cN, sSk, sSq, sI, sL, sR, sInc, sF, sFO, sAI, sAZ, sAO, sX, sXp, sIf, sCut, sSqs, sSw, sRt, sRz_g, is01_b, is01_0, is01_1, sRv, sBk, sCt, sCp, lset, lclr, lcut, lini, lx, Value.category, ixOf, b2i_0, b2i_1, show (0 : Int32) = nI 0 from rfl, s_inLane scr s w4 hWB (show 0 < 4 by omega)]
  rw [sSq_if (t := !(decide (pK P (ln B 0) = 2) || decide (pK P (ln B 0) = 4))) ?h3]
  case h3 =>
    intro K
    simp [eV, eI, eL, eR, e1, e2, eDI, eDL, eFI, eFL, eFR, eAI, eAZ, eAR, eLen, aN, aC, xV, xS, eX, eIf, eC_b, cA, cO, cN, sSk, sSq, sI, sL, sR, sInc, sF, sFO, sAI, sAZ, sAO, sX, sXp, sIf, sCut, sSqs, sSw, sRt, sRz_g, is01_b, is01_0, is01_1, sRv, sBk, sCt, sCp, lset, lclr, lcut, lini, lx, Value.category, ixOf, b2i_0, b2i_1, T_Pack hb, T_Code c6, G6, bf, ixf hP.1 L0, g0]
    simp (disch := omega) only [LIT, L_0le, L_0lt, L_0eq, L_eq0, L_le0, L_lt0, L_1eq, L_eq1, L_1le, L_1lt, L_lt1, L_le1, L_p1, nI_ltI, nI_leI, nI_eq, nI_add, nI_clamp]
    by_cases c1 : pK P (ln B 0) = 2 <;> by_cases c2 : pK P (ln B 0) = 4 <;> simp_all
  cases hH : (decide (pK P (ln B 0) = 2) || decide (pK P (ln B 0) = 4)) with
  | false =>
    simp [eV, eI, eL, eR, e1, e2, eDI, eDL, eFI, eFL, eFR, eAI, eAZ, eAR, eLen, aN, aC, xV, xS, eX, eIf, eC_b, cA, cO, cN, sSk, sSq, sI, sL, sR, sInc, sF, sFO, sAI, sAZ, sAO, sX, sXp, sIf, sCut, sSqs, sSw, sRt, sRz_g, is01_b, is01_0, is01_1, sRv, sBk, sCt, sCp, lset, lclr, lcut, lini, lx, Value.category, ixOf, b2i_0, b2i_1]
    refine h 0 fun k hk => ?_
    rw [b_0, pTurn, hH]
    simp
  | true =>
    simp only [Bool.not_true, Bool.false_eq_true, if_false, sSk_eq]
    rw [sSq_I (v := nI (pK P (pa P (ln B 0)))) (h' := hp scr s) ?h4 (by simp [lset])]
    case h4 =>
      intro K
      simp [eV, eI, eL, eR, e1, e2, eDI, eDL, eFI, eFL, eFR, eAI, eAZ, eAR, eLen, aN, aC, xV, xS, eX, eIf, eC_b, cA, cO, cN, sSk, sSq, sI, sL, sR, sInc, sF, sFO, sAI, sAZ, sAO, sX, sXp, sIf, sCut, sSqs, sSw, sRt, sRz_g, is01_b, is01_0, is01_1, sRv, sBk, sCt, sCp, lset, lclr, lcut, lini, lx, Value.category, ixOf, b2i_0, b2i_1, T_Pack hb, T_Code c6, G6, bf, ixf hP.1 L0, g0, ixf hP.1 op0.1]
    simp [eV, eI, eL, eR, e1, e2, eDI, eDL, eFI, eFL, eFR, eAI, eAZ, eAR, eLen, aN, aC, xV, xS, eX, eIf, eC_b, cA, cO, cN, sSk, sSq, sI, sL, sR, sInc, sF, sFO, sAI, sAZ, sAO, sX, sXp, sIf, sCut, sSqs, sSw, sRt, sRz_g, is01_b, is01_0, is01_1, sRv, sBk, sCt, sCp, lset, lclr, lcut, lini, lx, Value.category, ixOf, b2i_0, b2i_1, lset]
    refine lp_ind (fun z ls h => ∃ k x, z = w - k ∧ 1 ≤ k ∧ k ≤ w ∧ (∀ j, j < 32 → bt x j = (decide (j < k) && pTurn P B j)) ∧ ls = [.ref (b + 10), .int (nI (encN B)), .int (nI (ln B 0)), .int (nI (pK P (pa P (ln B 0)))), .int x, .int (nI k), .null] ∧ h = hp scr s) ?_ ⟨1, 0, rfl, by omega, by omega, ?_, rfl, rfl⟩
    · rintro z ls h' ⟨k, x, hz, hk1, hk, hx, rfl, rfl⟩ X hX
      refine cX (t := decide (k < w)) (h' := hp scr s) ?h7 ?h8
      case h7 =>
        intro K
        simp [eV, eI, eL, eR, e1, e2, eDI, eDL, eFI, eFL, eFR, eAI, eAZ, eAR, eLen, aN, aC, xV, xS, eX, eIf, eC_b, cA, cO, cN, sSk, sSq, sI, sL, sR, sInc, sF, sFO, sAI, sAZ, sAO, sX, sXp, sIf, sCut, sSqs, sSw, sRt, sRz_g, is01_b, is01_0, is01_1, sRv, sBk, sCt, sCp, lset, lclr, lcut, lini, lx, Value.category, ixOf, b2i_0, b2i_1, T_Pack hb, bf, hwd]
        simp (disch := omega) only [LIT, L_0le, L_0lt, L_0eq, L_eq0, L_le0, L_lt0, L_1eq, L_eq1, L_1le, L_1lt, L_lt1, L_le1, L_p1, nI_ltI, nI_leI, nI_eq, nI_add, nI_clamp]
      case h8 =>
        by_cases hlt : k < w
        · have Lk := wfP_ln hB hlt
          have gk := fact k hlt
          have opk := op k hlt
          simp only [hlt, decide_true, if_true, sCut]
          rw [sSq_I (v := nI (ln B k)) (h' := hp scr s) ?h9 (by simp)]
          case h9 =>
            intro K
            simp [eV, eI, eL, eR, e1, e2, eDI, eDL, eFI, eFL, eFR, eAI, eAZ, eAR, eLen, aN, aC, xV, xS, eX, eIf, eC_b, cA, cO, cN, sSk, sSq, sI, sL, sR, sInc, sF, sFO, sAI, sAZ, sAO, sX, sXp, sIf, sCut, sSqs, sSw, sRt, sRz_g, is01_b, is01_0, is01_1, sRv, sBk, sCt, sCp, lset, lclr, lcut, lini, lx, Value.category, ixOf, b2i_0, b2i_1, s_inLane scr s w4 hWB (show k < 4 by omega)]
          rw [sIf_if (t := pTurn P B k) ?h10]
          case h10 =>
            intro K
            unfold pTurn
            rw [hH, show decide (0 < k) = true from decide_eq_true hk1]
            simp [eV, eI, eL, eR, e1, e2, eDI, eDL, eFI, eFL, eFR, eAI, eAZ, eAR, eLen, aN, aC, xV, xS, eX, eIf, eC_b, cA, cO, cN, sSk, sSq, sI, sL, sR, sInc, sF, sFO, sAI, sAZ, sAO, sX, sXp, sIf, sCut, sSqs, sSw, sRt, sRz_g, is01_b, is01_0, is01_1, sRv, sBk, sCt, sCp, lset, lclr, lcut, lini, lx, Value.category, ixOf, b2i_0, b2i_1, T_Pack hb, T_Code c6, G6, bf, ixf hP.1 Lk, gk, ixf hP.1 opk.1, ixf hP.1 opk.2]
            simp (disch := omega) only [LIT, L_0le, L_0lt, L_0eq, L_eq0, L_le0, L_lt0, L_1eq, L_eq1, L_1le, L_1lt, L_lt1, L_le1, L_p1, nI_ltI, nI_leI, nI_eq, nI_add, nI_clamp]
            by_cases c1 : pK P (pa P (ln B k)) = pK P (pa P (ln B 0)) <;> simp [c1]
          have nx : ∀ j, (decide (j < k + 1) && pTurn P B j) = ((decide (j < k) && pTurn P B j) || (decide (j = k) && pTurn P B k)) := by
            intro j
            by_cases c : j = k
            · subst c; simp
            · have : (j < k + 1) = (j < k) := by apply propext; omega
              simp [this, c]
          cases ht : pTurn P B k with
          | false =>
            simp [eV, eI, eL, eR, e1, e2, eDI, eDL, eFI, eFL, eFR, eAI, eAZ, eAR, eLen, aN, aC, xV, xS, eX, eIf, eC_b, cA, cO, cN, sSk, sSq, sI, sL, sR, sInc, sF, sFO, sAI, sAZ, sAO, sX, sXp, sIf, sCut, sSqs, sSw, sRt, sRz_g, is01_b, is01_0, is01_1, sRv, sBk, sCt, sCp, lset, lclr, lcut, lini, lx, Value.category, ixOf, b2i_0, b2i_1]
            refine hX _ _ _ (Nat.sub_lt_sub_left hlt (Nat.lt_succ_self k) |> fun q => by rw [hz]; exact q) ⟨k + 1, x, rfl, by omega, hlt, fun j hj => ?_, by rw [L_p1], rfl⟩
            rw [nx, hx j hj, ht]; simp
          | true =>
            simp [eV, eI, eL, eR, e1, e2, eDI, eDL, eFI, eFL, eFR, eAI, eAZ, eAR, eLen, aN, aC, xV, xS, eX, eIf, eC_b, cA, cO, cN, sSk, sSq, sI, sL, sR, sInc, sF, sFO, sAI, sAZ, sAO, sX, sXp, sIf, sCut, sSqs, sSw, sRt, sRz_g, is01_b, is01_0, is01_1, sRv, sBk, sCt, sCp, lset, lclr, lcut, lini, lx, Value.category, ixOf, b2i_0, b2i_1]
            refine hX _ _ _ (Nat.sub_lt_sub_left hlt (Nat.lt_succ_self k) |> fun q => by rw [hz]; exact q) ⟨k + 1, _, rfl, by omega, hlt, fun j hj => ?_, by rw [L_p1], rfl⟩
            rw [nx, b_or, hx j hj, b_bit (by omega) hj, ht]; simp
        · have : k = w := by omega
          subst this
          simp [hlt, eV, eI, eL, eR, e1, e2, eDI, eDL, eFI, eFL, eFR, eAI, eAZ, eAR, eLen, aN, aC, xV, xS, eX, eIf, eC_b, cA, cO, cN, sSk, sSq, sI, sL, sR, sInc, sF, sFO, sAI, sAZ, sAO, sX, sXp, sIf, sCut, sSqs, sSw, sRt, sRz_g, is01_b, is01_0, is01_1, sRv, sBk, sCt, sCp, lset, lclr, lcut, lini, lx, Value.category, ixOf, b2i_0, b2i_1]
          refine h x fun j hj => ?_
          rw [hx j (by omega)]; simp [hj]
    · intro j hj
      rw [b_0]
      by_cases c : j = 0
      · subst c; simp [pTurn]
      · have : ¬ j < 1 := by omega
        simp [this]
theorem getD_app {L : List (List Nat)} {B : List Nat} {p : Nat} (h : p < (L ++ [B]).length) : (L ++ [B]).getD p [] = if p = L.length then B else L.getD p [] := by
  rw [List.getD_eq_getElem?_getD, List.getD_eq_getElem?_getD, List.getElem?_append]
  simp only [List.length_append, List.length_singleton] at h
  split
  · rw [if_neg (by omega)]
  · rw [if_pos (by omega), show p - L.length = 0 by omega]
    rfl
theorem s_Tree_addPack {P : PC} {b : Nat} (hb : pB b) (scr : List Int32) {s : MS} (hP : okP P) {w : Nat} (hw : w = 2 ∨ w = 4) {kp : Nat → Bool} {T : TS} (hT : mTP b w kp T s) (h8 : T.1.length < 8) {B : List Nat} (hB : wfP P w B) (Q : Option Value → HV → Prop)
    (h : ∀ s', Fr (FT b) s s' → mTP b w kp (T.1 ++ [B], T.2) s' → Q none (hp scr s')) : X_Tree_addPack [.ref (b + 10), .int (nI (encN B))] (hp scr s) Q := by
  have h16 := hP.1
  have bf := pbf hb
  have hWB := wfP_B hP hB
  have w4 : w ≤ 4 := by omega
  obtain ⟨t1, t2, t3, t4, t5, t6, t7, t8, t9⟩ := hT
  have U := U_Pack hb
  simp [X_Tree_addPack, B_Tree_addPack, eV, eI, eL, eR, e1, e2, eDI, eDL, eFI, eFL, eFR, eAI, eAZ, eAR, eLen, aN, aC, xV, xS, eX, eIf, eC_b, cA, cO, cN, sSk, sSq, sI, sL, sR, sInc, sF, sFO, sAI, sAZ, sAO, sX, sXp, sIf, sCut, sSqs, sSw, sRt, sRz_g, is01_b, is01_0, is01_1, sRv, sBk, sCt, sCp, lset, lclr, lcut, lini, lx, Value.category, ixOf, b2i_0, b2i_1, T_Pack hb, U_Pack hb, bf, t3]
  simp (disch := omega) only [LIT, L_0le, L_0lt, L_0eq, L_eq0, L_le0, L_lt0, L_1eq, L_eq1, L_1le, L_1lt, L_lt1, L_le1, L_p1, nI_ltI, nI_leI, nI_eq, nI_add, nI_clamp]
  simp [h8, G_Pack hb, bf, ix80 h8 (by decide), T_Pack hb, U_Pack hb, t1, t3, t4, up_get]
  refine s_setOf _ _ w4 hWB _ ?_
  simp [T_Pack hb, U_Pack hb, mS_or, L_p1]
  refine h _ (((Fr.rf.up _ (Or.inr (Or.inl rfl))).up _ (Or.inl rfl)).up _ (Or.inl rfl)) ⟨?_, fun k hk => ?_, ?_, ?_, ?_, ?_, ?_, fun p hp => ?_, fun q hq => ?_⟩
  · simp [up_get, t1]
  · simpa [up_get] using t2 k hk
  · simp [up_get]
  · simp [up_get]
  · simp [up_get, t5]
  · simp [up_get, t6]
  · simp [up_get, t7]
  · rw [getD_app hp]
    simp only [List.length_append, List.length_singleton] at hp
    simp [up_get]
    split
    · rfl
    · exact t8 p (by omega)
  · simpa [up_get] using t9 q hq
theorem s_Tree_append {P : PC} {b : Nat} (hb : pB b) (scr : List Int32) {s : MS} (hP : okP P) {w : Nat} {kp : Nat → Bool} {T : TS} (hT : mTP b w kp T s) (h8 : T.2.1.length < 16) {B : List Nat} (Q : Option Value → HV → Prop)
    (h : ∀ s', Fr (FT b) s s' → mTP b w kp (T.1, T.2.1 ++ [B], T.2.2) s' → Q none (hp scr s')) : X_Tree_append [.ref (b + 10), .int (nI (encN B))] (hp scr s) Q := by
  have h16 := hP.1
  have bf := pbf hb
  obtain ⟨t1, t2, t3, t4, t5, t6, t7, t8, t9⟩ := hT
  simp [X_Tree_append, B_Tree_append, eV, eI, eL, eR, e1, e2, eDI, eDL, eFI, eFL, eFR, eAI, eAZ, eAR, eLen, aN, aC, xV, xS, eX, eIf, eC_b, cA, cO, cN, sSk, sSq, sI, sL, sR, sInc, sF, sFO, sAI, sAZ, sAO, sX, sXp, sIf, sCut, sSqs, sSw, sRt, sRz_g, is01_b, is01_0, is01_1, sRv, sBk, sCt, sCp, lset, lclr, lcut, lini, lx, Value.category, ixOf, b2i_0, b2i_1, T_Pack hb, U_Pack hb, bf, t5]
  simp (disch := omega) only [LIT, L_0le, L_0lt, L_0eq, L_eq0, L_le0, L_lt0, L_1eq, L_eq1, L_1le, L_1lt, L_lt1, L_le1, L_p1, nI_ltI, nI_leI, nI_eq, nI_add, nI_clamp]
  simp [h8, G_Pack hb, bf, ix80 h8 (by decide), T_Pack hb, U_Pack hb, t5, up_get, L_p1]
  refine h _ ((Fr.rf.up _ (Or.inr (Or.inr rfl))).up _ (Or.inl rfl)) ⟨?_, fun k hk => ?_, ?_, ?_, ?_, ?_, ?_, fun p hp => ?_, fun q hq => ?_⟩
  · simp [up_get, t1]
  · simpa [up_get] using t2 k hk
  · simp [up_get, t3]
  · simp [up_get, t4]
  · simp [up_get]
  · simp [up_get, t6]
  · simp [up_get, t7]
  · simpa [up_get] using t8 p hp
  · rw [getD_app hq]
    simp only [List.length_append, List.length_singleton] at hq
    simp [up_get]
    split
    · rfl
    · exact t9 q (by omega)
