theorem b2i_and (a b : Bool) : b2i a &&& b2i b = b2i (a && b) := by cases a <;> cases b <;> decide
theorem bSame_dif {w : Nat} {B : List Nat} (hB : wfB w B) (hw : 0 < w) : bSame w B = decide (dif B = 1) := by
  obtain ⟨h1, h2⟩ := hB
  cases B with
  | nil => simp at h1; omega
  | cons a t =>
    rw [Bool.eq_iff_iff, decide_eq_true_eq, dif_1 a t h2]
    unfold bSame
    rw [allB_iff]
    have e : ln (a :: t) 0 = a := rfl
    simp only [e, decide_eq_true_eq]
    constructor
    · intro q x hx
      obtain ⟨k, hk, rfl⟩ := (mem_ln (b := a :: t) ⟨h1, h2⟩).mp (List.mem_cons_of_mem _ hx)
      exact q k hk
    · intro q k hk
      rcases List.mem_cons.mp (ln_mem (b := a :: t) ⟨h1, h2⟩ hk) with r | r
      · exact r
      · exact q _ r
theorem s_Tree_hasPack {P : PC} {b : Nat} (hb : pB b) (scr : List Int32) {s : MS} (hP : okP P) {w : Nat} (hw : w = 2 ∨ w = 4) {kp : Nat → Bool} {T : TS} (hT : mTP b w kp T s) (h8 : T.1.length ≤ 8) (hA : ∀ B, B ∈ T.1 → wfP P w B) {B : List Nat} (hB : wfP P w B) (Q : Option Value → HV → Prop)
    (h : Q (some (.int (b2i (T.1.contains B)))) (hp scr s)) : X_Tree_hasPack [.ref (b + 10), .int (nI (encN B))] (hp scr s) Q := by
  have h16 := hP.1
  have bf := pbf hb
  have hWB := wfP_B hP hB
  have w4 : w ≤ 4 := by omega
  obtain ⟨t1, t2, t3, t4, t5, t6, t7, t8, t9⟩ := hT
  simp [X_Tree_hasPack, B_Tree_hasPack, eV, eI, eL, eR, e1, e2, eDI, eDL, eFI, eFL, eFR, eAI, eAZ, eAR, eLen, aN, aC, xV, xS, eX, eIf, eC_b, cA, cO, cN, sSk, sSq, sI, sL, sR, sInc, sF, sFO, sAI, sAZ, sAO, sX, sXp, sIf, sCut, sSqs, sSw, sRt, sRz_g, is01_b, is01_0, is01_1, sRv, sBk, sCt, sCp, lset, lclr, lcut, lini, lx, Value.category, ixOf, b2i_0, b2i_1]
  refine lp_ind (fun z ls h => ∃ k, z = T.1.length - k ∧ k ≤ T.1.length ∧ (∀ j, j < k → T.1.getD j [] ≠ B) ∧ ls = [.ref (b + 10), .int (nI (encN B)), .int (nI k)] ∧ h = hp scr s) ?_ ⟨0, rfl, by omega, fun j hj => by omega, rfl, rfl⟩
  rintro z ls h' ⟨k, hz, hk, hj, rfl, rfl⟩ X hX
  simp [eV, eI, eL, eR, e1, e2, eDI, eDL, eFI, eFL, eFR, eAI, eAZ, eAR, eLen, aN, aC, xV, xS, eX, eIf, eC_b, cA, cO, cN, sSk, sSq, sI, sL, sR, sInc, sF, sFO, sAI, sAZ, sAO, sX, sXp, sIf, sCut, sSqs, sSw, sRt, sRz_g, is01_b, is01_0, is01_1, sRv, sBk, sCt, sCp, lset, lclr, lcut, lini, lx, Value.category, ixOf, b2i_0, b2i_1, T_Pack hb, bf, t3]
  simp (disch := omega) only [LIT, L_0le, L_0lt, L_0eq, L_eq0, L_le0, L_lt0, L_1eq, L_eq1, L_1le, L_1lt, L_lt1, L_le1, L_p1, nI_ltI, nI_leI, nI_eq, nI_add, nI_clamp]
  split
  · next hlt =>
    have hC := hA _ (getD_mem hlt)
    have l1 := enc_lt w4 hWB
    have l2 := enc_lt w4 (wfP_B hP hC)
    rw [List.getD_eq_getElem?_getD] at l2
    simp [G_Pack hb, bf, ix80 (show k < 8 by omega) (by decide), t8 k hlt, L_p1]
    simp (disch := omega) only [LIT, L_0le, L_0lt, L_0eq, L_eq0, L_le0, L_lt0, L_1eq, L_eq1, L_1le, L_1lt, L_lt1, L_le1, L_p1, nI_ltI, nI_leI, nI_eq, nI_add, nI_clamp]
    split
    · next q =>
      rw [← List.getD_eq_getElem?_getD] at q
      have e : T.1.getD k [] = B := encN_inj _ _ (hC.1.trans hB.1.symm) (wfP_B hP hC).2 hWB.2 q
      have : T.1.contains B = true := by
        rw [List.contains_iff_mem]
        rw [← e]
        exact getD_mem hlt
      rw [this] at h
      exact h
    · next q =>
      refine hX _ _ _ (by omega) ⟨k + 1, rfl, hlt, fun j h2 => ?_, rfl, rfl⟩
      rcases Nat.lt_succ_iff_lt_or_eq.mp h2 with r | r
      · exact hj j r
      · rw [r]
        intro e
        rw [← List.getD_eq_getElem?_getD] at q
        exact q (by rw [e])
  · have : k = T.1.length := by omega
    subst this
    have : T.1.contains B = false := by
      rw [Bool.eq_false_iff]
      intro q
      rw [List.contains_iff_mem] at q
      obtain ⟨j, h1, h2⟩ := List.getElem_of_mem q
      refine hj j h1 ?_
      rw [List.getD_eq_getElem?_getD, List.getElem?_eq_getElem h1]
      exact h2
    rw [this] at h
    exact h
theorem s_Tree_takeOneByOne {P : PC} {b : Nat} (hb : pB b) (scr : List Int32) {s : MS} (hP : okP P) (hm : mC P 6 s) {w : Nat} (hw : w = 2 ∨ w = 4) {kp : Nat → Bool} {T : TS} (hT : mTP b w kp T s) {B : List Nat} (hB : wfP P w B) (Q : Option Value → HV → Prop)
    (h : ∀ s', Fr (FT b) s s' → mTP b w kp (T.1, T.2.1, T.2.2.1 ++ B, T.2.2.2 + bCost P w B) s' → Q none (hp scr s')) : X_Tree_takeOneByOne [.ref (b + 10), .int (nI (encN B))] (hp scr s) Q := by
  have h16 := hP.1
  have bf := pbf hb
  have hWB := wfP_B hP hB
  have w4 : w ≤ 4 := by omega
  have sl := setN_lt (b := B) fun x hx => hWB.2 x hx
  obtain ⟨t1, t2, t3, t4, t5, t6, t7, t8, t9⟩ := hT
  have fin : ∀ Q', Q' = Q → ∀ c, c = nI (bCost P w B) → Q' none (hp scr (up (up s (b + 10) 9 (mS (T.2.2.1 ++ B))) (b + 10) 10 (nI T.2.2.2 + c))) := by
    rintro Q' rfl c rfl
    refine h _ ((Fr.rf.up _ (Or.inl rfl)).up _ (Or.inl rfl)) ⟨?_, fun k hk => ?_, ?_, ?_, ?_, ?_, ?_, fun p hp => ?_, fun q hq => ?_⟩
    · simp [up_get, t1]
    · simpa [up_get] using t2 k hk
    · simp [up_get, t3]
    · simp [up_get, t4]
    · simp [up_get, t5]
    · simp [up_get]
    · simp [up_get, nI_add]
    · simpa [up_get] using t8 p hp
    · simpa [up_get] using t9 q hq
  simp [X_Tree_takeOneByOne, B_Tree_takeOneByOne, lini, lx, Value.category]
  refine sSq_I1 (v := mS B) (h' := hp scr s) ?h4 (by simp [lset]) ?h5
  case h4 =>
    intro K hK
    simp [eV, eI, eL, eR, e1, e2, eDI, eDL, eFI, eFL, eFR, eAI, eAZ, eAR, eLen, aN, aC, xV, xS, eX, eIf, eC_b, cA, cO, cN, sSk, sSq, sI, sL, sR, sInc, sF, sFO, sAI, sAZ, sAO, sX, sXp, sIf, sCut, sSqs, sSw, sRt, sRz_g, is01_b, is01_0, is01_1, sRv, sBk, sCt, sCp, lset, lclr, lcut, lini, lx, Value.category, ixOf, b2i_0, b2i_1, T_Pack hb, bf, t1]
    exact s_setOf scr s w4 hWB _ (by simpa using hK)
  case h5 =>
    have e : cnt (fun i => (setN B).testBit i) 16 = dif B := cnt_cong fun k _ => setN_bit B k
    have c16 : dif B ≤ 16 := cnt_le _ 16
    have bc : ∀ (s' : MS) (Q : Option Value → HV → Prop), X_Int_bitCount [.int (mS B)] (hp scr s') Q ↔ Q (some (.int (nI (dif B)))) (hp scr s') := fun s' Q => by rw [← e]; exact s_bitCount scr s' sl Q
    have hd := bSame_dif hWB (show 0 < w by omega)
    simp [eV, eI, eL, eR, e1, e2, eDI, eDL, eFI, eFL, eFR, eAI, eAZ, eAR, eLen, aN, aC, xV, xS, eX, eIf, eC_b, cA, cO, cN, sSk, sSq, sI, sL, sR, sInc, sF, sFO, sAI, sAZ, sAO, sX, sXp, sIf, sCut, sSqs, sSw, sRt, sRz_g, is01_b, is01_0, is01_1, sRv, sBk, sCt, sCp, lset, lclr, lcut, lini, lx, Value.category, ixOf, b2i_0, b2i_1, T_Pack hb, U_Pack hb, bf, t6, mS_or, lset, bc, t1, t7, up_get]
    refine lp_ind (fun z ls h => ∃ k, z = w - k ∧ k ≤ w ∧ ls = [.ref (b + 10), .int (nI (encN B)), .int (mS B), .int (b2i (allB (fun k => decide (pK P (ln B k) = 1)) k)), .int (nI k)] ∧ h = hp scr s) ?_ ⟨0, rfl, by omega, rfl, rfl⟩
    rintro z ls h' ⟨k, hz, hk, rfl, rfl⟩ X hX
    simp [eV, eI, eL, eR, e1, e2, eDI, eDL, eFI, eFL, eFR, eAI, eAZ, eAR, eLen, aN, aC, xV, xS, eX, eIf, eC_b, cA, cO, cN, sSk, sSq, sI, sL, sR, sInc, sF, sFO, sAI, sAZ, sAO, sX, sXp, sIf, sCut, sSqs, sSw, sRt, sRz_g, is01_b, is01_0, is01_1, sRv, sBk, sCt, sCp, lset, lclr, lcut, lini, lx, Value.category, ixOf, b2i_0, b2i_1, T_Pack hb, U_Pack hb, bf, t1, t6, t7, mS_or, bc, up_get]
    simp (disch := omega) only [LIT, L_0le, L_0lt, L_0eq, L_eq0, L_le0, L_lt0, L_1eq, L_eq1, L_1le, L_1lt, L_lt1, L_le1, L_p1, nI_ltI, nI_leI, nI_eq, nI_add, nI_clamp]
    split
    · next hlt =>
      have Lk := wfP_ln hB hlt
      have := (hP.2 _ Lk).1
      simp [s_inLane scr _ w4 hWB (show k < 4 by omega), T_Code c6, G6, bf, ixf hP.1 Lk, up_get, mC6 hm Lk]
      simp (disch := omega) only [LIT, L_0le, L_0lt, L_0eq, L_eq0, L_le0, L_lt0, L_1eq, L_eq1, L_1le, L_1lt, L_lt1, L_le1, L_p1, nI_ltI, nI_leI, nI_eq, nI_add, nI_clamp]
      have ea : allB (fun k => decide (pK P (ln B k) = 1)) (k + 1) = (allB (fun k => decide (pK P (ln B k) = 1)) k && decide (pK P (ln B k) = 1)) := rfl
      split
      · next q =>
        refine hX _ _ _ (by omega) ⟨k + 1, rfl, hlt, ?_, rfl⟩
        rw [ea, decide_eq_true q, Bool.and_true]
      · next q =>
        refine hX _ _ _ (by omega) ⟨k + 1, rfl, hlt, ?_, rfl⟩
        rw [ea, decide_eq_false q, Bool.and_false]
        rfl
    · next hge =>
      have : k = w := by omega
      subst this
      have e2' : bCon P k B = allB (fun j => decide (pK P (ln B j) = 1)) k := rfl
      have e3' : bCost P k B = if (decide (dif B = 1) || allB (fun j => decide (pK P (ln B j) = 1)) k) = true then 1 else k := by
        rw [bCost, hd, e2']
      have f1 := fin _ rfl _ rfl
      rw [e3'] at f1
      cases hc : allB (fun j => decide (pK P (ln B j) = 1)) k <;> by_cases hq : dif B = 1 <;> simp [hc, hq, b2i_0, b2i_1, nI_add, L_p1] at f1 ⊢ <;> exact f1
