theorem s_Code_has {c : Nat} (hc : c = 6 ∨ c = 13) (scr : List Int32) (s : MS) (i : Int32) (Q : Option Value → HV → Prop) : X_Code_has [.ref c, .int i] (hp scr s) Q ↔ Q (some (.int (b2i (decide (0 ≤ i) && decide (i < s.1 c 6))))) (hp scr s) := by
  simp [X_Code_has, B_Code_has, eV, eI, eL, eR, e1, e2, eDI, eDL, eFI, eFL, eFR, eAI, eAZ, eAR, eLen, aN, aC, xV, xS, eX, eIf, eC_b, cA, cO, cN, sSk, sSq, sI, sL, sR, sInc, sF, sFO, sAI, sAZ, sAO, sX, sXp, sIf, sCut, sSqs, sSw, sRt, sRz_g, is01_b, is01_0, is01_1, sRv, sBk, sCt, sCp, lset, lclr, lcut, lini, lx, Value.category, ixOf, b2i_0, b2i_1, T_Code hc, ccf hc]
  by_cases h : 0 ≤ i <;> simp [h]
theorem s_PL_holds (scr : List Int32) (s : MS) (m k : Int32) (Q : Option Value → HV → Prop) : X_PL_holds [.int m, .int k] (hp scr s) Q ↔ Q (some (.int (b2i (decide (m >>> (k &&& 31) &&& 1 = 1))))) (hp scr s) := by
  simp [X_PL_holds, B_PL_holds, eV, eI, eL, eR, e1, e2, eDI, eDL, eFI, eFL, eFR, eAI, eAZ, eAR, eLen, aN, aC, xV, xS, eX, eIf, eC_b, cA, cO, cN, sSk, sSq, sI, sL, sR, sInc, sF, sFO, sAI, sAZ, sAO, sX, sXp, sIf, sCut, sSqs, sSw, sRt, sRz_g, is01_b, is01_0, is01_1, sRv, sBk, sCt, sCp, lset, lclr, lcut, lini, lx, Value.category, ixOf, b2i_0, b2i_1]
theorem s_R_has (scr : List Int32) (s : MS) (m k : Int32) (Q : Option Value → HV → Prop) : X_R_has [.int m, .int k] (hp scr s) Q ↔ Q (some (.int (b2i (decide (m >>> (k &&& 31) &&& 1 = 1))))) (hp scr s) := by
  simp [X_R_has, B_R_has, eV, eI, eL, eR, e1, e2, eDI, eDL, eFI, eFL, eFR, eAI, eAZ, eAR, eLen, aN, aC, xV, xS, eX, eIf, eC_b, cA, cO, cN, sSk, sSq, sI, sL, sR, sInc, sF, sFO, sAI, sAZ, sAO, sX, sXp, sIf, sCut, sSqs, sSw, sRt, sRz_g, is01_b, is01_0, is01_1, sRv, sBk, sCt, sCp, lset, lclr, lcut, lini, lx, Value.category, ixOf, b2i_0, b2i_1]
/-- with a place below 32 -/
theorem t_holds (scr : List Int32) (s : MS) (m : Int32) {k : Nat} (hk : k < 32) (Q : Option Value → HV → Prop) : X_PL_holds [.int m, .int (nI k)] (hp scr s) Q ↔ Q (some (.int (b2i (bt m k)))) (hp scr s) := by
  rw [s_PL_holds]; simp only [b_test m hk, Bool.decide_eq_true]
theorem t_has (scr : List Int32) (s : MS) (m : Int32) {k : Nat} (hk : k < 32) (Q : Option Value → HV → Prop) : X_R_has [.int m, .int (nI k)] (hp scr s) Q ↔ Q (some (.int (b2i (bt m k)))) (hp scr s) := by
  rw [s_R_has]; simp only [b_test m hk, Bool.decide_eq_true]
theorem s_R_ones (scr : List Int32) (s : MS) (m : Int32) (Q : Option Value → HV → Prop) (h : Q (some (.int (nI (cnt (bt m) 16)))) (hp scr s)) : X_R_ones [.int m] (hp scr s) Q := by
  simp [X_R_ones, B_R_ones, eV, eI, eL, eR, e1, e2, eDI, eDL, eFI, eFL, eFR, eAI, eAZ, eAR, eLen, aN, aC, xV, xS, eX, eIf, eC_b, cA, cO, cN, sSk, sSq, sI, sL, sR, sInc, sF, sFO, sAI, sAZ, sAO, sX, sXp, sIf, sCut, sSqs, sSw, sRt, sRz_g, is01_b, is01_0, is01_1, sRv, sBk, sCt, sCp, lset, lclr, lcut, lini, lx, Value.category, ixOf, b2i_0, b2i_1]
  refine lp_ind (fun z ls h => ∃ k, z = 16 - k ∧ k ≤ 16 ∧ ls = [.int m, .int (nI (cnt (bt m) k)), .int (nI k)] ∧ h = hp scr s) ?_ ⟨0, rfl, by omega, rfl, rfl⟩
  rintro z ls h' ⟨k, hz, hk, rfl, rfl⟩ X hX
  simp [eV, eI, eL, eR, e1, e2, eDI, eDL, eFI, eFL, eFR, eAI, eAZ, eAR, eLen, aN, aC, xV, xS, eX, eIf, eC_b, cA, cO, cN, sSk, sSq, sI, sL, sR, sInc, sF, sFO, sAI, sAZ, sAO, sX, sXp, sIf, sCut, sSqs, sSw, sRt, sRz_g, is01_b, is01_0, is01_1, sRv, sBk, sCt, sCp, lset, lclr, lcut, lini, lx, Value.category, ixOf, b2i_0, b2i_1]
  simp (disch := omega) only [LIT, L_0le, L_0lt, L_0eq, L_eq0, L_le0, L_lt0, L_1eq, L_eq1, L_1le, L_1lt, L_lt1, L_le1, L_p1, nI_ltI, nI_leI, nI_eq, nI_add, nI_clamp]
  split
  · rw [b_test1 m (by omega)]
    refine hX _ _ _ ?_ ⟨k + 1, rfl, by omega, ?_, rfl⟩
    · omega
    · cases hb : bt m k <;> simp [cnt, hb, b2i, L_p1]
  · rw [show k = 16 by omega]; exact h
theorem s_Int_bitCount0 (scr : List Int32) (s : MS) (i : Int32) (Q : Option Value → HV → Prop) : X_Int_bitCount [.int i] (hp scr s) Q ↔ Q (some (.int (swar i))) (hp scr s) := by
  simp [X_Int_bitCount, B_Int_bitCount, eV, eI, eL, eR, e1, e2, eDI, eDL, eFI, eFL, eFR, eAI, eAZ, eAR, eLen, aN, aC, xV, xS, eX, eIf, eC_b, cA, cO, cN, sSk, sSq, sI, sL, sR, sInc, sF, sFO, sAI, sAZ, sAO, sX, sXp, sIf, sCut, sSqs, sSw, sRt, sRz_g, is01_b, is01_0, is01_1, sRv, sBk, sCt, sCp, lset, lclr, lcut, lini, lx, Value.category, ixOf, b2i_0, b2i_1, swar]
theorem s_bitCount (scr : List Int32) (s : MS) {x : Nat} (hx : x < 65536) (Q : Option Value → HV → Prop) : X_Int_bitCount [.int (nI x)] (hp scr s) Q ↔ Q (some (.int (nI (cnt (fun i => x.testBit i) 16)))) (hp scr s) := by
  rw [s_Int_bitCount0, swar_N hx, swarN_ok hx, popF_cnt]
theorem s_inLane (scr : List Int32) (s : MS) {w : Nat} {b : List Nat} (hw : w ≤ 4) (hb : wfB w b) {k : Nat} (hk : k < 4) (Q : Option Value → HV → Prop) : X_PL_inLane [.int (nI (encN b)), .int (nI k)] (hp scr s) Q ↔ Q (some (.int (nI (ln b k)))) (hp scr s) := by
  simp [X_PL_inLane, B_PL_inLane, eV, eI, eL, eR, e1, e2, eDI, eDL, eFI, eFL, eFR, eAI, eAZ, eAR, eLen, aN, aC, xV, xS, eX, eIf, eC_b, cA, cO, cN, sSk, sSq, sI, sL, sR, sInc, sF, sFO, sAI, sAZ, sAO, sX, sXp, sIf, sCut, sSqs, sSw, sRt, sRz_g, is01_b, is01_0, is01_1, sRv, sBk, sCt, sCp, lset, lclr, lcut, lini, lx, Value.category, ixOf, b2i_0, b2i_1]
  rw [show (4 : Int32) * nI k = nI (4 * k) from nI_mul 4 k, show (15 : Int32) = nI 15 from rfl, enc_lane hw hb hk]
theorem s_withLane (scr : List Int32) (s : MS) {b : List Nat} (hb : ∀ x, x ∈ b → x < 16) (hl : b.length < 4) {i : Nat} (hi : i < 16) (Q : Option Value → HV → Prop) : X_PL_withLane [.int (nI (encN b)), .int (nI b.length), .int (nI i)] (hp scr s) Q ↔ Q (some (.int (nI (encN (b ++ [i]))))) (hp scr s) := by
  simp [X_PL_withLane, B_PL_withLane, eV, eI, eL, eR, e1, e2, eDI, eDL, eFI, eFL, eFR, eAI, eAZ, eAR, eLen, aN, aC, xV, xS, eX, eIf, eC_b, cA, cO, cN, sSk, sSq, sI, sL, sR, sInc, sF, sFO, sAI, sAZ, sAO, sX, sXp, sIf, sCut, sSqs, sSw, sRt, sRz_g, is01_b, is01_0, is01_1, sRv, sBk, sCt, sCp, lset, lclr, lcut, lini, lx, Value.category, ixOf, b2i_0, b2i_1]
  have h1 := encN_lt b hb
  rw [← pow16] at h1
  rw [show (4 : Int32) * nI b.length = nI (4 * b.length) from nI_mul 4 b.length, nI_shl i (by omega), nI_or, encN_app, ← pow16, Nat.or_comm, Nat.mul_comm i, ← Nat.two_pow_add_eq_or_of_lt h1, Nat.add_comm]
theorem s_setOf (scr : List Int32) (s : MS) {w : Nat} {b : List Nat} (hw : w ≤ 4) (hb : wfB w b) (Q : Option Value → HV → Prop) (h : Q (some (.int (mS b))) (hp scr s)) : X_PL_setOf [.int (nI (encN b)), .int (nI w)] (hp scr s) Q := by
  simp [X_PL_setOf, B_PL_setOf, eV, eI, eL, eR, e1, e2, eDI, eDL, eFI, eFL, eFR, eAI, eAZ, eAR, eLen, aN, aC, xV, xS, eX, eIf, eC_b, cA, cO, cN, sSk, sSq, sI, sL, sR, sInc, sF, sFO, sAI, sAZ, sAO, sX, sXp, sIf, sCut, sSqs, sSw, sRt, sRz_g, is01_b, is01_0, is01_1, sRv, sBk, sCt, sCp, lset, lclr, lcut, lini, lx, Value.category, ixOf, b2i_0, b2i_1]
  refine lp_ind (fun z ls h => ∃ k, z = w - k ∧ k ≤ w ∧ ls = [.int (nI (encN b)), .int (nI w), .int (mS (b.take k)), .int (nI k)] ∧ h = hp scr s) ?_ ⟨0, rfl, by omega, rfl, rfl⟩
  rintro z ls h' ⟨k, hz, hk, rfl, rfl⟩ X hX
  simp [eV, eI, eL, eR, e1, e2, eDI, eDL, eFI, eFL, eFR, eAI, eAZ, eAR, eLen, aN, aC, xV, xS, eX, eIf, eC_b, cA, cO, cN, sSk, sSq, sI, sL, sR, sInc, sF, sFO, sAI, sAZ, sAO, sX, sXp, sIf, sCut, sSqs, sSw, sRt, sRz_g, is01_b, is01_0, is01_1, sRv, sBk, sCt, sCp, lset, lclr, lcut, lini, lx, Value.category, ixOf, b2i_0, b2i_1]
  simp (disch := omega) only [LIT, L_0le, L_0lt, L_0eq, L_eq0, L_le0, L_lt0, L_1eq, L_eq1, L_1le, L_1lt, L_lt1, L_le1, L_p1, nI_ltI, nI_leI, nI_eq, nI_add, nI_clamp]
  split
  · next hlt =>
    refine hX _ _ _ ?_ ⟨k + 1, rfl, by omega, ?_, rfl⟩
    · omega
    · have hbk := ln_lt hb hlt
      rw [nI_mul, enc_lane hw hb (by omega), bit_nI (by omega), ln_take hb hlt]
      unfold mS
      rw [nI_or, setN_app]
  · rw [show k = w by omega, List.take_of_length_le (by rw [hb.1]; exact Nat.le_refl _)]; exact h
