abbrev FN : Nat → Nat → Prop := fun r k => r = 78 ∨ r = 79 ∨ r = 80 ∨ r = 81 ∨ r = 82 ∨ (r = 65 ∧ (k = 18 ∨ k = 19 ∨ k = 24 ∨ k = 25 ∨ k = 26))
theorem s_R_nothingKept {P : PC} (scr : List Int32) {s : MS} (hP : okP P) (hm : mR P s) {r : Nat} (hr : r = 71 ∨ r = 72) {base known w : Nat} (hw : mRow r s base known w) (hs : okS base known w) {om : Int32} {out : Nat → Bool} (ho : ∀ k, k < 16 → bt om k = out k) (Q : Option Value → HV → Prop)
    (h : ∀ s', Fr FN s s' → s'.1 65 18 = om → s'.1 65 19 = nI w → mFD (pFol P base known out) 78 79 P.1 s' → s'.1 65 24 = 0 → s'.1 65 25 = 0 → s'.1 65 26 = 0 → (∀ i, i < P.1 → s'.1 80 i = -9 ∧ s'.1 81 i = -9 ∧ s'.1 82 i = -9) → Q none (hp scr s')) : X_R_nothingKept [.ref 65, .ref r, .int om] (hp scr s) Q := by
  have h16 := hP.1
  have rf := rowf hr scr
  have r1 : r ≠ 1 := (rf s).1
  simp [X_R_nothingKept, B_R_nothingKept, eV, eI, eL, eR, e1, e2, eDI, eDL, eFI, eFL, eFR, eAI, eAZ, eAR, eLen, aN, aC, xV, xS, eX, eIf, eC_b, cA, cO, cN, sSk, sSq, sI, sL, sR, sInc, sF, sFO, sAI, sAZ, sAO, sX, sXp, sIf, sCut, sSqs, sSw, sRt, sRz_g, is01_b, is01_0, is01_1, sRv, sBk, sCt, sCp, lset, lclr, lcut, lini, lx, Value.category, ixOf, b2i_0, b2i_1, T_R, U_R, r1, rf]
  have g0 : Fr FN s (up (up s 65 18 om) 65 19 ((up s 65 18 om).1 r 18)) := (Fr.rf.up _ (by omega)).up _ (by omega)
  have v19 : (up (up s 65 18 om) 65 19 ((up s 65 18 om).1 r 18)).1 65 19 = nI w := by
    rw [up_same]
    simp only [up_get]
    rw [if_neg (by omega)]
    exact hw.2.2
  have v18 : (up (up s 65 18 om) 65 19 ((up s 65 18 om).1 r 18)).1 65 18 = om := by simp [up_get]
  generalize (up (up s 65 18 om) 65 19 ((up s 65 18 om).1 r 18)) = s0 at g0 v19 v18 ⊢
  refine s_R_layFollows scr hP (mR_fr g0 (by omega) (by omega) hm) hr (mRow_fr g0 (by omega) hw) hs (out := out) (fun k hk => by rw [v18]; exact ho k hk) _ fun s1 f1 f2 => ⟨rfl, ?_⟩
  have g1 : Fr FN s s1 := g0.tr f1 fun r k z => by omega
  simp [T_R, U_R]
  refine lp_ind (fun z ls h => ∃ k s', z = P.1 - k ∧ k ≤ P.1 ∧ ls = [.ref 65, .ref r, .int om, .int (nI k)] ∧ h = hp scr s' ∧ Fr (fun r k => r = 80 ∨ r = 81 ∨ r = 82 ∨ (r = 65 ∧ (k = 24 ∨ k = 25 ∨ k = 26))) s1 s' ∧ s'.1 65 24 = 0 ∧ s'.1 65 25 = 0 ∧ s'.1 65 26 = 0 ∧ ∀ i, i < k → s'.1 80 i = -9 ∧ s'.1 81 i = -9 ∧ s'.1 82 i = -9) ?_ ⟨0, _, rfl, by omega, rfl, rfl, ((Fr.rf.up _ (by omega)).up _ (by omega)).up _ (by omega), by simp [up_get], by simp [up_get], by simp [up_get], fun i hi => by omega⟩
  rintro z ls h' ⟨k, s2, hz, hk, rfl, rfl, q1, q2, q3, q4, q5⟩ X hX
  have g2 : Fr FN s s2 := g1.tr q1 fun r k z => by omega
  have m2 : mR P s2 := mR_fr g2 (by omega) (by omega) hm
  refine cX (t := decide (k < P.1)) (h' := hp scr s2) ?h1 ?h2
  case h1 =>
    intro K
    simp [eV, eI, eL, eR, e1, e2, eDI, eDL, eFI, eFL, eFR, eAI, eAZ, eAR, eLen, aN, aC, xV, xS, eX, eIf, eC_b, cA, cO, cN, sSk, sSq, sI, sL, sR, sInc, sF, sFO, sAI, sAZ, sAO, sX, sXp, sIf, sCut, sSqs, sSw, sRt, sRz_g, is01_b, is01_0, is01_1, sRv, sBk, sCt, sCp, lset, lclr, lcut, lini, lx, Value.category, ixOf, b2i_0, b2i_1, T_R, m2.1]
    simp (disch := omega) only [LIT, L_0le, L_0lt, L_0eq, L_eq0, L_le0, L_lt0, L_1eq, L_eq1, L_1le, L_1lt, L_lt1, L_le1, L_p1, nI_ltI, nI_leI, nI_eq, nI_add, nI_clamp]
  case h2 =>
    by_cases hlt : k < P.1
    · simp only [hlt, decide_true, if_true]
      simp [eV, eI, eL, eR, e1, e2, eDI, eDL, eFI, eFL, eFR, eAI, eAZ, eAR, eLen, aN, aC, xV, xS, eX, eIf, eC_b, cA, cO, cN, sSk, sSq, sI, sL, sR, sInc, sF, sFO, sAI, sAZ, sAO, sX, sXp, sIf, sCut, sSqs, sSw, sRt, sRz_g, is01_b, is01_0, is01_1, sRv, sBk, sCt, sCp, lset, lclr, lcut, lini, lx, Value.category, ixOf, b2i_0, b2i_1, T_R, G_R, ixf hP.1 hlt, L_p1]
      refine hX _ _ _ (by rw [hz]; omega) ⟨k + 1, _, rfl, hlt, rfl, rfl, ((q1.up _ (by omega)).up _ (by omega)).up _ (by omega), by simp [up_get, q2], by simp [up_get, q3], by simp [up_get, q4], fun i hi => ?_⟩
      by_cases c : i = k
      · subst c; simp [up_get]
      · simp [up_get, c]; exact q5 i (by omega)
    · have : k = P.1 := by omega
      subst this
      simp only [hlt, decide_false, Bool.false_eq_true, if_false]
      refine h s2 g2 ?_ ?_ (mFD_fr q1 (by omega) (by omega) f2) q2 q3 q4 q5
      · rw [q1.2 _ _ (by omega), f1.2 _ _ (by omega), v18]
      · rw [q1.2 _ _ (by omega), f1.2 _ _ (by omega), v19]
