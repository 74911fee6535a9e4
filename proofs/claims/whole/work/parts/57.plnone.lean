abbrev FK (b : Nat) : Nat → Nat → Prop := fun r k => (r = b ∧ (k = 3 ∨ 9 ≤ k)) ∨ (b + 1 ≤ r ∧ r ≤ b + 3) ∨ (b + 7 ≤ r ∧ r ≤ b + 9) ∨ (r = b + 6 ∧ k = 4)
theorem rowp {r : Nat} (hr : r = 20 ∨ r = 21 ∨ r = 22) (scr : List Int32) (s : MS) : hk (hp scr s) r = some 20 ∧ ∀ k, k < 19 → hg (hp scr s) r k = some (.int (s.1 r k)) := by
  rcases hr with rfl | rfl | rfl <;> simp +contextual [G_row]
theorem s_Pack_keepNothing {P : PC} {b : Nat} (hb : pB b) (scr : List Int32) {s : MS} (hP : okP P) (hm : mC P 6 s) {r : Nat} (hr : r = 20 ∨ r = 21 ∨ r = 22) {base known w : Nat} (hw : mRow r s base known w) (hs : okS base known w) {om : Int32} {out : Nat → Bool} (ho : ∀ k, k < 16 → bt om k = out k) (Q : Option Value → HV → Prop)
    (h : ∀ s', Fr (FK b) s s' → s'.1 (b + 6) 4 = om → mFD (pFol P base known out) (b + 7) (b + 8) P.1 s' → mU (pG P out) (b + 9) P.1 s' → mPk P b w ([], 0, 0) s' → Q none (hp scr s')) : X_Pack_keepNothing [.ref b, .ref r, .int om] (hp scr s) Q := by
  have h16 := hP.1
  have bf := pbf hb
  have r1 : r ≠ 1 ∧ r ≠ 0 := by omega
  simp [X_Pack_keepNothing, B_Pack_keepNothing, eV, eI, eL, eR, e1, e2, eDI, eDL, eFI, eFL, eFR, eAI, eAZ, eAR, eLen, aN, aC, xV, xS, eX, eIf, eC_b, cA, cO, cN, sSk, sSq, sI, sL, sR, sInc, sF, sFO, sAI, sAZ, sAO, sX, sXp, sIf, sCut, sSqs, sSw, sRt, sRz_g, is01_b, is01_0, is01_1, sRv, sBk, sCt, sCp, lset, lclr, lcut, lini, lx, Value.category, ixOf, b2i_0, b2i_1, T_Pack hb, U_Pack hb, r1, bf, rowp hr scr s]
  rw [hw.1, hw.2.1]
  refine s_Links_find hb scr hP hm hs (out := out) ho _ fun s1 f1 f2 f3 f4 => ⟨rfl, ?_⟩
  have e18 : s1.1 r 18 = nI w := by rw [f1.2 _ _ (by omega)]; exact hw.2.2
  simp [T_Pack hb, U_Pack hb, bf, rowp hr scr s1, e18]
  refine lp_ind (fun z ls h => ∃ k s', z = 16 - k ∧ k ≤ 16 ∧ ls = [.ref b, .ref r, .int om, .int (nI k)] ∧ h = hp scr s' ∧ Fr (fun r k => (r = b ∧ (k = 3 ∨ 9 ≤ k)) ∨ (b + 1 ≤ r ∧ r ≤ b + 3)) s1 s' ∧ s'.1 b 3 = nI w ∧ s'.1 b 10 = 0 ∧ s'.1 b 11 = 0 ∧ s'.1 b 12 = 0 ∧ s'.1 b 13 = 0 ∧ ∀ i, i < k → mk (s'.1 (b + 1) i) (nd [] i) ∧ s'.1 (b + 2) i = -9 ∧ s'.1 (b + 3) i = -9) ?_ ⟨0, _, rfl, by omega, rfl, rfl, ((((Fr.rf.up _ (by omega)).up _ (by omega)).up _ (by omega)).up _ (by omega)).up _ (by omega), by simp [up_get], by simp [up_get], by simp [up_get], by simp [up_get], by simp [up_get], fun i hi => by omega⟩
  rintro z ls h' ⟨k, s2, hz, hk, rfl, rfl, q1, q2, q3, q4, q5, q6, q7⟩ X hX
  refine cX (t := decide (k < 16)) (h' := hp scr s2) ?h1 ?h2
  case h1 =>
    intro K
    simp [eV, eI, eL, eR, e1, e2, eDI, eDL, eFI, eFL, eFR, eAI, eAZ, eAR, eLen, aN, aC, xV, xS, eX, eIf, eC_b, cA, cO, cN, sSk, sSq, sI, sL, sR, sInc, sF, sFO, sAI, sAZ, sAO, sX, sXp, sIf, sCut, sSqs, sSw, sRt, sRz_g, is01_b, is01_0, is01_1, sRv, sBk, sCt, sCp, lset, lclr, lcut, lini, lx, Value.category, ixOf, b2i_0, b2i_1]
    simp (disch := omega) only [LIT, L_0le, L_0lt, L_0eq, L_eq0, L_le0, L_lt0, L_1eq, L_eq1, L_1le, L_1lt, L_lt1, L_le1, L_p1, nI_ltI, nI_leI, nI_eq, nI_add, nI_clamp]
  case h2 =>
    by_cases hlt : k < 16
    · simp only [hlt, decide_true, if_true]
      simp [eV, eI, eL, eR, e1, e2, eDI, eDL, eFI, eFL, eFR, eAI, eAZ, eAR, eLen, aN, aC, xV, xS, eX, eIf, eC_b, cA, cO, cN, sSk, sSq, sI, sL, sR, sInc, sF, sFO, sAI, sAZ, sAO, sX, sXp, sIf, sCut, sSqs, sSw, sRt, sRz_g, is01_b, is01_0, is01_1, sRv, sBk, sCt, sCp, lset, lclr, lcut, lini, lx, Value.category, ixOf, b2i_0, b2i_1, T_Pack hb, G_Pack hb, bf, ix80 hlt (by decide), L_p1]
      refine ⟨by omega, hX _ _ _ (by rw [hz]; omega) ⟨k + 1, _, rfl, hlt, rfl, rfl, ((q1.up _ (by omega)).up _ (by omega)).up _ (by omega), by simp [up_get, q2], by simp [up_get, q3], by simp [up_get, q4], by simp [up_get, q5], by simp [up_get, q6], fun i hi => ?_⟩⟩
      by_cases c : i = k
      · subst c
        simp [up_get]
        intro j hj
        rw [b_bit (by omega) hj]
        simp [nd, eq_comm]
      · simp [up_get, c]; exact q7 i (by omega)
    · have : k = 16 := by omega
      subst this
      simp only [hlt, decide_false, Bool.false_eq_true, if_false]
      refine h s2 ((f1.wk fun r k z => by omega).tr q1 fun r k z => by omega) (by rw [q1.2 _ _ (by omega), f4]) (mFD_fr q1 (by omega) (by omega) f2) (mU_fr q1 (by omega) f3) ⟨q2, q3, q4, q5, q6, fun i hi => (q7 i hi).1, ⟨fun i hi _ => (q7 i (by omega)).2.1, fun p hp => by simp at hp⟩, ⟨fun i hi _ => (q7 i (by omega)).2.2, fun p hp => by simp at hp⟩⟩
