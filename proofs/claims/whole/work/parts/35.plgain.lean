def pOutw (P : PC) (out kp : Nat → Bool) (T : TS) (i j : Nat) : Bool := decide (i < j) && pUses P j i && !out j && !kp j && !T.1.flatten.contains j
def tk (P : PC) (out kp : Nat → Bool) (T : TS) (i : Nat) : Bool := T.2.2.1.contains i || !allB (fun j => !pOutw P out kp T i j) P.1
def pLoss (P : PC) (out kp : Nat → Bool) (T : TS) (i : Nat) : Bool := T.1.flatten.contains i && decide (pK P i ≠ 6) && tk P out kp T i
def pGain (P : PC) (out kp : Nat → Bool) (w : Nat) (T : TS) : Int32 := nI (w - 1) * nI T.1.length - nI T.2.2.2 - nI (cnt (pLoss P out kp T) P.1)
theorem mU_fr {g : Nat → Nat → Bool} {ub n : Nat} {F : Nat → Nat → Prop} {s s' : MS} (h : Fr F s s') (a : ∀ k, ¬ F ub k) (hm : mU g ub n s) : mU g ub n s' := by
  intro i hi k hk
  rw [h.2 _ _ (a _)]
  exact hm i hi k hk
theorem s_Tree_isTakenOut {P : PC} {b : Nat} (hb : pB b) (scr : List Int32) {s : MS} (hP : okP P) {out : Nat → Bool} (hu : mU (pG P out) (b + 9) P.1 s) {w : Nat} {kp : Nat → Bool} {T : TS} (hT : mTP b w kp T s) {i : Nat} (hi : i < P.1) (hoi : out i = false) (Q : Option Value → HV → Prop) :
    X_Tree_isTakenOut [.ref (b + 10), .int (nI i)] (hp scr s) Q ↔ Q (some (.int (b2i (tk P out kp T i)))) (hp scr s) := by
  have h16 := hP.1
  have bf := pbf hb
  obtain ⟨t1, t2, t3, t4, t5, t6, t7, t8, t9⟩ := hT
  have hs := fun Q => t_holds scr s (s.1 (b + 10) 9) (show i < 32 by omega) Q
  rw [t6, mS_bit _ (by omega)] at hs
  have key : (s.1 (b + 9) i &&& ~~~(mS T.1.flatten ||| s.1 (b + 10) 8) = 0) = (allB (fun j => !pOutw P out kp T i j) P.1 = true) := by
    rw [b_eq0, allB_iff]
    apply propext
    constructor
    · intro q j hj
      have := q j (by omega)
      rw [b_and, b_cmp _ (by omega), b_or, hu i hi j (by omega), mS_bit _ (by omega), t2 j (by omega)] at this
      unfold pG at this
      unfold pOutw
      simp only [hj, decide_true, Bool.true_and, hoi, Bool.not_false] at this
      cases c1 : decide (i < j) <;> cases c2 : pUses P j i <;> cases c3 : out j <;> cases c4 : kp j <;> cases c5 : T.1.flatten.contains j <;> rw [c1, c2, c3, c4, c5] at this <;> simp at this ⊢
    · intro q j hj
      rw [b_and, b_cmp _ (by omega), b_or, hu i hi j (by omega), mS_bit _ (by omega), t2 j (by omega)]
      by_cases c : j < P.1
      · have := q j c
        unfold pG
        unfold pOutw at this
        simp only [c, decide_true, Bool.true_and, hoi, Bool.not_false]
        cases c1 : decide (i < j) <;> cases c2 : pUses P j i <;> cases c3 : out j <;> cases c4 : kp j <;> cases c5 : T.1.flatten.contains j <;> rw [c1, c2, c3, c4, c5] at this <;> simp at this ⊢
      · simp [c]
  unfold tk
  generalize T.2.2.1.contains i = c at hs ⊢
  simp [X_Tree_isTakenOut, B_Tree_isTakenOut, eV, eI, eL, eR, e1, e2, eDI, eDL, eFI, eFL, eFR, eAI, eAZ, eAR, eLen, aN, aC, xV, xS, eX, eIf, eC_b, cA, cO, cN, sSk, sSq, sI, sL, sR, sInc, sF, sFO, sAI, sAZ, sAO, sX, sXp, sIf, sCut, sSqs, sSw, sRt, sRz_g, is01_b, is01_0, is01_1, sRv, sBk, sCt, sCp, lset, lclr, lcut, lini, lx, Value.category, ixOf, b2i_0, b2i_1, T_Pack hb, G_Pack hb, bf, ixf hP.1 hi, t4, t6, hs, key, b2i_0]
  cases c <;> cases allB (fun j => !pOutw P out kp T i j) P.1 <;> simp
theorem s_Tree_gain {P : PC} {b : Nat} (hb : pB b) (scr : List Int32) {s : MS} (hP : okP P) (hm : mC P 6 s) {out : Nat → Bool} (hout : ∀ i, i < P.1 → out i = true → pK P i = 6) (hu : mU (pG P out) (b + 9) P.1 s) {w : Nat} (hw : w = 2 ∨ w = 4) {kp : Nat → Bool} {T : TS} (hT : mTP b w kp T s) (Q : Option Value → HV → Prop)
    (h : Q (some (.int (pGain P out kp w T))) (hp scr s)) : X_Tree_gain [.ref (b + 10)] (hp scr s) Q := by
  have h16 := hP.1
  have bf := pbf hb
  have hT' := hT
  obtain ⟨t1, t2, t3, t4, t5, t6, t7, t8, t9⟩ := hT
  have hw1 : nI w - 1 = nI (w - 1) := by rw [show (1 : Int32) = nI 1 from rfl, nI_sub (by omega)]
  simp [X_Tree_gain, B_Tree_gain, eV, eI, eL, eR, e1, e2, eDI, eDL, eFI, eFL, eFR, eAI, eAZ, eAR, eLen, aN, aC, xV, xS, eX, eIf, eC_b, cA, cO, cN, sSk, sSq, sI, sL, sR, sInc, sF, sFO, sAI, sAZ, sAO, sX, sXp, sIf, sCut, sSqs, sSw, sRt, sRz_g, is01_b, is01_0, is01_1, sRv, sBk, sCt, sCp, lset, lclr, lcut, lini, lx, Value.category, ixOf, b2i_0, b2i_1, T_Pack hb, bf, t1, t3, t7, hw1]
  refine lp_ind (fun z ls h => ∃ k, z = P.1 - k ∧ k ≤ P.1 ∧ ls = [.ref (b + 10), .int (nI (w - 1) * nI T.1.length - nI T.2.2.2 - nI (cnt (pLoss P out kp T) k)), .int (nI k)] ∧ h = hp scr s) ?_ ⟨0, rfl, by omega, by show _ = [_, Value.int (_ - nI 0), _]; rw [show nI 0 = (0 : Int32) from rfl, Int32.sub_zero], rfl⟩
  rintro z ls h' ⟨k, hz, hk, rfl, rfl⟩ X hX
  simp [eV, eI, eL, eR, e1, e2, eDI, eDL, eFI, eFL, eFR, eAI, eAZ, eAR, eLen, aN, aC, xV, xS, eX, eIf, eC_b, cA, cO, cN, sSk, sSq, sI, sL, sR, sInc, sF, sFO, sAI, sAZ, sAO, sX, sXp, sIf, sCut, sSqs, sSw, sRt, sRz_g, is01_b, is01_0, is01_1, sRv, sBk, sCt, sCp, lset, lclr, lcut, lini, lx, Value.category, ixOf, b2i_0, b2i_1, T_Pack hb, T_Code c6, bf, hm.1]
  simp (disch := omega) only [LIT, L_0le, L_0lt, L_0eq, L_eq0, L_le0, L_lt0, L_1eq, L_eq1, L_1le, L_1lt, L_lt1, L_le1, L_p1, nI_ltI, nI_leI, nI_eq, nI_add, nI_clamp]
  split
  · next hlt =>
    have kk := (hP.2 k hlt).1
    have hs := fun Q => t_holds scr s (mS T.1.flatten) (show k < 32 by omega) Q
    rw [mS_bit _ (by omega)] at hs
    have pl : pLoss P out kp T k = (T.1.flatten.contains k && decide (pK P k ≠ 6) && tk P out kp T k) := rfl
    generalize T.1.flatten.contains k = c at hs pl
    simp [t4, hs, T_Pack hb, T_Code c6, G6, bf, ixf hP.1 hlt, mC6 hm hlt, b2i_0]
    simp (disch := omega) only [LIT, L_0le, L_0lt, L_0eq, L_eq0, L_le0, L_lt0, L_1eq, L_eq1, L_1le, L_1lt, L_lt1, L_le1, L_p1, nI_ltI, nI_leI, nI_eq, nI_add, nI_clamp]
    have go : ∀ x, x = nI (w - 1) * nI T.1.length - nI T.2.2.2 - nI (cnt (pLoss P out kp T) (k + 1)) → X [.ref (b + 10), .int x, .int (nI (k + 1))] (hp scr s) := by
      rintro x rfl
      exact hX _ _ _ (by omega) ⟨k + 1, rfl, hlt, rfl, rfl⟩
    have g0 : pLoss P out kp T k = false → nI (w - 1) * nI T.1.length - nI T.2.2.2 - nI (cnt (pLoss P out kp T) k) = nI (w - 1) * nI T.1.length - nI T.2.2.2 - nI (cnt (pLoss P out kp T) (k + 1)) := by
      intro q
      simp [cnt, q]
    have g1 : pLoss P out kp T k = true → nI (w - 1) * nI T.1.length - nI T.2.2.2 - nI (cnt (pLoss P out kp T) k) + -1 = nI (w - 1) * nI T.1.length - nI T.2.2.2 - nI (cnt (pLoss P out kp T) (k + 1)) := by
      intro q
      simp only [cnt, q, if_true]
      rw [← nI_add, show nI 1 = (1 : Int32) from rfl]
      generalize nI (w - 1) * nI T.1.length - nI T.2.2.2 = x
      generalize nI (cnt (pLoss P out kp T) k) = y
      grind
    cases c with
    | false =>
      simp only [Bool.false_eq_true, if_false]
      exact go _ (g0 (by rw [pl]; rfl))
    | true =>
      simp only [if_true]
      split
      · next q2 => exact go _ (g0 (by rw [pl, q2]; simp))
      · next q2 =>
        have ho : out k = false := by
          cases e : out k with
          | false => rfl
          | true => exact absurd (hout k hlt e) q2
        refine (s_Tree_isTakenOut hb scr hP hu hT' hlt ho _).mpr ⟨_, rfl, ?_⟩
        simp only [b2i_0]
        split
        · next q3 => exact go _ (g0 (by rw [pl, q3]; simp))
        · next q3 =>
          simp only [Bool.not_eq_true, Bool.not_eq_false] at q3
          exact go _ (g1 (by rw [pl, q3]; simpa using q2))
  · have : k = P.1 := by omega
    subst this
    exact h
