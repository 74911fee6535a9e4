/-! fractions -/
theorem nI_rem {x y : Nat} (hx : x < 2 ^ 31) (h0 : 0 < y) (hy : y < 2 ^ 31) : nI x - nI x / nI y * nI y = nI (x % y) := pk_rem hx h0 hy
theorem s_PL_commonDivisor (scr : List Int32) (s : MS) {a u : Nat} (ha : a < 2 ^ 31) (h1 : 1 ≤ u) (hu : u ≤ 1000000) (Q : Option Value → HV → Prop) (h : Q (some (.int (nI (Nat.gcd a u)))) (hp scr s)) : X_PL_commonDivisor [.int (nI a), .int (nI u)] (hp scr s) Q := by
  simp [X_PL_commonDivisor, B_PL_commonDivisor, eV, eI, eL, eR, e1, e2, eDI, eDL, eFI, eFL, eFR, eAI, eAZ, eAR, eLen, aN, aC, xV, xS, eX, eIf, eC_b, cA, cO, cN, sSk, sSq, sI, sL, sR, sInc, sF, sFO, sAI, sAZ, sAO, sX, sXp, sIf, sCut, sSqs, sSw, sRt, sRz_g, is01_b, is01_0, is01_1, sRv, sBk, sCt, sCp, lset, lclr, lcut, lini, lx, Value.category, ixOf, b2i_0, b2i_1]
  refine lp_ind (fun z ls h => ∃ k x y, z = 100 - k ∧ x < 2 ^ 31 ∧ y < 2 ^ 31 ∧ Nat.gcd x y = Nat.gcd a u ∧ (k = 0 ∧ x = a ∧ y = u ∨ k ≤ 42 ∧ y < x ∧ x * y < 2 ^ (42 - k)) ∧ ls = [.int (nI a), .int (nI u), .int (nI x), .int (nI y), .int (nI k), .null] ∧ h = hp scr s) ?_ ⟨0, a, u, rfl, ha, by omega, rfl, Or.inl ⟨rfl, rfl, rfl⟩, rfl, rfl⟩
  rintro z ls h' ⟨k, x, y, hz, hx, hy, hg, hb, rfl, rfl⟩ X hX
  have k41 : 0 < y → k ≤ 41 := by
    intro y0
    rcases hb with ⟨rfl, -, -⟩ | ⟨b1, b2, b3⟩
    · omega
    · rcases Nat.lt_or_ge k 42 with q | q
      · omega
      · have : k = 42 := by omega
        subst this
        have : 1 ≤ x * y := Nat.mul_pos (by omega) y0
        simp at b3
        omega
  have ey : (nI y = 0) = (y = 0) := L_eq0 hy
  refine cX (t := decide (0 < y)) (h' := hp scr s) ?h1 ?h2
  case h1 =>
    intro K
    by_cases y0 : 0 < y
    · have : (nI k < 100) = (k < 100) := by rw [show (100 : Int32) = nI 100 from rfl]; exact propext (nI_ltI (by have := k41 y0; omega) (by decide))
      have k1 : k < 100 := by have := k41 y0; omega
      have yn : ¬ y = 0 := by omega
      simp [eV, eI, eL, eR, e1, e2, eDI, eDL, eFI, eFL, eFR, eAI, eAZ, eAR, eLen, aN, aC, xV, xS, eX, eIf, eC_b, cA, cO, cN, sSk, sSq, sI, sL, sR, sInc, sF, sFO, sAI, sAZ, sAO, sX, sXp, sIf, sCut, sSqs, sSw, sRt, sRz_g, is01_b, is01_0, is01_1, sRv, sBk, sCt, sCp, lset, lclr, lcut, lini, lx, Value.category, ixOf, b2i_0, b2i_1, ey, this, k1, yn, y0]
    · have yn : y = 0 := by omega
      subst yn
      simp [eV, eI, eL, eR, e1, e2, eDI, eDL, eFI, eFL, eFR, eAI, eAZ, eAR, eLen, aN, aC, xV, xS, eX, eIf, eC_b, cA, cO, cN, sSk, sSq, sI, sL, sR, sInc, sF, sFO, sAI, sAZ, sAO, sX, sXp, sIf, sCut, sSqs, sSw, sRt, sRz_g, is01_b, is01_0, is01_1, sRv, sBk, sCt, sCp, lset, lclr, lcut, lini, lx, Value.category, ixOf, b2i_0, b2i_1, show nI 0 = 0 from rfl]
  case h2 =>
    by_cases y0 : 0 < y
    · have yn : ¬ y = 0 := by omega
      have kk := k41 y0
      have md : x % y < y := Nat.mod_lt _ y0
      simp only [y0, decide_true, if_true]
      simp [eV, eI, eL, eR, e1, e2, eDI, eDL, eFI, eFL, eFR, eAI, eAZ, eAR, eLen, aN, aC, xV, xS, eX, eIf, eC_b, cA, cO, cN, sSk, sSq, sI, sL, sR, sInc, sF, sFO, sAI, sAZ, sAO, sX, sXp, sIf, sCut, sSqs, sSw, sRt, sRz_g, is01_b, is01_0, is01_1, sRv, sBk, sCt, sCp, lset, lclr, lcut, lini, lx, Value.category, ixOf, b2i_0, b2i_1, ey, yn, nI_rem hx y0 hy, L_p1]
      refine hX _ _ _ (by rw [hz]; omega) ⟨k + 1, y, x % y, rfl, hy, by omega, ?_, Or.inr ⟨by omega, md, ?_⟩, rfl, rfl⟩
      · rw [← hg, Nat.gcd_comm y, ← Nat.gcd_rec, Nat.gcd_comm]
      · rcases hb with ⟨rfl, rfl, rfl⟩ | ⟨b1, b2, b3⟩
        · have : y * (x % y) ≤ 1000000 * 1000000 := Nat.mul_le_mul hu (by omega)
          have : (2 : Nat) ^ (42 - (0 + 1)) = 2199023255552 := by decide
          omega
        · have e2 : 2 * (x % y) ≤ x := by
            have q := Nat.div_add_mod x y
            have d1 : 1 ≤ x / y := by rw [Nat.le_div_iff_mul_le y0]; omega
            have : y * 1 ≤ y * (x / y) := Nat.mul_le_mul_left y d1
            omega
          have m2 : y * (2 * (x % y)) ≤ y * x := Nat.mul_le_mul_left y e2
          have pw : (2 : Nat) ^ (42 - k) = 2 * 2 ^ (42 - (k + 1)) := by
            rw [show 42 - k = (42 - (k + 1)) + 1 by omega, Nat.pow_succ, Nat.mul_comm]
          rw [pw, Nat.mul_comm x y] at b3
          have : y * (2 * (x % y)) = 2 * (y * (x % y)) := by rw [← Nat.mul_assoc, Nat.mul_comm y 2, Nat.mul_assoc]
          omega
    · have yn : y = 0 := by omega
      subst yn
      rw [Nat.gcd_zero_right] at hg
      simp only [y0, decide_false, Bool.false_eq_true, if_false]
      simp [eV, eI, eL, eR, e1, e2, eDI, eDL, eFI, eFL, eFR, eAI, eAZ, eAR, eLen, aN, aC, xV, xS, eX, eIf, eC_b, cA, cO, cN, sSk, sSq, sI, sL, sR, sInc, sF, sFO, sAI, sAZ, sAO, sX, sXp, sIf, sCut, sSqs, sSw, sRt, sRz_g, is01_b, is01_0, is01_1, sRv, sBk, sCt, sCp, lset, lclr, lcut, lini, lx, Value.category, ixOf, b2i_0, b2i_1]
      rw [hg]
      exact h
/-- a bound for a number -/
def bdI (x : Int32) (B : Nat) : Prop := -(B : Int) ≤ x.toInt ∧ x.toInt ≤ B
theorem bmod_in {x : Int} (h1 : -2 ^ 31 ≤ x) (h2 : x < 2 ^ 31) : x.bmod (2 ^ 32) = x := Int.bmod_eq_of_le (by omega) (by omega)
theorem abs_nI {x : Int32} {B : Nat} (hB : B < 2 ^ 31) (h : bdI x B) : (if 0 ≤ x then x else 0 - x) = nI x.toInt.natAbs ∧ (if x < 0 then -x else x) = nI x.toInt.natAbs ∧ x.toInt.natAbs < 2 ^ 31 := by
  obtain ⟨h1, h2⟩ := h
  have hl : x.toInt.natAbs < 2 ^ 31 := by omega
  have e0 : (0 ≤ x) = (0 ≤ x.toInt) := by rw [Int32.le_iff_toInt_le]; rfl
  have e1' : (x < 0) = (x.toInt < 0) := by rw [Int32.lt_iff_toInt_lt]; rfl
  have neg : x.toInt < 0 → -x = nI x.toInt.natAbs := by
    intro q
    rw [← Int32.toInt_inj, nI_toInt hl, Int32.toInt_neg, bmod_in (by omega) (by omega)]
    omega
  have pos : 0 ≤ x.toInt → x = nI x.toInt.natAbs := by
    intro q
    rw [← Int32.toInt_inj, nI_toInt hl]
    omega
  rw [Int32.zero_sub]
  refine ⟨?_, ?_, hl⟩
  · split
    · next q => rw [e0] at q; exact pos q
    · next q => rw [e0] at q; exact neg (by omega)
  · split
    · next q => rw [e1'] at q; exact neg q
    · next q => rw [e1'] at q; exact pos (by omega)
def frV (o : Int32) (u : Nat) (up : Int32) : Int32 := (if up = 0 then nI u else o) / nI (Nat.gcd o.toInt.natAbs u)
theorem s_PL_partOfFraction (scr : List Int32) (s : MS) {o : Int32} {B : Nat} (hB : B < 2 ^ 31) (ho : bdI o B) {u : Nat} (h1 : 1 ≤ u) (hu : u ≤ 1000000) (up : Int32) (Q : Option Value → HV → Prop) (h : Q (some (.int (frV o u up))) (hp scr s)) : X_PL_partOfFraction [.int o, .int (nI u), .int up] (hp scr s) Q := by
  obtain ⟨e1', -, e3'⟩ := abs_nI hB ho
  have g1 : 1 ≤ Nat.gcd o.toInt.natAbs u := Nat.gcd_pos_of_pos_right _ h1
  have g2 : Nat.gcd o.toInt.natAbs u ≤ u := Nat.gcd_le_right _ h1
  unfold frV at h
  simp [X_PL_partOfFraction, B_PL_partOfFraction, lini, lx, Value.category]
  refine sSq_I1 (v := nI (Nat.gcd o.toInt.natAbs u)) (h' := hp scr s) ?h1 (by simp) ?h2
  case h1 =>
    intro K hK
    simp only [eV, eI, eL, eR, e1, e2, eDI, eDL, eFI, eFL, eFR, eAI, eAZ, eAR, eLen, aN, aC, xV, xS, eX, eIf, eC_b, cA, cO, cN, sSk, sSq, sI, sL, sR, sInc, sF, sFO, sAI, sAZ, sAO, sX, sXp, sIf, sCut, sSqs, sSw, sRt, sRz_g, is01_b, is01_0, is01_1, sRv, sBk, sCt, sCp, lset, lclr, lcut, lini, lx, Value.category, ixOf, b2i_0, b2i_1, List.getElem?_cons_succ, List.getElem?_cons_zero, Option.some.injEq, Value.int.injEq, exists_eq_left', List.length_cons, List.length_nil, true_and]
    have key := s_PL_commonDivisor scr s e3' h1 hu
    rw [Int32.zero_sub] at e1'
    rw [e1']
    exact key _ ⟨_, rfl, hK⟩
  generalize Nat.gcd o.toInt.natAbs u = g at *
  have l1 : (nI g < 1) = False := by rw [L_lt1 (by omega)]; simp; omega
  have l0 : (nI g = 0) = False := by rw [L_eq0 (by omega)]; simp; omega
  simp [eV, eI, eL, eR, e1, e2, eDI, eDL, eFI, eFL, eFR, eAI, eAZ, eAR, eLen, aN, aC, xV, xS, eX, eIf, eC_b, cA, cO, cN, sSk, sSq, sI, sL, sR, sInc, sF, sFO, sAI, sAZ, sAO, sX, sXp, sIf, sCut, sSqs, sSw, sRt, sRz_g, is01_b, is01_0, is01_1, sRv, sBk, sCt, sCp, lset, lclr, lcut, lini, lx, Value.category, ixOf, b2i_0, b2i_1, l1, l0]
  by_cases c : up = 0
  · simpa [c] using h
  · simpa [c] using h
theorem s_R_fraction (scr : List Int32) (s : MS) {o : Int32} {B : Nat} (hB : B < 2 ^ 31) (ho : bdI o B) {u : Nat} (h1 : 1 ≤ u) (hu : u ≤ 1000000) (up : Int32) (Q : Option Value → HV → Prop) (h : Q (some (.int (frV o u up))) (hp scr s)) : X_R_fraction [.int o, .int (nI u), .int up] (hp scr s) Q := by
  obtain ⟨-, e2', e3'⟩ := abs_nI hB ho
  have g1 : 1 ≤ Nat.gcd o.toInt.natAbs u := Nat.gcd_pos_of_pos_right _ h1
  have g2 : Nat.gcd o.toInt.natAbs u ≤ u := Nat.gcd_le_right _ h1
  unfold frV at h
  simp [X_R_fraction, B_R_fraction, lini, lx, Value.category]
  refine sSq_I1 (v := nI o.toInt.natAbs) (h' := hp scr s) ?h1 (by simp) ?h2
  case h1 =>
    intro K hK
    rw [← e2'] at hK
    by_cases c : o < 0
    · simp [eV, eI, eL, eR, e1, e2, eDI, eDL, eFI, eFL, eFR, eAI, eAZ, eAR, eLen, aN, aC, xV, xS, eX, eIf, eC_b, cA, cO, cN, sSk, sSq, sI, sL, sR, sInc, sF, sFO, sAI, sAZ, sAO, sX, sXp, sIf, sCut, sSqs, sSw, sRt, sRz_g, is01_b, is01_0, is01_1, sRv, sBk, sCt, sCp, lset, lclr, lcut, lini, lx, Value.category, ixOf, b2i_0, b2i_1, c] at hK ⊢; exact hK
    · simp [eV, eI, eL, eR, e1, e2, eDI, eDL, eFI, eFL, eFR, eAI, eAZ, eAR, eLen, aN, aC, xV, xS, eX, eIf, eC_b, cA, cO, cN, sSk, sSq, sI, sL, sR, sInc, sF, sFO, sAI, sAZ, sAO, sX, sXp, sIf, sCut, sSqs, sSw, sRt, sRz_g, is01_b, is01_0, is01_1, sRv, sBk, sCt, sCp, lset, lclr, lcut, lini, lx, Value.category, ixOf, b2i_0, b2i_1, c] at hK ⊢; exact hK
  generalize o.toInt.natAbs = a at *
  simp [eV, eI, eL, eR, e1, e2, eDI, eDL, eFI, eFL, eFR, eAI, eAZ, eAR, eLen, aN, aC, xV, xS, eX, eIf, eC_b, cA, cO, cN, sSk, sSq, sI, sL, sR, sInc, sF, sFO, sAI, sAZ, sAO, sX, sXp, sIf, sCut, sSqs, sSw, sRt, sRz_g, is01_b, is01_0, is01_1, sRv, sBk, sCt, sCp, lset, lclr, lcut, lini, lx, Value.category, ixOf, b2i_0, b2i_1]
  refine lp_ind (fun z ls h => ∃ x y, z = y ∧ x < 2 ^ 31 ∧ y < 2 ^ 31 ∧ Nat.gcd x y = Nat.gcd a u ∧ ls = [.int o, .int (nI u), .int up, .int (nI x), .int (nI y), .null] ∧ h = hp scr s) ?_ ⟨a, u, rfl, e3', by omega, rfl, rfl, rfl⟩
  rintro z ls h' ⟨x, y, hz, hx, hy, hg, rfl, rfl⟩ X hX
  have ey : (nI y = 0) = (y = 0) := L_eq0 hy
  refine cX (t := decide (0 < y)) (h' := hp scr s) ?h3 ?h4
  case h3 =>
    intro K
    by_cases y0 : 0 < y
    · have yn : ¬ y = 0 := by omega
      simp [eV, eI, eL, eR, e1, e2, eDI, eDL, eFI, eFL, eFR, eAI, eAZ, eAR, eLen, aN, aC, xV, xS, eX, eIf, eC_b, cA, cO, cN, sSk, sSq, sI, sL, sR, sInc, sF, sFO, sAI, sAZ, sAO, sX, sXp, sIf, sCut, sSqs, sSw, sRt, sRz_g, is01_b, is01_0, is01_1, sRv, sBk, sCt, sCp, lset, lclr, lcut, lini, lx, Value.category, ixOf, b2i_0, b2i_1, ey, yn, y0]
    · have yn : y = 0 := by omega
      subst yn
      simp [eV, eI, eL, eR, e1, e2, eDI, eDL, eFI, eFL, eFR, eAI, eAZ, eAR, eLen, aN, aC, xV, xS, eX, eIf, eC_b, cA, cO, cN, sSk, sSq, sI, sL, sR, sInc, sF, sFO, sAI, sAZ, sAO, sX, sXp, sIf, sCut, sSqs, sSw, sRt, sRz_g, is01_b, is01_0, is01_1, sRv, sBk, sCt, sCp, lset, lclr, lcut, lini, lx, Value.category, ixOf, b2i_0, b2i_1, show nI 0 = 0 from rfl]
  case h4 =>
    by_cases y0 : 0 < y
    · have yn : ¬ y = 0 := by omega
      have md : x % y < y := Nat.mod_lt _ y0
      simp only [y0, decide_true, if_true]
      simp [eV, eI, eL, eR, e1, e2, eDI, eDL, eFI, eFL, eFR, eAI, eAZ, eAR, eLen, aN, aC, xV, xS, eX, eIf, eC_b, cA, cO, cN, sSk, sSq, sI, sL, sR, sInc, sF, sFO, sAI, sAZ, sAO, sX, sXp, sIf, sCut, sSqs, sSw, sRt, sRz_g, is01_b, is01_0, is01_1, sRv, sBk, sCt, sCp, lset, lclr, lcut, lini, lx, Value.category, ixOf, b2i_0, b2i_1, ey, yn, nI_rem hx y0 hy]
      refine hX _ _ _ (by rw [hz]; exact md) ⟨y, x % y, rfl, hy, by omega, ?_, rfl, rfl⟩
      rw [← hg, Nat.gcd_comm y, ← Nat.gcd_rec, Nat.gcd_comm]
    · have yn : y = 0 := by omega
      subst yn
      rw [Nat.gcd_zero_right] at hg
      subst hg
      have l0 : (nI (Nat.gcd a u) = 0) = False := by rw [L_eq0 (by omega)]; simp; omega
      simp only [y0, decide_false, Bool.false_eq_true, if_false]
      simp [eV, eI, eL, eR, e1, e2, eDI, eDL, eFI, eFL, eFR, eAI, eAZ, eAR, eLen, aN, aC, xV, xS, eX, eIf, eC_b, cA, cO, cN, sSk, sSq, sI, sL, sR, sInc, sF, sFO, sAI, sAZ, sAO, sX, sXp, sIf, sCut, sSqs, sSw, sRt, sRz_g, is01_b, is01_0, is01_1, sRv, sBk, sCt, sCp, lset, lclr, lcut, lini, lx, Value.category, ixOf, b2i_0, b2i_1]
      by_cases c : up = 0
      · simp [c] at h ⊢
        exact ⟨by rw [L_eq0 (by omega)]; omega, h⟩
      · simp [c] at h ⊢
        exact ⟨by rw [L_eq0 (by omega)]; omega, h⟩
/-! factorials and powers -/
def facN : Nat → Nat
  | 0 => 1
  | n + 1 => facN n * (n + 1)
theorem s_R_factorial (scr : List Int32) (s : MS) {n : Nat} (hn : n ≤ 6) (Q : Option Value → HV → Prop) (h : Q (some (.int (nI (facN n)))) (hp scr s)) : X_R_factorial [.int (nI n)] (hp scr s) Q := by
  simp [X_R_factorial, B_R_factorial, eV, eI, eL, eR, e1, e2, eDI, eDL, eFI, eFL, eFR, eAI, eAZ, eAR, eLen, aN, aC, xV, xS, eX, eIf, eC_b, cA, cO, cN, sSk, sSq, sI, sL, sR, sInc, sF, sFO, sAI, sAZ, sAO, sX, sXp, sIf, sCut, sSqs, sSw, sRt, sRz_g, is01_b, is01_0, is01_1, sRv, sBk, sCt, sCp, lset, lclr, lcut, lini, lx, Value.category, ixOf, b2i_0, b2i_1]
  refine lp_ind (fun z ls h => ∃ k, z = n + 1 - k ∧ k ≤ n + 2 ∧ 1 ≤ k ∧ (k = 1 ∨ k ≤ n) ∧ ls = [.int (nI n), .int (nI (facN k)), .int (nI (k + 1))] ∧ h = hp scr s) ?_ ⟨1, rfl, by omega, by omega, Or.inl rfl, rfl, rfl⟩
  rintro z ls h' ⟨k, hz, hk, hk1, hk2, rfl, rfl⟩ X hX
  refine cX (t := decide (k + 1 ≤ n)) (h' := hp scr s) ?h1 ?h2
  case h1 =>
    intro K
    have : (nI (k + 1) ≤ nI n) = (k + 1 ≤ n) := propext (nI_leI (by omega) (by omega))
    simp [eV, eI, eL, eR, e1, e2, eDI, eDL, eFI, eFL, eFR, eAI, eAZ, eAR, eLen, aN, aC, xV, xS, eX, eIf, eC_b, cA, cO, cN, sSk, sSq, sI, sL, sR, sInc, sF, sFO, sAI, sAZ, sAO, sX, sXp, sIf, sCut, sSqs, sSw, sRt, sRz_g, is01_b, is01_0, is01_1, sRv, sBk, sCt, sCp, lset, lclr, lcut, lini, lx, Value.category, ixOf, b2i_0, b2i_1, this]
  case h2 =>
    by_cases hlt : k + 1 ≤ n
    · simp only [hlt, decide_true, if_true]
      simp [eV, eI, eL, eR, e1, e2, eDI, eDL, eFI, eFL, eFR, eAI, eAZ, eAR, eLen, aN, aC, xV, xS, eX, eIf, eC_b, cA, cO, cN, sSk, sSq, sI, sL, sR, sInc, sF, sFO, sAI, sAZ, sAO, sX, sXp, sIf, sCut, sSqs, sSw, sRt, sRz_g, is01_b, is01_0, is01_1, sRv, sBk, sCt, sCp, lset, lclr, lcut, lini, lx, Value.category, ixOf, b2i_0, b2i_1, nI_mul, L_p1]
      exact hX _ _ _ (by rw [hz]; omega) ⟨k + 1, rfl, by omega, by omega, Or.inr hlt, rfl, rfl⟩
    · simp only [hlt, decide_false, Bool.false_eq_true, if_false]
      simp [eV, eI, eL, eR, e1, e2, eDI, eDL, eFI, eFL, eFR, eAI, eAZ, eAR, eLen, aN, aC, xV, xS, eX, eIf, eC_b, cA, cO, cN, sSk, sSq, sI, sL, sR, sInc, sF, sFO, sAI, sAZ, sAO, sX, sXp, sIf, sCut, sSqs, sSw, sRt, sRz_g, is01_b, is01_0, is01_1, sRv, sBk, sCt, sCp, lset, lclr, lcut, lini, lx, Value.category, ixOf, b2i_0, b2i_1]
      have e : facN k = facN n := by
        rcases hk2 with rfl | q
        · rcases (show n = 0 ∨ n = 1 by omega) with rfl | rfl <;> rfl
        · rw [show k = n by omega]
      rw [e]
      exact h
theorem s_R_power (scr : List Int32) (s : MS) (b : Nat) {e : Nat} (he : e < 1000) (Q : Option Value → HV → Prop) (h : Q (some (.int (nI (b ^ e)))) (hp scr s)) : X_R_power [.int (nI b), .int (nI e)] (hp scr s) Q := by
  simp [X_R_power, B_R_power, eV, eI, eL, eR, e1, e2, eDI, eDL, eFI, eFL, eFR, eAI, eAZ, eAR, eLen, aN, aC, xV, xS, eX, eIf, eC_b, cA, cO, cN, sSk, sSq, sI, sL, sR, sInc, sF, sFO, sAI, sAZ, sAO, sX, sXp, sIf, sCut, sSqs, sSw, sRt, sRz_g, is01_b, is01_0, is01_1, sRv, sBk, sCt, sCp, lset, lclr, lcut, lini, lx, Value.category, ixOf, b2i_0, b2i_1]
  refine lp_ind (fun z ls h => ∃ k, z = e - k ∧ k ≤ e ∧ ls = [.int (nI b), .int (nI e), .int (nI (b ^ k)), .int (nI k)] ∧ h = hp scr s) ?_ ⟨0, rfl, by omega, rfl, rfl⟩
  rintro z ls h' ⟨k, hz, hk, rfl, rfl⟩ X hX
  refine cX (t := decide (k < e)) (h' := hp scr s) ?h1 ?h2
  case h1 =>
    intro K
    simp [eV, eI, eL, eR, e1, e2, eDI, eDL, eFI, eFL, eFR, eAI, eAZ, eAR, eLen, aN, aC, xV, xS, eX, eIf, eC_b, cA, cO, cN, sSk, sSq, sI, sL, sR, sInc, sF, sFO, sAI, sAZ, sAO, sX, sXp, sIf, sCut, sSqs, sSw, sRt, sRz_g, is01_b, is01_0, is01_1, sRv, sBk, sCt, sCp, lset, lclr, lcut, lini, lx, Value.category, ixOf, b2i_0, b2i_1]
    simp (disch := omega) only [LIT, L_0le, L_0lt, L_0eq, L_eq0, L_le0, L_lt0, L_1eq, L_eq1, L_1le, L_1lt, L_lt1, L_le1, L_p1, nI_ltI, nI_leI, nI_eq, nI_add, nI_clamp]
  case h2 =>
    by_cases hlt : k < e
    · simp only [hlt, decide_true, if_true]
      simp [eV, eI, eL, eR, e1, e2, eDI, eDL, eFI, eFL, eFR, eAI, eAZ, eAR, eLen, aN, aC, xV, xS, eX, eIf, eC_b, cA, cO, cN, sSk, sSq, sI, sL, sR, sInc, sF, sFO, sAI, sAZ, sAO, sX, sXp, sIf, sCut, sSqs, sSw, sRt, sRz_g, is01_b, is01_0, is01_1, sRv, sBk, sCt, sCp, lset, lclr, lcut, lini, lx, Value.category, ixOf, b2i_0, b2i_1, nI_mul, L_p1]
      exact hX _ _ _ (by rw [hz]; omega) ⟨k + 1, rfl, hlt, by rw [Nat.pow_succ], rfl⟩
    · have : k = e := by omega
      subst this
      simp only [hlt, decide_false, Bool.false_eq_true, if_false]
      simp [eV, eI, eL, eR, e1, e2, eDI, eDL, eFI, eFL, eFR, eAI, eAZ, eAR, eLen, aN, aC, xV, xS, eX, eIf, eC_b, cA, cO, cN, sSk, sSq, sI, sL, sR, sInc, sF, sFO, sAI, sAZ, sAO, sX, sXp, sIf, sCut, sSqs, sSw, sRt, sRz_g, is01_b, is01_0, is01_1, sRv, sBk, sCt, sCp, lset, lclr, lcut, lini, lx, Value.category, ixOf, b2i_0, b2i_1]
      exact h
theorem fac0 (scr : List Int32) (s : MS) : hk (hp scr s) 0 = some 20 ∧ hn (hp scr s) 0 = some 7 ∧ ∀ k, k < 7 → hg (hp scr s) 0 k = some (.int (nI (facN k))) := by
  refine ⟨rfl, rfl, fun k hk => ?_⟩
  rcases (show k = 0 ∨ k = 1 ∨ k = 2 ∨ k = 3 ∨ k = 4 ∨ k = 5 ∨ k = 6 by omega) with rfl | rfl | rfl | rfl | rfl | rfl | rfl <;> rfl
