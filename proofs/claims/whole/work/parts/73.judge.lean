theorem isI_nat {P : PC} (hP : okP P) {i : Nat} (hi : i < 2 ^ 31) : isI P (nI i) = decide (i < P.1) := by
  have h16 := hP.1
  rw [← isI_has hP]
  have a : (0 ≤ nI i) = True := L_0le hi
  have b : (nI i < nI P.1) = (i < P.1) := propext (nI_ltI hi (by omega))
  simp only [a, b]
  simp
/-- one command, from a row on -/
def jOne (P : PC) (w : Row) (d : Nat) : Bool × Row :=
  if d / 10000 = 1 then (if decide (d / 100 % 100 = 0) && mayS 2 (nI (d % 100)) then (true, fset w (16 + 2) (nI (d % 100))) else (false, w))
  else if d / 10000 = 2 then (if decide (d / 100 % 100 = 0) && mayS 1 (nI (d % 100)) then (true, fset w (16 + 1) (nI (d % 100))) else (false, w))
  else if d / 10000 = 3 then (if decide (d / 100 % 100 = 0) && mayS 0 (nI (d % 100)) then (true, fset w (16 + 0) (nI (d % 100))) else (false, w))
  else if d / 10000 = 4 then (decide (d / 100 % 100 < P.1) && decide (d % 100 < P.1) && pDep (fol P w no) (d / 100 % 100) (d % 100), w)
  else if d / 10000 = 5 then (decide (d / 100 % 100 < P.1) && decide (nI (d % 100) = b2i (kpf (chs P w no).1 (d / 100 % 100))), w)
  else if d / 10000 = 6 then (decide (d / 100 % 100 = 0) && decide (nI (d % 100) = nI (costP P) - (chs P w no).2.2), w)
  else (false, w)
theorem jOne_ok {P : PC} {w : Row} (d : Nat) (ok : okRow w) : okRow (jOne P w d).2 := by
  unfold jOne
  split
  · split
    · next h => rw [Bool.and_eq_true] at h; exact okRow_set (by omega) h.2 ok
    · exact ok
  · split
    · split
      · next h => rw [Bool.and_eq_true] at h; exact okRow_set (by omega) h.2 ok
      · exact ok
    · split
      · split
        · next h => rw [Bool.and_eq_true] at h; exact okRow_set (by omega) h.2 ok
        · exact ok
      · repeat' split
        all_goals exact ok
theorem s_PL_isRight {P : PC} (scr : List Int32) {s : MS} (hP : okP P) (hm : mC P 6 s) {w : Row} (ok : okRow w) (hw : mRw 22 w s) {d : Nat} (hd : d < 100000) (Q : Option Value → HV → Prop) (h : ∀ s', Fr FB s s' → mRw 22 (jOne P w d).2 s' → Q (some (.int (b2i (jOne P w d).1))) (hp scr s')) : X_PL_isRight [.ref 2, .int (nI d)] (hp scr s) Q := by
  have h16 := hP.1
  have q1 : nI d / 10000 = nI (d / 10000) := by rw [show (10000 : Int32) = nI 10000 from rfl, pk_div (by omega) (by decide) (by decide)]
  have q2 : nI d / 100 - nI d / 100 / 100 * 100 = nI (d / 100 % 100) := by rw [show (100 : Int32) = nI 100 from rfl, pk_div (by omega) (by decide) (by decide), pk_rem (by omega) (by decide) (by decide)]
  have q3 : nI d - nI d / 100 * 100 = nI (d % 100) := by rw [show (100 : Int32) = nI 100 from rfl, pk_rem (by omega) (by decide) (by decide)]
  have s10 : d / 10000 < 10 := by omega
  have i100 : d / 100 % 100 < 100 := by omega
  have j100 : d % 100 < 100 := by omega
  unfold jOne at h
  generalize d / 10000 = S at *
  generalize d / 100 % 100 = i at *
  generalize d % 100 = j at *
  simp [X_PL_isRight, B_PL_isRight, lini, lx, Value.category]
  refine sSq_I1 (v := nI S) (h' := hp scr s) ?h1 (by simp) ?h2
  case h1 =>
    intro K hK
    simp [eV, eI, eL, eR, e1, e2, eDI, eDL, eFI, eFL, eFR, eAI, eAZ, eAR, eLen, aN, aC, xV, xS, eX, eIf, eC_b, cA, cO, cN, sSk, sSq, sI, sL, sR, sInc, sF, sFO, sAI, sAZ, sAO, sX, sXp, sIf, sCut, sSqs, sSw, sRt, sRz_g, is01_b, is01_0, is01_1, sRv, sBk, sCt, sCp, lset, lclr, lcut, lini, lx, Value.category, ixOf, b2i_0, b2i_1, q1]
    exact hK
  refine sSq_I1 (v := nI i) (h' := hp scr s) ?h3 (by simp [lset]) ?h4
  case h3 =>
    intro K hK
    simp only [eV, eI, eL, eR, e1, e2, eDI, eDL, eFI, eFL, eFR, eAI, eAZ, eAR, eLen, aN, aC, xV, xS, eX, eIf, eC_b, cA, cO, cN, sSk, sSq, sI, sL, sR, sInc, sF, sFO, sAI, sAZ, sAO, sX, sXp, sIf, sCut, sSqs, sSw, sRt, sRz_g, is01_b, is01_0, is01_1, sRv, sBk, sCt, sCp, lset, lclr, lcut, lini, lx, Value.category, ixOf, b2i_0, b2i_1, List.getElem?_cons_succ, List.getElem?_cons_zero]
    simp [q2]
    exact hK
  refine sSq_I1 (v := nI j) (h' := hp scr s) ?h5 (by simp [lset]) ?h6
  case h5 =>
    intro K hK
    simp only [eV, eI, eL, eR, e1, e2, eDI, eDL, eFI, eFL, eFR, eAI, eAZ, eAR, eLen, aN, aC, xV, xS, eX, eIf, eC_b, cA, cO, cN, sSk, sSq, sI, sL, sR, sInc, sF, sFO, sAI, sAZ, sAO, sX, sXp, sIf, sCut, sSqs, sSw, sRt, sRz_g, is01_b, is01_0, is01_1, sRv, sBk, sCt, sCp, lset, lclr, lcut, lini, lx, Value.category, ixOf, b2i_0, b2i_1, List.getElem?_cons_succ, List.getElem?_cons_zero]
    simp [q3]
    exact hK
  have i0 : (nI i = 0) = (i = 0) := L_eq0 (by omega)
  simp only [lset, lclr, Value.category, if_false, Nat.reduceEqDiff]
  rw [sSq_if (t := decide (1 ≤ S) && decide (S ≤ 3)) (by
    intro K
    have a : (1 ≤ nI S) = (1 ≤ S) := L_1le (by omega)
    have b : (nI S ≤ 3) = (S ≤ 3) := by rw [show (3 : Int32) = nI 3 from rfl]; exact propext (nI_leI (by omega) (by decide))
    simp [eV, eI, eL, eR, e1, e2, eDI, eDL, eFI, eFL, eFR, eAI, eAZ, eAR, eLen, aN, aC, xV, xS, eX, eIf, eC_b, cA, cO, cN, sSk, sSq, sI, sL, sR, sInc, sF, sFO, sAI, sAZ, sAO, sX, sXp, sIf, sCut, sSqs, sSw, sRt, sRz_g, is01_b, is01_0, is01_1, sRv, sBk, sCt, sCp, lset, lclr, lcut, lini, lx, Value.category, ixOf, b2i_0, b2i_1, a, b]
    by_cases c : 1 ≤ S <;> simp [c])]
  by_cases c13 : 1 ≤ S ∧ S ≤ 3
  · have e : (decide (1 ≤ S) && decide (S ≤ 3)) = true := by simp [c13]
    rw [e]
    simp only [if_true]
    obtain ⟨n, hn, hS, h⟩ : ∃ n : Nat, n ≤ 2 ∧ (S = 1 ∧ n = 2 ∨ S = 2 ∧ n = 1 ∨ S = 3 ∧ n = 0) ∧ (∀ s', Fr FB s s' → mRw 22 (if decide (i = 0) && mayS n (nI j) then (true, fset w (16 + n) (nI j)) else (false, w)).2 s' → Q (some (.int (b2i (if decide (i = 0) && mayS n (nI j) then (true, fset w (16 + n) (nI j)) else (false, w)).1))) (hp scr s')) := by
      rcases (show S = 1 ∨ S = 2 ∨ S = 3 by omega) with rfl | rfl | rfl
      · simp only [if_true] at h
        exact ⟨2, by omega, by omega, h⟩
      · simp only [Nat.reduceEqDiff, if_true, if_false] at h
        exact ⟨1, by omega, by omega, h⟩
      · simp only [Nat.reduceEqDiff, if_true, if_false] at h
        exact ⟨0, by omega, by omega, h⟩
    refine sSq_I1 (v := nI (16 + n)) (h' := hp scr s) ?k1 (by simp) ?k2
    case k1 =>
      intro K hK
      rcases hS with ⟨rfl, rfl⟩ | ⟨rfl, rfl⟩ | ⟨rfl, rfl⟩
      · simp [eV, eI, eL, eR, e1, e2, eDI, eDL, eFI, eFL, eFR, eAI, eAZ, eAR, eLen, aN, aC, xV, xS, eX, eIf, eC_b, cA, cO, cN, sSk, sSq, sI, sL, sR, sInc, sF, sFO, sAI, sAZ, sAO, sX, sXp, sIf, sCut, sSqs, sSw, sRt, sRz_g, is01_b, is01_0, is01_1, sRv, sBk, sCt, sCp, lset, lclr, lcut, lini, lx, Value.category, ixOf, b2i_0, b2i_1, show nI 1 = 1 from rfl]; exact hK
      · simp [eV, eI, eL, eR, e1, e2, eDI, eDL, eFI, eFL, eFR, eAI, eAZ, eAR, eLen, aN, aC, xV, xS, eX, eIf, eC_b, cA, cO, cN, sSk, sSq, sI, sL, sR, sInc, sF, sFO, sAI, sAZ, sAO, sX, sXp, sIf, sCut, sSqs, sSw, sRt, sRz_g, is01_b, is01_0, is01_1, sRv, sBk, sCt, sCp, lset, lclr, lcut, lini, lx, Value.category, ixOf, b2i_0, b2i_1, show nI 2 = 2 from rfl]; exact hK
      · simp [eV, eI, eL, eR, e1, e2, eDI, eDL, eFI, eFL, eFR, eAI, eAZ, eAR, eLen, aN, aC, xV, xS, eX, eIf, eC_b, cA, cO, cN, sSk, sSq, sI, sL, sR, sInc, sF, sFO, sAI, sAZ, sAO, sX, sXp, sIf, sCut, sSqs, sSw, sRt, sRz_g, is01_b, is01_0, is01_1, sRv, sBk, sCt, sCp, lset, lclr, lcut, lini, lx, Value.category, ixOf, b2i_0, b2i_1, show nI 3 = 3 from rfl]; exact hK
    rw [sSq_if (t := !(decide (i = 0) && mayS n (nI j))) (by
      intro K
      simp [eV, eI, eL, eR, e1, e2, eDI, eDL, eFI, eFL, eFR, eAI, eAZ, eAR, eLen, aN, aC, xV, xS, eX, eIf, eC_b, cA, cO, cN, sSk, sSq, sI, sL, sR, sInc, sF, sFO, sAI, sAZ, sAO, sX, sXp, sIf, sCut, sSqs, sSw, sRt, sRz_g, is01_b, is01_0, is01_1, sRv, sBk, sCt, sCp, lset, lclr, lcut, lini, lx, Value.category, ixOf, b2i_0, b2i_1, i0, s_PL_settingAllows scr s hn, nb]
      by_cases c : i = 0 <;> simp [c])]
    cases hb : (decide (i = 0) && mayS n (nI j)) with
    | false =>
      rw [hb] at h
      simp [eV, eI, eL, eR, e1, e2, eDI, eDL, eFI, eFL, eFR, eAI, eAZ, eAR, eLen, aN, aC, xV, xS, eX, eIf, eC_b, cA, cO, cN, sSk, sSq, sI, sL, sR, sInc, sF, sFO, sAI, sAZ, sAO, sX, sXp, sIf, sCut, sSqs, sSw, sRt, sRz_g, is01_b, is01_0, is01_1, sRv, sBk, sCt, sCp, lset, lclr, lcut, lini, lx, Value.category, ixOf, b2i_0, b2i_1]
      simpa [b2i] using h s Fr.rf hw
    | true =>
      rw [hb] at h
      simp [eV, eI, eL, eR, e1, e2, eDI, eDL, eFI, eFL, eFR, eAI, eAZ, eAR, eLen, aN, aC, xV, xS, eX, eIf, eC_b, cA, cO, cN, sSk, sSq, sI, sL, sR, sInc, sF, sFO, sAI, sAZ, sAO, sX, sXp, sIf, sCut, sSqs, sSw, sRt, sRz_g, is01_b, is01_0, is01_1, sRv, sBk, sCt, sCp, lset, lclr, lcut, lini, lx, Value.category, ixOf, b2i_0, b2i_1, T_PL, G_row, ix80 (show 16 + n < 19 by omega) (by decide)]
      have := h (up s 22 (16 + n) (nI j)) (Fr.rf.up _ (by omega)) (mRw_up hw fun k => by simp [up_get])
      simpa [b2i] using this
  · have e : (decide (1 ≤ S) && decide (S ≤ 3)) = false := by
      by_cases c : 1 ≤ S
      · simp [c]; omega
      · simp [c]
    rw [e]
    rw [if_neg (by omega), if_neg (by omega), if_neg (by omega)] at h
    simp only [Bool.false_eq_true, if_false, sSk_eq]
    have hb := T_Pack (b := 48) (Or.inr rfl)
    have gb := G_Pack (b := 48) (Or.inr rfl)
    refine sSq_S1 (ls' := [.ref 2, .int (nI d), .int (nI S), .int (nI i), .int (nI j), .null]) (scr := scr) (I := fun s' => Fr FB s s' ∧ mRw 22 w s' ∧ mFD (fol P w no) 55 56 P.1 s' ∧ mPk P 48 (rW w) (chs P w no) s') ?k3 ?k4
    case k3 =>
      intro kn hkn
      simp [eV, eI, eL, eR, e1, e2, eDI, eDL, eFI, eFL, eFR, eAI, eAZ, eAR, eLen, aN, aC, xV, xS, eX, eIf, eC_b, cA, cO, cN, sSk, sSq, sI, sL, sR, sInc, sF, sFO, sAI, sAZ, sAO, sX, sXp, sIf, sCut, sSqs, sSw, sRt, sRz_g, is01_b, is01_0, is01_1, sRv, sBk, sCt, sCp, lset, lclr, lcut, lini, lx, Value.category, ixOf, b2i_0, b2i_1, T_PL, hb]
      exact t_chooseT scr hP hm (by omega) ok hw (om := 0) (out := no) (fun k hk => b_0 k) (by simp [no]) (by simp [no]) _ fun s1 g1 g2 g3 => ⟨rfl, hkn s1 ⟨g1.wk fun r k z => by omega, mRw_fr g1 (by omega) hw, g2, g3⟩⟩
    case k4 =>
      rintro s1 ⟨g1, g2, g3, g4⟩
      have m1 : mC P 6 s1 := mC_fr g1 (by omega) (by omega) hm
      have hi := fun Q => t_Code_has scr hP m1 (nI i) Q
      have hj := fun Q => t_Code_has scr hP m1 (nI j) Q
      rw [isI_nat hP (by omega)] at hi hj
      by_cases S4 : S = 4
      · subst S4
        have h := h s1 g1
        simp only [if_true] at h
        have h := h g2
        by_cases ci : i < P.1
        · rw [decide_eq_true ci] at hi h
          by_cases cj : j < P.1
          · rw [decide_eq_true cj] at hj h
            have th := fun Q => t_holds scr s1 (s1.1 56 j) (show i < 32 by omega) Q
            rw [(g3 j cj i (by omega)).2] at th
            simp [eV, eI, eL, eR, e1, e2, eDI, eDL, eFI, eFL, eFR, eAI, eAZ, eAR, eLen, aN, aC, xV, xS, eX, eIf, eC_b, cA, cO, cN, sSk, sSq, sI, sL, sR, sInc, sF, sFO, sAI, sAZ, sAO, sX, sXp, sIf, sCut, sSqs, sSw, sRt, sRz_g, is01_b, is01_0, is01_1, sRv, sBk, sCt, sCp, lset, lclr, lcut, lini, lx, Value.category, ixOf, b2i_0, b2i_1, show nI 4 = 4 from rfl, T_PL, T_Code c6, hi, hj, nb, b2i_t, hb, gb, ixf hP.1 cj, th]
            cases hdp : pDep (fol P w no) i j <;> rw [hdp] at h <;> simpa [b2i] using h
          · rw [decide_eq_false cj] at hj h
            simp [eV, eI, eL, eR, e1, e2, eDI, eDL, eFI, eFL, eFR, eAI, eAZ, eAR, eLen, aN, aC, xV, xS, eX, eIf, eC_b, cA, cO, cN, sSk, sSq, sI, sL, sR, sInc, sF, sFO, sAI, sAZ, sAO, sX, sXp, sIf, sCut, sSqs, sSw, sRt, sRz_g, is01_b, is01_0, is01_1, sRv, sBk, sCt, sCp, lset, lclr, lcut, lini, lx, Value.category, ixOf, b2i_0, b2i_1, show nI 4 = 4 from rfl, T_PL, T_Code c6, hi, hj, nb, b2i_t, b2i_f]
            simpa [b2i] using h
        · rw [decide_eq_false ci] at hi h
          simp [eV, eI, eL, eR, e1, e2, eDI, eDL, eFI, eFL, eFR, eAI, eAZ, eAR, eLen, aN, aC, xV, xS, eX, eIf, eC_b, cA, cO, cN, sSk, sSq, sI, sL, sR, sInc, sF, sFO, sAI, sAZ, sAO, sX, sXp, sIf, sCut, sSqs, sSw, sRt, sRz_g, is01_b, is01_0, is01_1, sRv, sBk, sCt, sCp, lset, lclr, lcut, lini, lx, Value.category, ixOf, b2i_0, b2i_1, show nI 4 = 4 from rfl, T_PL, T_Code c6, hi, hj, nb, b2i_t, b2i_f]
          simpa [b2i] using h
      · by_cases S5 : S = 5
        · subst S5
          have h := h s1 g1
          simp only [Nat.reduceEqDiff, if_true, if_false] at h
          have h := h g2
          by_cases ci : i < P.1
          · rw [decide_eq_true ci] at hi h
            have th := fun Q => t_holds scr s1 (s1.1 48 11) (show i < 32 by omega) Q
            have e11 : bt (s1.1 48 11) i = kpf (chs P w no).1 i := by rw [g4.2.2.1, mS_bit _ (by omega)]; rfl
            rw [e11] at th
            simp [eV, eI, eL, eR, e1, e2, eDI, eDL, eFI, eFL, eFR, eAI, eAZ, eAR, eLen, aN, aC, xV, xS, eX, eIf, eC_b, cA, cO, cN, sSk, sSq, sI, sL, sR, sInc, sF, sFO, sAI, sAZ, sAO, sX, sXp, sIf, sCut, sSqs, sSw, sRt, sRz_g, is01_b, is01_0, is01_1, sRv, sBk, sCt, sCp, lset, lclr, lcut, lini, lx, Value.category, ixOf, b2i_0, b2i_1, show nI 5 = 5 from rfl, T_PL, T_Code c6, hi, nb, b2i_t, hb, th]
            cases hk : kpf (chs P w no).1 i with
            | false =>
              rw [hk] at h
              by_cases cj : nI j = 0 <;> simp [cj, b2i] at h ⊢ <;> exact h
            | true =>
              rw [hk] at h
              by_cases cj : nI j = 1 <;> simp [cj, b2i] at h ⊢ <;> exact h
          · rw [decide_eq_false ci] at hi h
            simp [eV, eI, eL, eR, e1, e2, eDI, eDL, eFI, eFL, eFR, eAI, eAZ, eAR, eLen, aN, aC, xV, xS, eX, eIf, eC_b, cA, cO, cN, sSk, sSq, sI, sL, sR, sInc, sF, sFO, sAI, sAZ, sAO, sX, sXp, sIf, sCut, sSqs, sSw, sRt, sRz_g, is01_b, is01_0, is01_1, sRv, sBk, sCt, sCp, lset, lclr, lcut, lini, lx, Value.category, ixOf, b2i_0, b2i_1, show nI 5 = 5 from rfl, T_PL, T_Code c6, hi, nb, b2i_f]
            simpa [b2i] using h
        · by_cases S6 : S = 6
          · subst S6
            have h := h s1 g1
            simp only [Nat.reduceEqDiff, if_true, if_false] at h
            have h := h g2
            have e13 : s1.1 48 13 = (chs P w no).2.2 := g4.2.2.2.2.1
            simp [eV, eI, eL, eR, e1, e2, eDI, eDL, eFI, eFL, eFR, eAI, eAZ, eAR, eLen, aN, aC, xV, xS, eX, eIf, eC_b, cA, cO, cN, sSk, sSq, sI, sL, sR, sInc, sF, sFO, sAI, sAZ, sAO, sX, sXp, sIf, sCut, sSqs, sSw, sRt, sRz_g, is01_b, is01_0, is01_1, sRv, sBk, sCt, sCp, lset, lclr, lcut, lini, lx, Value.category, ixOf, b2i_0, b2i_1, show nI 6 = 6 from rfl, T_PL, T_Code c6, i0]
            by_cases c0 : i = 0
            · simp [c0]
              refine s_Code_cost scr hP m1 _ ⟨_, rfl, ?_⟩
              simp [T_PL, hb, e13]
              by_cases cj : nI j = nI (costP P) - (chs P w no).2.2 <;> simp [c0, cj, b2i] at h ⊢ <;> exact h
            · simp [c0, b2i] at h ⊢
              exact h
          · rw [if_neg S4, if_neg S5, if_neg S6] at h
            have h := h s1 g1 g2
            have n4 : ¬ nI S = 4 := by rw [show (4 : Int32) = nI 4 from rfl, nI_eq (by omega) (by decide)]; exact S4
            have n5 : ¬ nI S = 5 := by rw [show (5 : Int32) = nI 5 from rfl, nI_eq (by omega) (by decide)]; exact S5
            have n6 : ¬ nI S = 6 := by rw [show (6 : Int32) = nI 6 from rfl, nI_eq (by omega) (by decide)]; exact S6
            simp [eV, eI, eL, eR, e1, e2, eDI, eDL, eFI, eFL, eFR, eAI, eAZ, eAR, eLen, aN, aC, xV, xS, eX, eIf, eC_b, cA, cO, cN, sSk, sSq, sI, sL, sR, sInc, sF, sFO, sAI, sAZ, sAO, sX, sXp, sIf, sCut, sSqs, sSw, sRt, sRz_g, is01_b, is01_0, is01_1, sRv, sBk, sCt, sCp, lset, lclr, lcut, lini, lx, Value.category, ixOf, b2i_0, b2i_1, n4, n5, n6]
            simpa [b2i] using h
