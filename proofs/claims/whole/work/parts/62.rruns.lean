/-! the reference's runs -/
def mRr (M : RS) (s : MS) : Prop := (∀ a, a < 16 → s.1 86 a = M.1 a) ∧ (∀ i, i < 16 → s.1 87 i = M.2.1 i) ∧ s.1 65 37 = M.2.2
abbrev FW : Nat → Nat → Prop := fun r k => r = 86 ∨ r = 87 ∨ (r = 65 ∧ k = 37)
theorem s_R_beginRun (scr : List Int32) {s : MS} {r : Nat} (hr : r = 71 ∨ r = 72) {row : Nat → Int32} (hrow : ∀ k, k < 16 → s.1 r k = row k) (Q : Option Value → HV → Prop)
    (h : ∀ s', Fr FW s s' → mRr (row, fun _ => 0, -9) s' → Q none (hp scr s')) : X_R_beginRun [.ref 65, .ref r] (hp scr s) Q := by
  have r1 : r ≠ 1 := by omega
  simp [X_R_beginRun, B_R_beginRun, eV, eI, eL, eR, e1, e2, eDI, eDL, eFI, eFL, eFR, eAI, eAZ, eAR, eLen, aN, aC, xV, xS, eX, eIf, eC_b, cA, cO, cN, sSk, sSq, sI, sL, sR, sInc, sF, sFO, sAI, sAZ, sAO, sX, sXp, sIf, sCut, sSqs, sSw, sRt, sRz_g, is01_b, is01_0, is01_1, sRv, sBk, sCt, sCp, lset, lclr, lcut, lini, lx, Value.category, ixOf, b2i_0, b2i_1, T_R, U_R]
  refine lp_ind (fun z ls h => ∃ k s', z = 16 - k ∧ k ≤ 16 ∧ ls = [.ref 65, .ref r, .int (nI k)] ∧ h = hp scr s' ∧ Fr FW s s' ∧ (∀ a, a < k → s'.1 86 a = row a ∧ s'.1 87 a = 0) ∧ s'.1 65 37 = -9) ?_ ⟨0, _, rfl, by omega, rfl, rfl, Fr.rf.up _ (by omega), fun a ha => by omega, by simp [up_get]⟩
  rintro z ls h' ⟨k, s1, hz, hk, rfl, rfl, g1, g2, g3⟩ X hX
  refine cX (t := decide (k < 16)) (h' := hp scr s1) ?h1 ?h2
  case h1 =>
    intro K
    simp [eV, eI, eL, eR, e1, e2, eDI, eDL, eFI, eFL, eFR, eAI, eAZ, eAR, eLen, aN, aC, xV, xS, eX, eIf, eC_b, cA, cO, cN, sSk, sSq, sI, sL, sR, sInc, sF, sFO, sAI, sAZ, sAO, sX, sXp, sIf, sCut, sSqs, sSw, sRt, sRz_g, is01_b, is01_0, is01_1, sRv, sBk, sCt, sCp, lset, lclr, lcut, lini, lx, Value.category, ixOf, b2i_0, b2i_1]
    simp (disch := omega) only [LIT, L_0le, L_0lt, L_0eq, L_eq0, L_le0, L_lt0, L_1eq, L_eq1, L_1le, L_1lt, L_lt1, L_le1, L_p1, nI_ltI, nI_leI, nI_eq, nI_add, nI_clamp]
  case h2 =>
    by_cases hlt : k < 16
    · have e : s1.1 r k = row k := by rw [g1.2 _ _ (by omega), hrow k hlt]
      have hgk := (rowf hr scr s1).2.2 k (by omega)
      simp only [hlt, decide_true, if_true]
      simp [eV, eI, eL, eR, e1, e2, eDI, eDL, eFI, eFL, eFR, eAI, eAZ, eAR, eLen, aN, aC, xV, xS, eX, eIf, eC_b, cA, cO, cN, sSk, sSq, sI, sL, sR, sInc, sF, sFO, sAI, sAZ, sAO, sX, sXp, sIf, sCut, sSqs, sSw, sRt, sRz_g, is01_b, is01_0, is01_1, sRv, sBk, sCt, sCp, lset, lclr, lcut, lini, lx, Value.category, ixOf, b2i_0, b2i_1, T_R, G_R, ix80 hlt (by decide), rowf hr scr s1, r1, hgk, e, L_p1]
      refine hX _ _ _ (by rw [hz]; omega) ⟨k + 1, _, rfl, hlt, rfl, rfl, (g1.up _ (by omega)).up _ (by omega), fun a ha => ?_, by simp [up_get, g3]⟩
      by_cases c : a = k
      · subst c; simp [up_get]
      · simp [up_get, c]; exact g2 a (by omega)
    · have : k = 16 := by omega
      subst this
      simp only [hlt, decide_false, Bool.false_eq_true, if_false]
      exact h s1 g1 ⟨fun a ha => (g2 a ha).1, fun a ha => (g2 a ha).2, g3⟩
theorem s_R_doOne {P : PC} (scr : List Int32) {s : MS} (hP : okP P) (hm : mR P s) {r : Nat} (hr : r = 71 ∨ r = 72) {base : Nat} (hb : base ≤ 8) (hbr : s.1 r 16 = nI base) {M : RS} (hM : mRr M s) {i : Nat} (hi : i < P.1) (hz : M.2.1 i = 0) (Q : Option Value → HV → Prop)
    (h : ∀ s', Fr FW s s' → mRr (pOne P base M i) s' → Q none (hp scr s')) : X_R_doOne [.ref 65, .ref r, .int (nI i)] (hp scr s) Q := by
  have h16 := hP.1
  have h3 := hP.2 i hi
  unfold okI at h3
  obtain ⟨g1, g2, g3, g4⟩ := hm.2 i hi
  obtain ⟨v1, v2, v3⟩ := hM
  have k7 : pK P i = 0 ∨ pK P i = 1 ∨ pK P i = 2 ∨ pK P i = 3 ∨ pK P i = 4 ∨ pK P i = 5 ∨ pK P i = 6 := by omega
  have i16 : i < 16 := by omega
  have sb := fun Q => s_R_isBinary scr hP hm hi Q
  have bin : ∀ x, x = (pOne P base M i).2.1 i → (pOne P base M i).1 = M.1 → (pOne P base M i).2.2 = M.2.2 → Q none (hp scr (up s 87 i x)) := by
    intro x hx e1 e2
    refine h _ (Fr.rf.up _ (by omega)) ⟨by rw [e1]; exact up_oth (by decide) v1, fun a ha => ?_, by simp [up_get, v3, e2]⟩
    simp only [up_get, true_and]
    split
    · next q => rw [q, hx]
    · next q => rw [pOne_zero q]; exact v2 a ha
  rcases k7 with k | k | k | k | k | k | k
  · have hme : pMem P i = true := by unfold pMem; simp [k]
    have al := pAddr_lt hP hi hme hb
    obtain ⟨-, u1, u2⟩ := memf hP hi hme
    have g1' : s.1 67 i = 0 := by rw [g1, k]; rfl
    have g3' := g3 (by omega)
    have nb0 : pBin P i = false := by unfold pBin; simp [k]
    rw [nb0] at sb
    have sa := fun b Q => s_R_addressOf scr hr (b := b) u1 hbr Q
    have ea : (if pa P i = 0 then pb P i else base + pb P i) = pAddr P base i := rfl
    simp [X_R_doOne, B_R_doOne, eV, eI, eL, eR, e1, e2, eDI, eDL, eFI, eFL, eFR, eAI, eAZ, eAR, eLen, aN, aC, xV, xS, eX, eIf, eC_b, cA, cO, cN, sSk, sSq, sI, sL, sR, sInc, sF, sFO, sAI, sAZ, sAO, sX, sXp, sIf, sCut, sSqs, sSw, sRt, sRz_g, is01_b, is01_0, is01_1, sRv, sBk, sCt, sCp, lset, lclr, lcut, lini, lx, Value.category, ixOf, b2i_0, b2i_1, T_R, G_R, ixf hP.1 hi, g1', g2, g3', sb, sa, ea, ix80 al (by decide), v1 _ al]
    exact bin _ (by simp [pOne, k, fset]) (by simp [pOne, k]) (by simp [pOne, k])
  · have g1' : s.1 67 i = 1 := by rw [g1, k]; rfl
    have nb0 : pBin P i = false := by unfold pBin; simp [k]
    rw [nb0] at sb
    simp [X_R_doOne, B_R_doOne, eV, eI, eL, eR, e1, e2, eDI, eDL, eFI, eFL, eFR, eAI, eAZ, eAR, eLen, aN, aC, xV, xS, eX, eIf, eC_b, cA, cO, cN, sSk, sSq, sI, sL, sR, sInc, sF, sFO, sAI, sAZ, sAO, sX, sXp, sIf, sCut, sSqs, sSw, sRt, sRz_g, is01_b, is01_0, is01_1, sRv, sBk, sCt, sCp, lset, lclr, lcut, lini, lx, Value.category, ixOf, b2i_0, b2i_1, T_R, G_R, ixf hP.1 hi, g1', g2, sb]
    exact bin _ (by simp [pOne, k, fset]) (by simp [pOne, k]) (by simp [pOne, k])
  · have g1' : s.1 67 i = 2 := by rw [g1, k]; rfl
    have nb0 : pBin P i = true := by unfold pBin; simp [k]
    obtain ⟨l1, l2, -, -⟩ := opLR hP hi (by omega)
    rw [nb0] at sb
    simp [X_R_doOne, B_R_doOne, eV, eI, eL, eR, e1, e2, eDI, eDL, eFI, eFL, eFR, eAI, eAZ, eAR, eLen, aN, aC, xV, xS, eX, eIf, eC_b, cA, cO, cN, sSk, sSq, sI, sL, sR, sInc, sF, sFO, sAI, sAZ, sAO, sX, sXp, sIf, sCut, sSqs, sSw, sRt, sRz_g, is01_b, is01_0, is01_1, sRv, sBk, sCt, sCp, lset, lclr, lcut, lini, lx, Value.category, ixOf, b2i_0, b2i_1, T_R, G_R, ixf hP.1 hi, ixf hP.1 l1, ixf hP.1 l2, g1', g2, g3 (by omega), sb, v2 _ (show pa P i < 16 by omega), v2 _ (show pb P i < 16 by omega)]
    exact bin _ (by simp [pOne, k, fset]) (by simp [pOne, k]) (by simp [pOne, k])
  · have g1' : s.1 67 i = 3 := by rw [g1, k]; rfl
    have nb0 : pBin P i = true := by unfold pBin; simp [k]
    obtain ⟨l1, l2, -, -⟩ := opLR hP hi (by omega)
    rw [nb0] at sb
    simp [X_R_doOne, B_R_doOne, eV, eI, eL, eR, e1, e2, eDI, eDL, eFI, eFL, eFR, eAI, eAZ, eAR, eLen, aN, aC, xV, xS, eX, eIf, eC_b, cA, cO, cN, sSk, sSq, sI, sL, sR, sInc, sF, sFO, sAI, sAZ, sAO, sX, sXp, sIf, sCut, sSqs, sSw, sRt, sRz_g, is01_b, is01_0, is01_1, sRv, sBk, sCt, sCp, lset, lclr, lcut, lini, lx, Value.category, ixOf, b2i_0, b2i_1, T_R, G_R, ixf hP.1 hi, ixf hP.1 l1, ixf hP.1 l2, g1', g2, g3 (by omega), sb, v2 _ (show pa P i < 16 by omega), v2 _ (show pb P i < 16 by omega)]
    exact bin _ (by simp [pOne, k, fset]) (by simp [pOne, k]) (by simp [pOne, k])
  · have g1' : s.1 67 i = 4 := by rw [g1, k]; rfl
    have nb0 : pBin P i = true := by unfold pBin; simp [k]
    obtain ⟨l1, l2, -, -⟩ := opLR hP hi (by omega)
    rw [nb0] at sb
    simp [X_R_doOne, B_R_doOne, eV, eI, eL, eR, e1, e2, eDI, eDL, eFI, eFL, eFR, eAI, eAZ, eAR, eLen, aN, aC, xV, xS, eX, eIf, eC_b, cA, cO, cN, sSk, sSq, sI, sL, sR, sInc, sF, sFO, sAI, sAZ, sAO, sX, sXp, sIf, sCut, sSqs, sSw, sRt, sRz_g, is01_b, is01_0, is01_1, sRv, sBk, sCt, sCp, lset, lclr, lcut, lini, lx, Value.category, ixOf, b2i_0, b2i_1, T_R, G_R, ixf hP.1 hi, ixf hP.1 l1, ixf hP.1 l2, g1', g2, g3 (by omega), sb, v2 _ (show pa P i < 16 by omega), v2 _ (show pb P i < 16 by omega)]
    exact bin _ (by simp [pOne, k, fset]) (by simp [pOne, k]) (by simp [pOne, k])
  · have g1' : s.1 67 i = 5 := by rw [g1, k]; rfl
    have nb0 : pBin P i = true := by unfold pBin; simp [k]
    obtain ⟨l1, l2, -, -⟩ := opLR hP hi (by omega)
    rw [nb0] at sb
    simp [X_R_doOne, B_R_doOne, eV, eI, eL, eR, e1, e2, eDI, eDL, eFI, eFL, eFR, eAI, eAZ, eAR, eLen, aN, aC, xV, xS, eX, eIf, eC_b, cA, cO, cN, sSk, sSq, sI, sL, sR, sInc, sF, sFO, sAI, sAZ, sAO, sX, sXp, sIf, sCut, sSqs, sSw, sRt, sRz_g, is01_b, is01_0, is01_1, sRv, sBk, sCt, sCp, lset, lclr, lcut, lini, lx, Value.category, ixOf, b2i_0, b2i_1, T_R, U_R, G_R, ixf hP.1 hi, ixf hP.1 l1, ixf hP.1 l2, g1', g2, g3 (by omega), sb, v2 _ (show pa P i < 16 by omega), v2 _ (show pb P i < 16 by omega), v3]
    by_cases y0 : M.2.1 (pb P i) = 0
    · simp [y0]
      refine h _ ((Fr.rf.up _ (by omega)).up _ (by omega)) ?_
      have e : pOne P base M i = (M.1, M.2.1, nI i) := by simp [pOne, k, y0]
      rw [e]
      refine ⟨up_oth (by decide) (up_oth (by decide) v1), fun a ha => ?_, by simp [up_get]⟩
      simp only [up_get]
      by_cases c : a = i
      · subst c; simp [hz]
      · simp [c, v2 a ha]
    · simp [y0]
      have e : pOne P base M i = (M.1, fset M.2.1 i (M.2.1 (pa P i) / M.2.1 (pb P i)), M.2.2) := by simp [pOne, k, y0]
      refine h _ ((Fr.rf.up _ (by omega)).up _ (by omega)) ?_
      rw [e]
      exact ⟨up_oth (by decide) (up_oth (by decide) v1), up_arr (up_oth (by decide) v2), by simp [up_get]⟩
  · have hme : pMem P i = true := by unfold pMem; simp [k]
    have al := pAddr_lt hP hi hme hb
    obtain ⟨-, u1, u2⟩ := memf hP hi hme
    obtain ⟨l1, -⟩ := opS hP hi k
    have g1' : s.1 67 i = 6 := by rw [g1, k]; rfl
    have g3' := g3 (by omega)
    have g4' := g4 k
    have nb0 : pBin P i = false := by unfold pBin; simp [k]
    rw [nb0] at sb
    have sa := fun b Q => s_R_addressOf scr hr (b := b) u1 hbr Q
    have ea : (if pa P i = 0 then pb P i else base + pb P i) = pAddr P base i := rfl
    have e : pOne P base M i = (fset M.1 (pAddr P base i) (M.2.1 (pc P i)), M.2.1, M.2.2) := by simp [pOne, k]
    rw [e] at h
    simp [X_R_doOne, B_R_doOne, eV, eI, eL, eR, e1, e2, eDI, eDL, eFI, eFL, eFR, eAI, eAZ, eAR, eLen, aN, aC, xV, xS, eX, eIf, eC_b, cA, cO, cN, sSk, sSq, sI, sL, sR, sInc, sF, sFO, sAI, sAZ, sAO, sX, sXp, sIf, sCut, sSqs, sSw, sRt, sRz_g, is01_b, is01_0, is01_1, sRv, sBk, sCt, sCp, lset, lclr, lcut, lini, lx, Value.category, ixOf, b2i_0, b2i_1, T_R, G_R, ixf hP.1 hi, ixf hP.1 l1, g1', g2, g3', g4', sb, sa, ea, ix80 al (by decide), v2 _ (show pc P i < 16 by omega)]
    exact h _ (Fr.rf.up _ (by omega)) ⟨up_arr v1, up_oth (by decide) v2, by simp [up_get, v3]⟩
theorem s_R_run {P : PC} (scr : List Int32) {s : MS} (hP : okP P) (hm : mR P s) {r : Nat} (hr : r = 71 ∨ r = 72) {base : Nat} (h8 : base ≤ 8) (hb : s.1 r 16 = nI base) {row : Nat → Int32} (hrow : ∀ k, k < 16 → s.1 r k = row k) (idle : Int32) (Q : Option Value → HV → Prop)
    (h : ∀ s', Fr FW s s' → mRr (pRun P base row (fl (idl idle) P.1)) s' → Q none (hp scr s')) : X_R_run [.ref 65, .ref r, .int idle] (hp scr s) Q := by
  have h16 := hP.1
  have r1 : r ≠ 1 := by omega
  simp [X_R_run, B_R_run, eV, eI, eL, eR, e1, e2, eDI, eDL, eFI, eFL, eFR, eAI, eAZ, eAR, eLen, aN, aC, xV, xS, eX, eIf, eC_b, cA, cO, cN, sSk, sSq, sI, sL, sR, sInc, sF, sFO, sAI, sAZ, sAO, sX, sXp, sIf, sCut, sSqs, sSw, sRt, sRz_g, is01_b, is01_0, is01_1, sRv, sBk, sCt, sCp, lset, lclr, lcut, lini, lx, Value.category, ixOf, b2i_0, b2i_1, T_R, r1]
  refine s_R_beginRun scr hr hrow _ fun s1 g1 g2 => ⟨rfl, ?_⟩
  refine lp_ind (fun z ls h => ∃ k s', z = P.1 - k ∧ k ≤ P.1 ∧ ls = [.ref 65, .ref r, .int idle, .int (nI k)] ∧ h = hp scr s' ∧ Fr FW s s' ∧ mRr (pRun P base row (fl (idl idle) k)) s') ?_ ⟨0, s1, rfl, by omega, rfl, rfl, g1, g2⟩
  rintro z ls h' ⟨k, s2, hz, hk, rfl, rfl, f1, f2⟩ X hX
  have m2 : mR P s2 := mR_fr f1 (by omega) (by omega) hm
  have e3 := f2.2.2
  refine cX (t := decide (k < P.1) && decide ((pRun P base row (fl (idl idle) k)).2.2 = -9)) (h' := hp scr s2) ?h1 ?h2
  case h1 =>
    intro K
    simp [eV, eI, eL, eR, e1, e2, eDI, eDL, eFI, eFL, eFR, eAI, eAZ, eAR, eLen, aN, aC, xV, xS, eX, eIf, eC_b, cA, cO, cN, sSk, sSq, sI, sL, sR, sInc, sF, sFO, sAI, sAZ, sAO, sX, sXp, sIf, sCut, sSqs, sSw, sRt, sRz_g, is01_b, is01_0, is01_1, sRv, sBk, sCt, sCp, lset, lclr, lcut, lini, lx, Value.category, ixOf, b2i_0, b2i_1, T_R, m2.1, e3]
    simp (disch := omega) only [LIT, L_0le, L_0lt, L_0eq, L_eq0, L_le0, L_lt0, L_1eq, L_eq1, L_1le, L_1lt, L_lt1, L_le1, L_p1, nI_ltI, nI_leI, nI_eq, nI_add, nI_clamp]
    by_cases c : k < P.1 <;> simp [c]
  case h2 =>
    by_cases hlt : k < P.1
    · by_cases hf : (pRun P base row (fl (idl idle) k)).2.2 = -9
      · simp only [hlt, hf, decide_true, Bool.and_self, if_true]
        by_cases c : nI k = idle
        · have e : fl (idl idle) (k + 1) = fl (idl idle) k := by rw [fl_s]; simp [idl, c]
          simp [eV, eI, eL, eR, e1, e2, eDI, eDL, eFI, eFL, eFR, eAI, eAZ, eAR, eLen, aN, aC, xV, xS, eX, eIf, eC_b, cA, cO, cN, sSk, sSq, sI, sL, sR, sInc, sF, sFO, sAI, sAZ, sAO, sX, sXp, sIf, sCut, sSqs, sSw, sRt, sRz_g, is01_b, is01_0, is01_1, sRv, sBk, sCt, sCp, lset, lclr, lcut, lini, lx, Value.category, ixOf, b2i_0, b2i_1, c, L_p1]
          refine hX _ _ _ (by rw [hz]; omega) ⟨k + 1, s2, rfl, hlt, ?_, rfl, f1, by rw [e]; exact f2⟩
          rw [← c, L_p1]
        · have e : fl (idl idle) (k + 1) = fl (idl idle) k ++ [k] := by rw [fl_s]; simp [idl, c]
          simp [eV, eI, eL, eR, e1, e2, eDI, eDL, eFI, eFL, eFR, eAI, eAZ, eAR, eLen, aN, aC, xV, xS, eX, eIf, eC_b, cA, cO, cN, sSk, sSq, sI, sL, sR, sInc, sF, sFO, sAI, sAZ, sAO, sX, sXp, sIf, sCut, sSqs, sSw, sRt, sRz_g, is01_b, is01_0, is01_1, sRv, sBk, sCt, sCp, lset, lclr, lcut, lini, lx, Value.category, ixOf, b2i_0, b2i_1, c, L_p1, T_R]
          refine s_R_doOne scr hP m2 hr h8 (by rw [f1.2 _ _ (by omega)]; exact hb) f2 hlt (pRun_zero _ _ _ _ _ (fun q => by rw [mem_fl] at q; omega)) _ fun s3 k1 k2 => ⟨rfl, ?_⟩
          refine hX _ _ _ (by rw [hz]; omega) ⟨k + 1, s3, rfl, hlt, rfl, rfl, f1.tr k1 fun _ _ z => z, ?_⟩
          rw [e, pRun_ap, pStep, if_pos hf]
          exact k2
      · simp only [hlt, hf, decide_true, decide_false, Bool.and_false, Bool.false_eq_true, if_false]
        exact h s2 f1 (by rw [pRun_fl hk (Or.inr hf)]; exact f2)
    · have : k = P.1 := by omega
      subst this
      simp only [hlt, decide_false, Bool.false_and, Bool.false_eq_true, if_false]
      exact h s2 f1 f2
/-! the order by places is the order of the schedule -/
def byP (pl : Nat → Nat) (n m : Nat) : List Nat := (List.range n).flatMap fun q => fl (fun i => decide (pl i = q)) m
theorem byP_s (pl : Nat → Nat) (n m : Nat) : byP pl (n + 1) m = byP pl n m ++ fl (fun i => decide (pl i = n)) m := by
  unfold byP; rw [List.range_succ, List.flatMap_append]; simp
theorem mem_byP {pl : Nat → Nat} {n m x : Nat} : x ∈ byP pl n m ↔ x < m ∧ pl x < n := by
  unfold byP
  rw [List.mem_flatMap]
  constructor
  · rintro ⟨q, hq, hx⟩
    rw [mem_fl, decide_eq_true_eq] at hx
    rw [List.mem_range] at hq
    exact ⟨hx.1, by omega⟩
  · rintro ⟨h1, h2⟩
    exact ⟨pl x, List.mem_range.mpr h2, mem_fl.mpr ⟨h1, by simp⟩⟩
theorem fl_cong {N M : Nat → Bool} {n : Nat} (h : ∀ i, i < n → N i = M i) : fl N n = fl M n := by
  unfold fl
  apply List.filter_congr
  intro x hx
  exact h x (List.mem_range.mp hx)
theorem fl_none {N : Nat → Bool} {n : Nat} (h : ∀ i, i < n → N i = false) : fl N n = [] := by
  unfold fl
  rw [List.filter_eq_nil_iff]
  intro x hx
  rw [h x (List.mem_range.mp hx)]
  simp
theorem flm_cong {f g : Nat → List Nat} {n : Nat} (h : ∀ q, q < n → f q = g q) : (List.range n).flatMap f = (List.range n).flatMap g := by
  rw [List.flatMap_def, List.flatMap_def]
  congr 1
  exact List.map_congr_left fun q hq => h q (List.mem_range.mp hq)
theorem sAt_byP {P : PC} {g : Nat → Nat → Bool} {L : List (List Nat)} (hL : L.flatten.Nodup) : ∀ n, (∀ i, (sAt P g L (fun _ => false) n).1 i = true → (sAt P g L (fun _ => false) n).2.2.1 i < (sAt P g L (fun _ => false) n).2.1) ∧ (sAt P g L (fun _ => false) n).2.2.2 = (List.range (sAt P g L (fun _ => false) n).2.1).flatMap fun q => fl (fun i => (sAt P g L (fun _ => false) n).1 i && decide ((sAt P g L (fun _ => false) n).2.2.1 i = q)) P.1
  | 0 => by simp [sAt]
  | n + 1 => by
    obtain ⟨i1, i2⟩ := sAt_byP (P := P) (g := g) hL n
    have cl := sAt_nd (P := P) (g := g) (D0 := fun _ => false) hL (by simp) n
    rw [sAt, sStep]
    cases hn : nxt P g L (sAt P g L (fun _ => false) n).1 with
    | none => exact ⟨i1, i2⟩
    | some i =>
      have sp := nxt_spec (P := P) (g := g) (L := L) (D := (sAt P g L (fun _ => false) n).1)
      rw [hn] at sp
      obtain ⟨-, hi, hd, -⟩ := sp
      simp only [Bool.and_eq_true, Bool.not_eq_true'] at hd
      generalize sAt P g L (fun _ => false) n = S at *
      have new : ∀ j, nd L i j = true → S.1 j = false := by
        intro j hj
        rw [Bool.eq_false_iff]
        intro q
        have := cl j i q (nd_symm hj)
        rw [hd.1] at this
        simp at this
      refine ⟨fun j hj => ?_, ?_⟩
      · simp only [sNext, Bool.or_eq_true] at hj ⊢
        split
        · omega
        · next c =>
          have := i1 j (hj.resolve_right c)
          omega
      · simp only [sNext]
        rw [List.range_succ, List.flatMap_append, i2]
        congr 1
        · refine flm_cong fun q hq => fl_cong fun j hj => ?_
          by_cases c : nd L i j = true
          · rw [new j c]; simp [c]; omega
          · simp [c]
        · simp only [List.flatMap_cons, List.flatMap_nil, List.append_nil]
          refine fl_cong fun j hj => ?_
          by_cases c : nd L i j = true
          · simp [c]
          · simp [c]
            intro q
            have := i1 j q
            omega
theorem sAt_cnt {P : PC} {g : Nat → Nat → Bool} {L : List (List Nat)} (n : Nat) : (sAt P g L (fun _ => false) n).2.1 ≤ cnt (sAt P g L (fun _ => false) n).1 P.1 := by
  induction n with
  | zero => simp [sAt]
  | succ n ih =>
    rw [sAt, sStep]
    cases hn : nxt P g L (sAt P g L (fun _ => false) n).1 with
    | none => exact ih
    | some i =>
      have sp := nxt_spec (P := P) (g := g) (L := L) (D := (sAt P g L (fun _ => false) n).1)
      rw [hn] at sp
      obtain ⟨-, hi, hd, -⟩ := sp
      simp only [Bool.and_eq_true, Bool.not_eq_true'] at hd
      refine Nat.le_trans (Nat.succ_le_succ ih) (cnt_strict (fun k hk => ?_) hd.1 ?_ P.1 hi)
      · simp [sNext, hk]
      · simp [sNext, nd_self]
theorem sFin_byP {P : PC} {g : Nat → Nat → Bool} {L : List (List Nat)} (hL : L.flatten.Nodup) (hok : sOk P g L (fun _ => false) = true) : (sFin P g L fun _ => false).2.2.2 = byP (sFin P g L fun _ => false).2.2.1 P.1 P.1 := by
  obtain ⟨i1, i2⟩ := sAt_byP (P := P) (g := g) hL 16
  have c1 := sAt_cnt (P := P) (g := g) (L := L) 16
  have c2 := cnt_le (sAt P g L (fun _ => false) 16).1 P.1
  unfold sOk at hok
  rw [allB_iff] at hok
  unfold sFin at hok ⊢
  generalize sAt P g L (fun _ => false) 16 = S at *
  rw [i2]
  have e : (List.range S.2.1).flatMap (fun q => fl (fun i => S.1 i && decide (S.2.2.1 i = q)) P.1) = byP S.2.2.1 S.2.1 P.1 := flm_cong fun q hq => fl_cong fun j hj => by rw [hok j hj]; rfl
  rw [e]
  have key : ∀ d, byP S.2.2.1 (S.2.1 + d) P.1 = byP S.2.2.1 S.2.1 P.1 := by
    intro d
    induction d with
    | zero => rfl
    | succ d ih =>
      rw [← Nat.add_assoc, byP_s, ih, fl_none, List.append_nil]
      intro j hj
      have := i1 j (hok j hj)
      simp
      omega
  have := key (P.1 - S.2.1)
  rw [show S.2.1 + (P.1 - S.2.1) = P.1 by omega] at this
  exact this.symm
theorem sFin_pl {P : PC} {g : Nat → Nat → Bool} {L : List (List Nat)} (hP : okP P) (hL : L.flatten.Nodup) : ∀ j, (sFin P g L fun _ => false).1 j = true → (sFin P g L fun _ => false).2.2.1 j < 16 := by
  intro j hj
  have i1 := (sAt_byP (P := P) (g := g) hL 16).1 j hj
  have c1 := sAt_cnt (P := P) (g := g) (L := L) 16
  have c2 := cnt_le (sAt P g L (fun _ => false) 16).1 P.1
  have h16 := hP.1
  show (sAt P g L (fun _ => false) 16).2.2.1 j < 16
  omega
theorem s_R_packedRun {P : PC} (scr : List Int32) {s : MS} (hP : okP P) (hm : mR P s) {r : Nat} (hr : r = 71 ∨ r = 72) {base known w : Nat} (hw : mRow r s base known w) (hs : okS base known w) {row : Nat → Int32} (hrow : ∀ k, k < 16 → s.1 r k = row k) (Q : Option Value → HV → Prop)
    (h : ∀ s', Fr (fun a b => FQ a b ∨ FW a b) s s' → mRr (pRun P base row (sFin P (gF (pFol P base known fun _ => false)) (cAt P (pFol P base known fun _ => false) (fun _ => false) w (2 * (9 - w))).1 fun _ => false).2.2.2) s' → Q none (hp scr s')) : X_R_packedRun [.ref 65, .ref r] (hp scr s) Q := by
  have h16 := hP.1
  have r1 : r ≠ 1 := by omega
  have ww := hs.2.2
  simp [X_R_packedRun, B_R_packedRun, eV, eI, eL, eR, e1, e2, eDI, eDL, eFI, eFL, eFR, eAI, eAZ, eAR, eLen, aN, aC, xV, xS, eX, eIf, eC_b, cA, cO, cN, sSk, sSq, sI, sL, sR, sInc, sF, sFO, sAI, sAZ, sAO, sX, sXp, sIf, sCut, sSqs, sSw, sRt, sRz_g, is01_b, is01_0, is01_1, sRv, sBk, sCt, sCp, lset, lclr, lcut, lini, lx, Value.category, ixOf, b2i_0, b2i_1, T_R, r1]
  refine s_R_pack scr hP hm hr hw hs (om := 0) (out := fun _ => false) (fun k hk => b_0 k) (by simp) _ fun s1 g1 g2 g3 g4 => ⟨rfl, ?_⟩
  have ok := cAt_ok (P := P) (f := pFol P base known fun _ => false) (out := fun _ => false) hP ww (by simp) (2 * (9 - w))
  have eo := sFin_byP ok.1.2.1 ok.2
  have all := ok.2
  unfold sOk at all
  rw [allB_iff] at all
  rw [eo] at h
  have bd := sFin_pl (g := gF (pFol P base known fun _ => false)) hP ok.1.2.1
  generalize (sFin P (gF (pFol P base known fun _ => false)) (cAt P (pFol P base known fun _ => false) (fun _ => false) w (2 * (9 - w))).1 fun _ => false) = S at *
  have pl : ∀ j, j < P.1 → s1.1 85 j = nI (S.2.2.1 j) := fun j hj => g4 j hj (all j hj)
  have pb : ∀ j, j < P.1 → S.2.2.1 j < 16 := fun j hj => bd j (all j hj)
  generalize S.2.2.1 = p at *
  have m1 : mR P s1 := mR_fr g1 (by omega) (by omega) hm
  simp [T_R, r1]
  refine s_R_beginRun scr hr (row := row) (fun k hk => by rw [g1.2 _ _ (by omega)]; exact hrow k hk) _ fun s2 f1 f2 => ⟨rfl, ?_⟩
  have st : ∀ s', Fr FW s1 s' → mR P s' ∧ s'.1 r 16 = nI base ∧ ∀ j, j < P.1 → s'.1 85 j = nI (p j) := fun s' q => ⟨mR_fr q (by omega) (by omega) m1, by rw [q.2 _ _ (by omega), g1.2 _ _ (by omega)]; exact hw.1, fun j hj => by rw [q.2 _ _ (by omega)]; exact pl j hj⟩
  refine lp_ind (fun z ls h => ∃ n s', z = P.1 - n ∧ n ≤ P.1 ∧ ls = [.ref 65, .ref r, .int (nI n), .null] ∧ h = hp scr s' ∧ Fr FW s1 s' ∧ mRr (pRun P base row (byP p n P.1)) s') ?_ ⟨0, s2, rfl, by omega, rfl, rfl, f1, f2⟩
  rintro z ls h' ⟨n, s3, hz, hn, rfl, rfl, q1, q2⟩ X hX
  obtain ⟨m3, e3, p3⟩ := st s3 q1
  refine cX (t := decide (n < P.1)) (h' := hp scr s3) ?h1 ?h2
  case h1 =>
    intro K
    simp [eV, eI, eL, eR, e1, e2, eDI, eDL, eFI, eFL, eFR, eAI, eAZ, eAR, eLen, aN, aC, xV, xS, eX, eIf, eC_b, cA, cO, cN, sSk, sSq, sI, sL, sR, sInc, sF, sFO, sAI, sAZ, sAO, sX, sXp, sIf, sCut, sSqs, sSw, sRt, sRz_g, is01_b, is01_0, is01_1, sRv, sBk, sCt, sCp, lset, lclr, lcut, lini, lx, Value.category, ixOf, b2i_0, b2i_1, T_R, m3.1]
    simp (disch := omega) only [LIT, L_0le, L_0lt, L_0eq, L_eq0, L_le0, L_lt0, L_1eq, L_eq1, L_1le, L_1lt, L_lt1, L_le1, L_p1, nI_ltI, nI_leI, nI_eq, nI_add, nI_clamp]
  case h2 =>
    by_cases hlt : n < P.1
    · simp only [hlt, decide_true, if_true]
      simp [eV, eI, eL, eR, e1, e2, eDI, eDL, eFI, eFL, eFR, eAI, eAZ, eAR, eLen, aN, aC, xV, xS, eX, eIf, eC_b, cA, cO, cN, sSk, sSq, sI, sL, sR, sInc, sF, sFO, sAI, sAZ, sAO, sX, sXp, sIf, sCut, sSqs, sSw, sRt, sRz_g, is01_b, is01_0, is01_1, sRv, sBk, sCt, sCp, lset, lclr, lcut, lini, lx, Value.category, ixOf, b2i_0, b2i_1]
      refine lp_ind (fun z ls h => ∃ i s', z = P.1 - i ∧ i ≤ P.1 ∧ ls = [.ref 65, .ref r, .int (nI n), .int (nI i)] ∧ h = hp scr s' ∧ Fr FW s1 s' ∧ mRr (pRun P base row (byP p n P.1 ++ fl (fun i => decide (p i = n)) i)) s') ?_ ⟨0, s3, rfl, by omega, rfl, rfl, q1, by rw [show fl (fun i => decide (p i = n)) 0 = [] from rfl, List.append_nil]; exact q2⟩
      rintro z2 ls h' ⟨i, s4, hz2, hi, rfl, rfl, x1, x2⟩ X2 hX2
      obtain ⟨m4, e4, p4⟩ := st s4 x1
      have e37 := x2.2.2
      refine cX (t := decide (i < P.1) && decide ((pRun P base row (byP p n P.1 ++ fl (fun i => decide (p i = n)) i)).2.2 = -9)) (h' := hp scr s4) ?h3 ?h4
      case h3 =>
        intro K
        simp [eV, eI, eL, eR, e1, e2, eDI, eDL, eFI, eFL, eFR, eAI, eAZ, eAR, eLen, aN, aC, xV, xS, eX, eIf, eC_b, cA, cO, cN, sSk, sSq, sI, sL, sR, sInc, sF, sFO, sAI, sAZ, sAO, sX, sXp, sIf, sCut, sSqs, sSw, sRt, sRz_g, is01_b, is01_0, is01_1, sRv, sBk, sCt, sCp, lset, lclr, lcut, lini, lx, Value.category, ixOf, b2i_0, b2i_1, T_R, m4.1, e37]
        simp (disch := omega) only [LIT, L_0le, L_0lt, L_0eq, L_eq0, L_le0, L_lt0, L_1eq, L_eq1, L_1le, L_1lt, L_lt1, L_le1, L_p1, nI_ltI, nI_leI, nI_eq, nI_add, nI_clamp]
        by_cases c : i < P.1 <;> simp [c]
      case h4 =>
        have fin : pRun P base row (byP p (n + 1) P.1) = pRun P base row (byP p n P.1 ++ fl (fun i => decide (p i = n)) i) → X2 = X2 → X [.ref 65, .ref r, .int (nI (n + 1)), .null] (hp scr s4) := fun e _ => hX _ _ _ (by rw [hz]; omega) ⟨n + 1, s4, rfl, hlt, rfl, rfl, x1, by rw [e]; exact x2⟩
        by_cases hlt2 : i < P.1
        · by_cases hf : (pRun P base row (byP p n P.1 ++ fl (fun i => decide (p i = n)) i)).2.2 = -9
          · simp only [hlt2, hf, decide_true, Bool.and_self, if_true]
            have pe : (nI (p i) = nI n) = (p i = n) := propext (nI_eq (by have := pb i hlt2; omega) (by omega))
            by_cases c : p i = n
            · have e : fl (fun i => decide (p i = n)) (i + 1) = fl (fun i => decide (p i = n)) i ++ [i] := by rw [fl_s]; simp [c]
              simp [eV, eI, eL, eR, e1, e2, eDI, eDL, eFI, eFL, eFR, eAI, eAZ, eAR, eLen, aN, aC, xV, xS, eX, eIf, eC_b, cA, cO, cN, sSk, sSq, sI, sL, sR, sInc, sF, sFO, sAI, sAZ, sAO, sX, sXp, sIf, sCut, sSqs, sSw, sRt, sRz_g, is01_b, is01_0, is01_1, sRv, sBk, sCt, sCp, lset, lclr, lcut, lini, lx, Value.category, ixOf, b2i_0, b2i_1, T_R, G_R, ixf hP.1 hlt2, p4 i hlt2, pe, c, L_p1]
              refine s_R_doOne scr hP m4 hr hs.1 e4 x2 hlt2 (pRun_zero _ _ _ _ _ (fun q => ?_)) _ fun s5 k1 k2 => ⟨rfl, ?_⟩
              · rcases List.mem_append.mp q with q | q
                · rw [mem_byP] at q; omega
                · rw [mem_fl] at q; omega
              · refine hX2 _ _ _ (by rw [hz2]; omega) ⟨i + 1, s5, rfl, hlt2, rfl, rfl, x1.tr k1 fun _ _ z => z, ?_⟩
                rw [e, ← List.append_assoc, pRun_ap, pStep, if_pos hf]
                exact k2
            · have e : fl (fun i => decide (p i = n)) (i + 1) = fl (fun i => decide (p i = n)) i := by rw [fl_s]; simp [c]
              simp [eV, eI, eL, eR, e1, e2, eDI, eDL, eFI, eFL, eFR, eAI, eAZ, eAR, eLen, aN, aC, xV, xS, eX, eIf, eC_b, cA, cO, cN, sSk, sSq, sI, sL, sR, sInc, sF, sFO, sAI, sAZ, sAO, sX, sXp, sIf, sCut, sSqs, sSw, sRt, sRz_g, is01_b, is01_0, is01_1, sRv, sBk, sCt, sCp, lset, lclr, lcut, lini, lx, Value.category, ixOf, b2i_0, b2i_1, T_R, G_R, ixf hP.1 hlt2, p4 i hlt2, pe, c, L_p1]
              exact hX2 _ _ _ (by rw [hz2]; omega) ⟨i + 1, s4, rfl, hlt2, rfl, rfl, x1, by rw [e]; exact x2⟩
          · simp only [hlt2, hf, decide_true, decide_false, Bool.and_false, Bool.false_eq_true, if_false]
            simp [eV, eI, eL, eR, e1, e2, eDI, eDL, eFI, eFL, eFR, eAI, eAZ, eAR, eLen, aN, aC, xV, xS, eX, eIf, eC_b, cA, cO, cN, sSk, sSq, sI, sL, sR, sInc, sF, sFO, sAI, sAZ, sAO, sX, sXp, sIf, sCut, sSqs, sSw, sRt, sRz_g, is01_b, is01_0, is01_1, sRv, sBk, sCt, sCp, lset, lclr, lcut, lini, lx, Value.category, ixOf, b2i_0, b2i_1, L_p1]
            refine fin ?_ rfl
            obtain ⟨m, em⟩ := fl_split (fun i => decide (p i = n)) hi
            rw [byP_s, em, ← List.append_assoc, pRun_stay hf]
        · have ei : i = P.1 := by omega
          subst ei
          simp only [hlt2, decide_false, Bool.false_and, Bool.false_eq_true, if_false]
          simp [eV, eI, eL, eR, e1, e2, eDI, eDL, eFI, eFL, eFR, eAI, eAZ, eAR, eLen, aN, aC, xV, xS, eX, eIf, eC_b, cA, cO, cN, sSk, sSq, sI, sL, sR, sInc, sF, sFO, sAI, sAZ, sAO, sX, sXp, sIf, sCut, sSqs, sSw, sRt, sRz_g, is01_b, is01_0, is01_1, sRv, sBk, sCt, sCp, lset, lclr, lcut, lini, lx, Value.category, ixOf, b2i_0, b2i_1, L_p1]
          exact fin (by rw [byP_s]) rfl
    · have en : n = P.1 := by omega
      subst en
      simp only [hlt, decide_false, Bool.false_eq_true, if_false]
      exact h s3 ((g1.wk fun _ _ z => Or.inl z).tr (q1.wk fun _ _ z => Or.inr z) fun _ _ z => z) q2
