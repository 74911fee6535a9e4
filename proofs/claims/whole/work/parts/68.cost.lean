def costP (P : PC) : Nat := cnt (fun i => decide (pK P i ≠ 1)) P.1
theorem s_Code_cost {P : PC} (scr : List Int32) {s : MS} (hP : okP P) (hm : mC P 6 s) (Q : Option Value → HV → Prop) (h : Q (some (.int (nI (costP P)))) (hp scr s)) : X_Code_cost [.ref 6] (hp scr s) Q := by
  have h16 := hP.1
  simp [X_Code_cost, B_Code_cost, eV, eI, eL, eR, e1, e2, eDI, eDL, eFI, eFL, eFR, eAI, eAZ, eAR, eLen, aN, aC, xV, xS, eX, eIf, eC_b, cA, cO, cN, sSk, sSq, sI, sL, sR, sInc, sF, sFO, sAI, sAZ, sAO, sX, sXp, sIf, sCut, sSqs, sSw, sRt, sRz_g, is01_b, is01_0, is01_1, sRv, sBk, sCt, sCp, lset, lclr, lcut, lini, lx, Value.category, ixOf, b2i_0, b2i_1]
  refine lp_ind (fun z ls h => ∃ k, z = P.1 - k ∧ k ≤ P.1 ∧ ls = [.ref 6, .int (nI (cnt (fun i => decide (pK P i ≠ 1)) k)), .int (nI k)] ∧ h = hp scr s) ?_ ⟨0, rfl, by omega, rfl, rfl⟩
  rintro z ls h' ⟨k, hz, hk, rfl, rfl⟩ X hX
  refine cX (t := decide (k < P.1)) (h' := hp scr s) ?h1 ?h2
  case h1 =>
    intro K
    simp [eV, eI, eL, eR, e1, e2, eDI, eDL, eFI, eFL, eFR, eAI, eAZ, eAR, eLen, aN, aC, xV, xS, eX, eIf, eC_b, cA, cO, cN, sSk, sSq, sI, sL, sR, sInc, sF, sFO, sAI, sAZ, sAO, sX, sXp, sIf, sCut, sSqs, sSw, sRt, sRz_g, is01_b, is01_0, is01_1, sRv, sBk, sCt, sCp, lset, lclr, lcut, lini, lx, Value.category, ixOf, b2i_0, b2i_1, T_Code c6, hm.1]
    simp (disch := omega) only [LIT, L_0le, L_0lt, L_0eq, L_eq0, L_le0, L_lt0, L_1eq, L_eq1, L_1le, L_1lt, L_lt1, L_le1, L_p1, nI_ltI, nI_leI, nI_eq, nI_add, nI_clamp]
  case h2 =>
    by_cases hlt : k < P.1
    · have kk := (hP.2 k hlt).1
      have e : (nI (pK P k) = 1) = (pK P k = 1) := L_eq1 (by omega)
      simp only [hlt, decide_true, if_true]
      have go := fun x (hx : x = nI (cnt (fun i => decide (pK P i ≠ 1)) (k + 1))) => hX (P.1 - (k + 1)) [.ref 6, .int x, .int (nI (k + 1))] (hp scr s) (by rw [hz]; omega) ⟨k + 1, rfl, hlt, by rw [hx], rfl⟩
      simp [eV, eI, eL, eR, e1, e2, eDI, eDL, eFI, eFL, eFR, eAI, eAZ, eAR, eLen, aN, aC, xV, xS, eX, eIf, eC_b, cA, cO, cN, sSk, sSq, sI, sL, sR, sInc, sF, sFO, sAI, sAZ, sAO, sX, sXp, sIf, sCut, sSqs, sSw, sRt, sRz_g, is01_b, is01_0, is01_1, sRv, sBk, sCt, sCp, lset, lclr, lcut, lini, lx, Value.category, ixOf, b2i_0, b2i_1, T_Code c6, G6, ixf hP.1 hlt, mC6 hm hlt, e]
      by_cases c : pK P k = 1
      · simp [c, L_p1]
        exact go _ (by simp [cnt, c])
      · simp [c, L_p1]
        exact go _ (by simp [cnt, c])
    · have : k = P.1 := by omega
      subst this
      simp only [hlt, decide_false, Bool.false_eq_true, if_false]
      simp [eV, eI, eL, eR, e1, e2, eDI, eDL, eFI, eFL, eFR, eAI, eAZ, eAR, eLen, aN, aC, xV, xS, eX, eIf, eC_b, cA, cO, cN, sSk, sSq, sI, sL, sR, sInc, sF, sFO, sAI, sAZ, sAO, sX, sXp, sIf, sCut, sSqs, sSw, sRt, sRz_g, is01_b, is01_0, is01_1, sRv, sBk, sCt, sCp, lset, lclr, lcut, lini, lx, Value.category, ixOf, b2i_0, b2i_1]
      simpa [costP] using h
theorem s_R_costNow {P : PC} (scr : List Int32) {s : MS} (hP : okP P) (hm : mR P s) (Q : Option Value → HV → Prop) (h : Q (some (.int (nI (costP P)))) (hp scr s)) : X_R_costNow [.ref 65] (hp scr s) Q := by
  have h16 := hP.1
  simp [X_R_costNow, B_R_costNow, eV, eI, eL, eR, e1, e2, eDI, eDL, eFI, eFL, eFR, eAI, eAZ, eAR, eLen, aN, aC, xV, xS, eX, eIf, eC_b, cA, cO, cN, sSk, sSq, sI, sL, sR, sInc, sF, sFO, sAI, sAZ, sAO, sX, sXp, sIf, sCut, sSqs, sSw, sRt, sRz_g, is01_b, is01_0, is01_1, sRv, sBk, sCt, sCp, lset, lclr, lcut, lini, lx, Value.category, ixOf, b2i_0, b2i_1]
  refine lp_ind (fun z ls h => ∃ k, z = P.1 - k ∧ k ≤ P.1 ∧ ls = [.ref 65, .int (nI (cnt (fun i => decide (pK P i ≠ 1)) k)), .int (nI k)] ∧ h = hp scr s) ?_ ⟨0, rfl, by omega, rfl, rfl⟩
  rintro z ls h' ⟨k, hz, hk, rfl, rfl⟩ X hX
  refine cX (t := decide (k < P.1)) (h' := hp scr s) ?h1 ?h2
  case h1 =>
    intro K
    simp [eV, eI, eL, eR, e1, e2, eDI, eDL, eFI, eFL, eFR, eAI, eAZ, eAR, eLen, aN, aC, xV, xS, eX, eIf, eC_b, cA, cO, cN, sSk, sSq, sI, sL, sR, sInc, sF, sFO, sAI, sAZ, sAO, sX, sXp, sIf, sCut, sSqs, sSw, sRt, sRz_g, is01_b, is01_0, is01_1, sRv, sBk, sCt, sCp, lset, lclr, lcut, lini, lx, Value.category, ixOf, b2i_0, b2i_1, T_R, hm.1]
    simp (disch := omega) only [LIT, L_0le, L_0lt, L_0eq, L_eq0, L_le0, L_lt0, L_1eq, L_eq1, L_1le, L_1lt, L_lt1, L_le1, L_p1, nI_ltI, nI_leI, nI_eq, nI_add, nI_clamp]
  case h2 =>
    by_cases hlt : k < P.1
    · have kk := (hP.2 k hlt).1
      have e : (nI (pK P k) = 1) = (pK P k = 1) := L_eq1 (by omega)
      simp only [hlt, decide_true, if_true]
      have go := fun x (hx : x = nI (cnt (fun i => decide (pK P i ≠ 1)) (k + 1))) => hX (P.1 - (k + 1)) [.ref 65, .int x, .int (nI (k + 1))] (hp scr s) (by rw [hz]; omega) ⟨k + 1, rfl, hlt, by rw [hx], rfl⟩
      simp [eV, eI, eL, eR, e1, e2, eDI, eDL, eFI, eFL, eFR, eAI, eAZ, eAR, eLen, aN, aC, xV, xS, eX, eIf, eC_b, cA, cO, cN, sSk, sSq, sI, sL, sR, sInc, sF, sFO, sAI, sAZ, sAO, sX, sXp, sIf, sCut, sSqs, sSw, sRt, sRz_g, is01_b, is01_0, is01_1, sRv, sBk, sCt, sCp, lset, lclr, lcut, lini, lx, Value.category, ixOf, b2i_0, b2i_1, T_R, G_R, ixf hP.1 hlt, (hm.2 k hlt).1, e]
      by_cases c : pK P k = 1
      · simp [c, L_p1]
        exact go _ (by simp [cnt, c])
      · simp [c, L_p1]
        exact go _ (by simp [cnt, c])
    · have : k = P.1 := by omega
      subst this
      simp only [hlt, decide_false, Bool.false_eq_true, if_false]
      simp [eV, eI, eL, eR, e1, e2, eDI, eDL, eFI, eFL, eFR, eAI, eAZ, eAR, eLen, aN, aC, xV, xS, eX, eIf, eC_b, cA, cO, cN, sSk, sSq, sI, sL, sR, sInc, sF, sFO, sAI, sAZ, sAO, sX, sXp, sIf, sCut, sSqs, sSw, sRt, sRz_g, is01_b, is01_0, is01_1, sRv, sBk, sCt, sCp, lset, lclr, lcut, lini, lx, Value.category, ixOf, b2i_0, b2i_1]
      simpa [costP] using h
/-! the sum of the gains is a small number -/
theorem pGain_pos {P : PC} {out kp : Nat → Bool} {w n : Nat} {T : TS} (hP : okP P) (hw : w = 2 ∨ w = 4) (hn : n ≤ 16) (ho : okT P w T n) (h : 0 < pGain P out kp w T) : ∃ g, pGain P out kp w T = nI g ∧ g ≤ 3 * T.1.length := by
  have h16 := hP.1
  have l8 := (okT_8 hP hw ho).1
  have c64 : T.2.2.2 ≤ 64 := by have := ho.2.2.2.2.1; omega
  have cl := cnt_le (pLoss P out kp T) P.1
  unfold pGain at h ⊢
  have e0 : nI (w - 1) * nI T.1.length = nI ((w - 1) * T.1.length) := nI_mul _ _
  have e1' : nI ((w - 1) * T.1.length) - nI T.2.2.2 - nI (cnt (pLoss P out kp T) P.1) = nI ((w - 1) * T.1.length) - nI (T.2.2.2 + cnt (pLoss P out kp T) P.1) := by
    rw [← nI_add]
    generalize nI ((w - 1) * T.1.length) = x
    generalize nI T.2.2.2 = y
    generalize nI (cnt (pLoss P out kp T) P.1) = z
    grind
  have le : (w - 1) * T.1.length ≤ 3 * T.1.length := Nat.mul_le_mul_right _ (by omega)
  rw [e0, e1'] at h ⊢
  rcases Nat.lt_or_ge ((w - 1) * T.1.length) (T.2.2.2 + cnt (pLoss P out kp T) P.1) with q | q
  · have := pk_sneg (a := (w - 1) * T.1.length) (b := T.2.2.2 + cnt (pLoss P out kp T) P.1) (by omega) q
    exact absurd (Int32.lt_trans h this) (by decide)
  · exact ⟨_, nI_sub q, by omega⟩
theorem cAt_gain {P : PC} {f : Nat → Nat → Bool} {out : Nat → Bool} {w : Nat} (hP : okP P) (hw : w = 2 ∨ w = 4) (ho : ∀ i, i < P.1 → out i = true → pK P i = 6) : ∀ n, ∃ g, (cAt P f out w n).2.2 = nI g ∧ g ≤ 3 * (cAt P f out w n).1.length
  | 0 => ⟨0, rfl, by omega⟩
  | n + 1 => by
    obtain ⟨g, g1, g2⟩ := cAt_gain (f := f) hP hw ho n
    rw [cAt, cStep]
    split
    · next h1 =>
      split
      · next h2 =>
        obtain ⟨tok, -⟩ := cTree_ok hP hw ho h1
        obtain ⟨k, k1, k2⟩ := pGain_pos hP hw (by omega) tok h2.1
        refine ⟨g + k, ?_, ?_⟩
        · show _ + _ = _
          rw [g1, k1, nI_add]
        · simp only [List.length_append]
          omega
      · exact ⟨g, g1, g2⟩
    · exact ⟨g, g1, g2⟩
theorem chs_gain {P : PC} {w : Row} {out : Nat → Bool} (hP : okP P) (ok : okRow w) (ho : ∀ i, i < P.1 → out i = true → pK P i = 6) : ∃ g, (chs P w out).2.2 = nI g ∧ g ≤ 24 := by
  obtain ⟨g, g1, g2⟩ := cAt_gain (f := fol P w out) hP ok.1.2.2 ho (2 * (9 - rW w))
  have := okC_8 hP ok.1.2.2 (cAt_ok (f := fol P w out) hP ok.1.2.2 ho (2 * (9 - rW w))).1
  exact ⟨g, g1, by omega⟩
/-! the best width -/
def bestW (P : PC) (w : Row) : Int32 := if (chs P (fset w 18 2) no).2.2 < (chs P (fset w 18 4) no).2.2 then 4 else 2
theorem okRow_w {w : Row} {v : Int32} (hv : v = 2 ∨ v = 4) (ok : okRow w) : okRow (fset w 18 v) := okRow_set (n := 2) (by omega) (by rcases hv with rfl | rfl <;> rfl) ok
abbrev FB : Nat → Nat → Prop := fun r _ => r = 22 ∨ (48 ≤ r ∧ r ≤ 60)
theorem t_chooseT {P : PC} (scr : List Int32) {s : MS} (hP : okP P) (hm : mC P 6 s) {r : Nat} (hr : r = 20 ∨ r = 21 ∨ r = 22) {w : Row} (ok : okRow w) (hw : mRw r w s) {om : Int32} {out : Nat → Bool} (ho : mk om out) (hol : ∀ k, out k = true → k < P.1) (ho6 : ∀ i, i < P.1 → out i = true → pK P i = 6) (Q : Option Value → HV → Prop) (h : ∀ s', Fr (fun r _ => 48 ≤ r ∧ r ≤ 60) s s' → mFD (fol P w out) 55 56 P.1 s' → mPk P 48 (rW w) (chs P w out) s' → Q none (hp scr s')) : X_Pack_choosePacks [.ref 48, .ref r, .int om] (hp scr s) Q :=
  s_Pack_choosePacks (b := 48) (Or.inr rfl) scr hP hm hr (mRow_of hw ok) ok.1 (om := om) (out := out) ho hol ho6 Q fun s' g1 g2 g3 g4 g5 => h s' (g1.wk fun r k z => by omega) g2 g3
theorem s_PL_bestWidth {P : PC} (scr : List Int32) {s : MS} (hP : okP P) (hm : mC P 6 s) {w : Row} (ok : okRow w) (hw : mRw 20 w s) (Q : Option Value → HV → Prop) (h : ∀ s', Fr FB s s' → Q (some (.int (bestW P w))) (hp scr s')) : X_PL_bestWidth [.ref 2] (hp scr s) Q := by
  obtain ⟨ga, ga1, ga2⟩ := chs_gain hP (okRow_w (v := 2) (Or.inl rfl) ok) (out := no) (by simp [no])
  obtain ⟨gb, gb1, gb2⟩ := chs_gain hP (okRow_w (v := 4) (Or.inr rfl) ok) (out := no) (by simp [no])
  unfold bestW at h
  have hb := T_Pack (b := 48) (Or.inr rfl)
  have i18 : (18 : Int32).toNatClampNeg = 18 := rfl
  have z0 : mk (0 : Int32) no := fun k hk => b_0 k
  simp [X_PL_bestWidth, B_PL_bestWidth, lini, lx, Value.category]
  refine sSq_Cp (r := 20) (q := 22) (n := 19) (n2 := 19) (sp := 0) (dp := 0) (N := 19) A_20 A_22 (by omega) (by omega) (by omega) (by omega) ?_ (fun K hK => hK) ?_ (fun K hK => hK) (fun K hK => hK) ?_
  · intro K hK; simpa [eV, eI, eL, eR, e1, e2, eDI, eDL, eFI, eFL, eFR, eAI, eAZ, eAR, eLen, aN, aC, xV, xS, eX, eIf, eC_b, cA, cO, cN, sSk, sSq, sI, sL, sR, sInc, sF, sFO, sAI, sAZ, sAO, sX, sXp, sIf, sCut, sSqs, sSw, sRt, sRz_g, is01_b, is01_0, is01_1, sRv, sBk, sCt, sCp, lset, lclr, lcut, lini, lx, Value.category, ixOf, b2i_0, b2i_1, T_PL] using hK
  · intro K hK; simpa [eV, eI, eL, eR, e1, e2, eDI, eDL, eFI, eFL, eFR, eAI, eAZ, eAR, eLen, aN, aC, xV, xS, eX, eIf, eC_b, cA, cO, cN, sSk, sSq, sI, sL, sR, sInc, sF, sFO, sAI, sAZ, sAO, sX, sXp, sIf, sCut, sSqs, sSw, sRt, sRz_g, is01_b, is01_0, is01_1, sRv, sBk, sCt, sCp, lset, lclr, lcut, lini, lx, Value.category, ixOf, b2i_0, b2i_1, T_PL] using hK
  have c1 : Fr FB s (cpS s 20 22 0 0 19) := cpS_fr.wk fun r k z => by omega
  have c2 : mRw 22 w (cpS s 20 22 0 0 19) := fun k hk => by rw [cpS_at hk]; exact hw k hk
  generalize cpS s 20 22 0 0 19 = s1 at c1 c2 ⊢
  simp [eV, eI, eL, eR, e1, e2, eDI, eDL, eFI, eFL, eFR, eAI, eAZ, eAR, eLen, aN, aC, xV, xS, eX, eIf, eC_b, cA, cO, cN, sSk, sSq, sI, sL, sR, sInc, sF, sFO, sAI, sAZ, sAO, sX, sXp, sIf, sCut, sSqs, sSw, sRt, sRz_g, is01_b, is01_0, is01_1, sRv, sBk, sCt, sCp, lset, lclr, lcut, lini, lx, Value.category, ixOf, b2i_0, b2i_1, T_PL, G_row, i18, hb]
  have d1 : Fr FB s (up s1 22 18 2) := c1.up _ (by omega)
  have d2 : mRw 22 (fset w 18 2) (up s1 22 18 2) := mRw_up c2 fun k => by simp [up_get]
  generalize up s1 22 18 2 = s2 at d1 d2 ⊢
  refine t_chooseT scr hP (mC_fr d1 (by omega) (by omega) hm) (by omega) (okRow_w (Or.inl rfl) ok) d2 z0 (by simp [no]) (by simp [no]) _ fun s3 k1 _ k2 => ⟨rfl, ?_⟩
  have d3 : Fr FB s s3 := d1.tr k1 fun r k z => by omega
  have e13 : s3.1 48 13 = nI ga := k2.2.2.2.2.1.trans ga1
  simp [T_PL, G_row, i18, hb, e13]
  have f1 : Fr FB s (up s3 22 18 4) := d3.up _ (by omega)
  have w3 : mRw 22 (fset w 18 2) s3 := mRw_fr k1 (by omega) d2
  have f2 : mRw 22 (fset w 18 4) (up s3 22 18 4) := fun k hk => by
    simp only [up_get, true_and, fset]
    split
    · rfl
    · next q => rw [w3 k hk]; simp only [fset]; rw [if_neg q]
  generalize up s3 22 18 4 = s4 at f1 f2 ⊢
  refine t_chooseT scr hP (mC_fr f1 (by omega) (by omega) hm) (by omega) (okRow_w (Or.inr rfl) ok) f2 z0 (by simp [no]) (by simp [no]) _ fun s5 q1 _ q2 => ⟨rfl, ?_⟩
  have d5 : Fr FB s s5 := f1.tr q1 fun r k z => by omega
  have e13b : s5.1 48 13 = nI gb := q2.2.2.2.2.1.trans gb1
  have h := h s5 d5
  rw [ga1, gb1] at h
  simp [T_PL, hb, e13b]
  by_cases c : nI ga < nI gb
  · simp [c] at h ⊢; exact h
  · simp [c] at h ⊢; exact h
theorem s_R_copy (scr : List Int32) {s : MS} {w : Row} (hw : mRw 71 w s) (Q : Option Value → HV → Prop) (h : ∀ s', Fr (fun r _ => r = 72) s s' → mRw 72 w s' → Q none (hp scr s')) : X_R_copy [.ref 71, .ref 72] (hp scr s) Q := by
  simp [X_R_copy, B_R_copy, eV, eI, eL, eR, e1, e2, eDI, eDL, eFI, eFL, eFR, eAI, eAZ, eAR, eLen, aN, aC, xV, xS, eX, eIf, eC_b, cA, cO, cN, sSk, sSq, sI, sL, sR, sInc, sF, sFO, sAI, sAZ, sAO, sX, sXp, sIf, sCut, sSqs, sSw, sRt, sRz_g, is01_b, is01_0, is01_1, sRv, sBk, sCt, sCp, lset, lclr, lcut, lini, lx, Value.category, ixOf, b2i_0, b2i_1]
  refine lp_ind (fun z ls h => ∃ k s', z = 19 - k ∧ k ≤ 19 ∧ ls = [.ref 71, .ref 72, .int (nI k)] ∧ h = hp scr s' ∧ Fr (fun r _ => r = 72) s s' ∧ ∀ b, b < k → s'.1 72 b = w b) ?_ ⟨0, s, rfl, by omega, rfl, rfl, Fr.rf, fun b hb => by omega⟩
  rintro z ls h' ⟨k, s1, hz, hk, rfl, rfl, g1, g2⟩ X hX
  refine cX (t := decide (k < 19)) (h' := hp scr s1) ?h1 ?h2
  case h1 =>
    intro K
    simp [eV, eI, eL, eR, e1, e2, eDI, eDL, eFI, eFL, eFR, eAI, eAZ, eAR, eLen, aN, aC, xV, xS, eX, eIf, eC_b, cA, cO, cN, sSk, sSq, sI, sL, sR, sInc, sF, sFO, sAI, sAZ, sAO, sX, sXp, sIf, sCut, sSqs, sSw, sRt, sRz_g, is01_b, is01_0, is01_1, sRv, sBk, sCt, sCp, lset, lclr, lcut, lini, lx, Value.category, ixOf, b2i_0, b2i_1]
    simp (disch := omega) only [LIT, L_0le, L_0lt, L_0eq, L_eq0, L_le0, L_lt0, L_1eq, L_eq1, L_1le, L_1lt, L_lt1, L_le1, L_p1, nI_ltI, nI_leI, nI_eq, nI_add, nI_clamp]
  case h2 =>
    by_cases hlt : k < 19
    · have e70 : s1.1 71 k = w k := by rw [g1.2 _ _ (by omega)]; exact hw k hlt
      simp only [hlt, decide_true, if_true]
      simp [eV, eI, eL, eR, e1, e2, eDI, eDL, eFI, eFL, eFR, eAI, eAZ, eAR, eLen, aN, aC, xV, xS, eX, eIf, eC_b, cA, cO, cN, sSk, sSq, sI, sL, sR, sInc, sF, sFO, sAI, sAZ, sAO, sX, sXp, sIf, sCut, sSqs, sSw, sRt, sRz_g, is01_b, is01_0, is01_1, sRv, sBk, sCt, sCp, lset, lclr, lcut, lini, lx, Value.category, ixOf, b2i_0, b2i_1, T_R, G_R, ix80 hlt (by decide), e70, L_p1]
      refine hX _ _ _ (by rw [hz]; omega) ⟨k + 1, _, rfl, hlt, rfl, rfl, g1.up _ rfl, fun b hb => ?_⟩
      by_cases c : b = k
      · subst c; simp [up_get]
      · simp [up_get, c]; exact g2 b (by omega)
    · have : k = 19 := by omega
      subst this
      simp only [hlt, decide_false, Bool.false_eq_true, if_false]
      exact h s1 g1 g2
theorem t_Rpack {P : PC} (scr : List Int32) {s : MS} (hP : okP P) (hm : mR P s) {r : Nat} (hr : r = 71 ∨ r = 72) {w : Row} (ok : okRow w) (hw : mRw r w s) {om : Int32} {out : Nat → Bool} (ho : mk om out) (ho6 : ∀ i, i < P.1 → out i = true → pK P i = 6) (Q : Option Value → HV → Prop) (h : ∀ s', Fr FQ s s' → mFD (fol P w out) 78 79 P.1 s' → mPR P (rW w) (chs P w out) s' → (out = no → ∀ j, j < P.1 → s'.1 85 j = nI ((ord P w).2.2.1 j)) → Q none (hp scr s')) : X_R_pack [.ref 65, .ref r, .int om] (hp scr s) Q := by
  refine s_R_pack scr hP hm hr (mRow_of hw ok) ok.1 ho ho6 Q fun s' g1 g2 g3 g4 => h s' g1 g2 g3 ?_
  rintro rfl
  intro j hj
  refine g4 j hj ?_
  have := (cAt_ok (P := P) (f := fol P w no) (out := no) hP ok.1.2.2 (by simp [no]) (2 * (9 - rW w))).2
  unfold sOk at this
  rw [allB_iff] at this
  exact this j hj
theorem s_R_packedCost {P : PC} (scr : List Int32) {s : MS} (hP : okP P) (hm : mR P s) {r : Nat} (hr : r = 71 ∨ r = 72) {w : Row} (ok : okRow w) (hw : mRw r w s) (Q : Option Value → HV → Prop) (h : ∀ s', Fr FQ s s' → Q (some (.int (nI (costP P) - (chs P w no).2.2))) (hp scr s')) : X_R_packedCost [.ref 65, .ref r] (hp scr s) Q := by
  have r1 : r ≠ 1 := by omega
  simp [X_R_packedCost, B_R_packedCost, eV, eI, eL, eR, e1, e2, eDI, eDL, eFI, eFL, eFR, eAI, eAZ, eAR, eLen, aN, aC, xV, xS, eX, eIf, eC_b, cA, cO, cN, sSk, sSq, sI, sL, sR, sInc, sF, sFO, sAI, sAZ, sAO, sX, sXp, sIf, sCut, sSqs, sSw, sRt, sRz_g, is01_b, is01_0, is01_1, sRv, sBk, sCt, sCp, lset, lclr, lcut, lini, lx, Value.category, ixOf, b2i_0, b2i_1, T_R, r1]
  refine t_Rpack scr hP hm hr ok hw (om := 0) (out := no) (fun k hk => b_0 k) (by simp [no]) _ fun s1 g1 _ g3 _ => ⟨rfl, ?_⟩
  have e26 : s1.1 65 26 = (chs P w no).2.2 := g3.2.2.2.1
  simp [T_R]
  refine s_R_costNow scr hP (mR_fr g1 (by omega) (by omega) hm) _ ⟨_, rfl, ?_⟩
  simp [T_R, e26]
  exact h s1 g1
theorem s_R_bestWidth {P : PC} (scr : List Int32) {s : MS} (hP : okP P) (hm : mR P s) {w : Row} (ok : okRow w) (hw : mRw 71 w s) (Q : Option Value → HV → Prop) (h : ∀ s', Fr (fun a b => a = 72 ∨ FQ a b) s s' → Q (some (.int (bestW P w))) (hp scr s')) : X_R_bestWidth [.ref 65] (hp scr s) Q := by
  obtain ⟨ga, ga1, ga2⟩ := chs_gain hP (okRow_w (v := 2) (Or.inl rfl) ok) (out := no) (by simp [no])
  obtain ⟨gb, gb1, gb2⟩ := chs_gain hP (okRow_w (v := 4) (Or.inr rfl) ok) (out := no) (by simp [no])
  have cc : costP P ≤ 16 := Nat.le_trans (cnt_le _ _) hP.1
  have cmp : (nI (costP P) - nI gb < nI (costP P) - nI ga) = (nI ga < nI gb) := by
    rw [Int32.lt_iff_toInt_lt, pk_sub_toInt (by omega) (by omega), pk_sub_toInt (by omega) (by omega), Int32.lt_iff_toInt_lt, nI_toInt (by omega), nI_toInt (by omega)]
    apply propext
    omega
  have i18 : (18 : Int32).toNatClampNeg = 18 := rfl
  unfold bestW at h
  simp [X_R_bestWidth, B_R_bestWidth, eV, eI, eL, eR, e1, e2, eDI, eDL, eFI, eFL, eFR, eAI, eAZ, eAR, eLen, aN, aC, xV, xS, eX, eIf, eC_b, cA, cO, cN, sSk, sSq, sI, sL, sR, sInc, sF, sFO, sAI, sAZ, sAO, sX, sXp, sIf, sCut, sSqs, sSw, sRt, sRz_g, is01_b, is01_0, is01_1, sRv, sBk, sCt, sCp, lset, lclr, lcut, lini, lx, Value.category, ixOf, b2i_0, b2i_1, T_R]
  refine s_R_copy scr hw _ fun s1 c1 c2 => ⟨rfl, ?_⟩
  simp [T_R, G_R, i18]
  have d1 : Fr (fun a b => a = 72 ∨ FQ a b) s (up s1 72 18 2) := (c1.wk fun _ _ z => Or.inl z).up _ (Or.inl rfl)
  have d2 : mRw 72 (fset w 18 2) (up s1 72 18 2) := mRw_up c2 fun k => by simp [up_get]
  generalize up s1 72 18 2 = s2 at d1 d2 ⊢
  refine s_R_packedCost scr hP (mR_fr d1 (by omega) (by omega) hm) (Or.inr rfl) (okRow_w (Or.inl rfl) ok) d2 _ fun s3 k1 => ⟨_, rfl, ?_⟩
  have d3 : Fr (fun a b => a = 72 ∨ FQ a b) s s3 := d1.tr k1 fun _ _ z => Or.inr z
  simp [T_R, G_R, i18]
  have f1 : Fr (fun a b => a = 72 ∨ FQ a b) s (up s3 72 18 4) := d3.up _ (Or.inl rfl)
  have w3 : mRw 72 (fset w 18 2) s3 := mRw_fr k1 (by omega) d2
  have f2 : mRw 72 (fset w 18 4) (up s3 72 18 4) := fun k hk => by
    simp only [up_get, true_and, fset]
    split
    · rfl
    · next q => rw [w3 k hk]; simp only [fset]; rw [if_neg q]
  generalize up s3 72 18 4 = s4 at f1 f2 ⊢
  refine s_R_packedCost scr hP (mR_fr f1 (by omega) (by omega) hm) (Or.inr rfl) (okRow_w (Or.inr rfl) ok) f2 _ fun s5 q1 => ⟨_, rfl, ?_⟩
  have h := h s5 (f1.tr q1 fun _ _ z => Or.inr z)
  rw [ga1, gb1] at h ⊢
  simp only [cmp]
  by_cases c : nI ga < nI gb
  · simp [c] at h ⊢; exact h
  · simp [c] at h ⊢; exact h
