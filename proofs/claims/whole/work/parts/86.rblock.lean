theorem s_R_first (scr : List Int32) {s : MS} (Q : Option Value → HV → Prop) (h : ∀ s', Fr (fun r _ => r = 71) s s' → (∀ k, k < 16 → s'.1 71 k = nI (k + 1)) → Q none (hp scr s')) : X_R_first [.ref 71] (hp scr s) Q := by
  simp [X_R_first, B_R_first, eV, eI, eL, eR, e1, e2, eDI, eDL, eFI, eFL, eFR, eAI, eAZ, eAR, eLen, aN, aC, xV, xS, eX, eIf, eC_b, cA, cO, cN, sSk, sSq, sI, sL, sR, sInc, sF, sFO, sAI, sAZ, sAO, sX, sXp, sIf, sCut, sSqs, sSw, sRt, sRz_g, is01_b, is01_0, is01_1, sRv, sBk, sCt, sCp, lset, lclr, lcut, lini, lx, Value.category, ixOf, b2i_0, b2i_1]
  refine lp_ind (fun z ls h => ∃ k s', z = 16 - k ∧ k ≤ 16 ∧ ls = [.ref 71, .int (nI k)] ∧ h = hp scr s' ∧ Fr (fun r _ => r = 71) s s' ∧ ∀ b, b < k → s'.1 71 b = nI (b + 1)) ?_ ⟨0, s, rfl, by omega, rfl, rfl, Fr.rf, fun b hb => by omega⟩
  rintro z ls h' ⟨k, s1, hz, hk, rfl, rfl, g1, g2⟩ X hX
  refine cX (t := decide (k < 16)) (h' := hp scr s1) ?h1 ?h2
  case h1 =>
    intro K
    simp [eV, eI, eL, eR, e1, e2, eDI, eDL, eFI, eFL, eFR, eAI, eAZ, eAR, eLen, aN, aC, xV, xS, eX, eIf, eC_b, cA, cO, cN, sSk, sSq, sI, sL, sR, sInc, sF, sFO, sAI, sAZ, sAO, sX, sXp, sIf, sCut, sSqs, sSw, sRt, sRz_g, is01_b, is01_0, is01_1, sRv, sBk, sCt, sCp, lset, lclr, lcut, lini, lx, Value.category, ixOf, b2i_0, b2i_1]
    simp (disch := omega) only [LIT, L_0le, L_0lt, L_0eq, L_eq0, L_le0, L_lt0, L_1eq, L_eq1, L_1le, L_1lt, L_lt1, L_le1, L_p1, nI_ltI, nI_leI, nI_eq, nI_add, nI_clamp]
  case h2 =>
    by_cases hlt : k < 16
    · simp only [hlt, decide_true, if_true]
      simp [eV, eI, eL, eR, e1, e2, eDI, eDL, eFI, eFL, eFR, eAI, eAZ, eAR, eLen, aN, aC, xV, xS, eX, eIf, eC_b, cA, cO, cN, sSk, sSq, sI, sL, sR, sInc, sF, sFO, sAI, sAZ, sAO, sX, sXp, sIf, sCut, sSqs, sSw, sRt, sRz_g, is01_b, is01_0, is01_1, sRv, sBk, sCt, sCp, lset, lclr, lcut, lini, lx, Value.category, ixOf, b2i_0, b2i_1, G_R, ix80 (show k < 19 by omega) (by decide), L_p1]
      refine hX _ _ _ (by rw [hz]; omega) ⟨k + 1, _, rfl, hlt, rfl, rfl, g1.up _ rfl, fun b hb => ?_⟩
      by_cases c : b = k
      · subst c; simp [up_get]
      · simp [up_get, c]; exact g2 b (by omega)
    · have : k = 16 := by omega
      subst this
      simp only [hlt, decide_false, Bool.false_eq_true, if_false]
      exact h s1 g1 g2
theorem r_block {A : AS} (hA : okA A) (scr : List Int32) {s : MS} (h : IR A s) (Q : Option Value → HV → Prop) (hQ : ∀ s', Fr Ft s s' → IR (f_block A).2 s' → Q (some (.int (f_block A).1)) (hp scr s')) : X_R_block [.ref 65] (hp scr s) Q := by
  unfold f_block at hQ
  simp [X_R_block, B_R_block, lini, lx, Value.category]
  refine sSqIf2 (scr := scr) (t := decide (¬ (pRes (aT A)).1 = -9)) (I := fun s1 => Fr Fp s s1 ∧ ((pRes (aT A)).1 = -9 → mRd (pRes (aT A)).2 s1)) ?h1 ?h2
  case h1 =>
    intro K hK
    simp [eV, eI, eL, eR, e1, e2, eDI, eDL, eFI, eFL, eFR, eAI, eAZ, eAR, eLen, aN, aC, xV, xS, eX, eIf, eC_b, cA, cO, cN, sSk, sSq, sI, sL, sR, sInc, sF, sFO, sAI, sAZ, sAO, sX, sXp, sIf, sCut, sSqs, sSw, sRt, sRz_g, is01_b, is01_0, is01_1, sRv, sBk, sCt, sCp, lset, lclr, lcut, lini, lx, Value.category, ixOf, b2i_0, b2i_1, T_R]
    refine s_R_readText scr hA.1.1 hA.1.2 h.1 _ fun s1 g1 g2 => ⟨_, rfl, ?_⟩
    have := hK s1 ⟨g1, g2⟩
    simpa using this
  rintro s1 ⟨g1, g2⟩
  have c1 : IR A s1 := IR_fr g1 (by omega) h
  by_cases q : (pRes (aT A)).1 = -9
  · rw [if_pos q] at hQ
    obtain ⟨p1, p2⟩ := pRes_ok hA.1.1 q
    have p4 : (pRes (aT A)).2.1 = 4 := (pGo_gd (aT A) _ 0 gdS_0 (by have := hA.1.1; omega) q).1
    have h16 := p1.1
    obtain ⟨⟨r43, rb⟩, r40, r41, r42, -⟩ := g2 q
    have r40 := r40 (by omega)
    have r41 := r41 (by omega)
    have r42 := r42 (by omega)
    generalize (pRes (aT A)).2.2.1 = hd at *
    generalize (pRes (aT A)).2.2.2.1 = P at *
    simp only [q, not_true, decide_false, Bool.false_eq_true, if_false, sSk_eq]
    refine sSq_S1 (ls' := [.ref 65, .null]) (scr := scr) (I := fun s2 => Fr (fun r _ => r = 71) s1 s2 ∧ ∀ k, k < 16 → s2.1 71 k = nI (k + 1)) ?a1 ?a2
    case a1 =>
      intro kn hkn
      simp [eV, eI, eL, eR, e1, e2, eDI, eDL, eFI, eFL, eFR, eAI, eAZ, eAR, eLen, aN, aC, xV, xS, eX, eIf, eC_b, cA, cO, cN, sSk, sSq, sI, sL, sR, sInc, sF, sFO, sAI, sAZ, sAO, sX, sXp, sIf, sCut, sSqs, sSw, sRt, sRz_g, is01_b, is01_0, is01_1, sRv, sBk, sCt, sCp, lset, lclr, lcut, lini, lx, Value.category, ixOf, b2i_0, b2i_1, T_R]
      exact s_R_first scr _ fun s2 f1 f2 => ⟨rfl, hkn s2 ⟨f1, f2⟩⟩
    rintro s2 ⟨f1, f2⟩
    have w40 : s2.1 65 40 = nI hd.1 := by rw [f1.2 _ _ (by omega)]; exact r40
    have w41 : s2.1 65 41 = nI hd.2.1 := by rw [f1.2 _ _ (by omega)]; exact r41
    have w42 : s2.1 65 42 = nI hd.2.2 := by rw [f1.2 _ _ (by omega)]; exact r42
    have w43 : s2.1 65 43 = nI P.1 := by rw [f1.2 _ _ (by omega)]; exact r43
    refine sSq_S1 (ls' := [.ref 65, .null]) (scr := scr) (I := fun s3 => s3 = up s2 71 16 (nI hd.1)) ?a3 ?a4
    case a3 => intro kn hkn; simp [eV, eI, eL, eR, e1, e2, eDI, eDL, eFI, eFL, eFR, eAI, eAZ, eAR, eLen, aN, aC, xV, xS, eX, eIf, eC_b, cA, cO, cN, sSk, sSq, sI, sL, sR, sInc, sF, sFO, sAI, sAZ, sAO, sX, sXp, sIf, sCut, sSqs, sSw, sRt, sRz_g, is01_b, is01_0, is01_1, sRv, sBk, sCt, sCp, lset, lclr, lcut, lini, lx, Value.category, ixOf, b2i_0, b2i_1, T_R, G_R, w40, show (16 : Int32).toNatClampNeg = 16 from rfl]; exact hkn _ rfl
    rintro s3 rfl
    refine sSq_S1 (ls' := [.ref 65, .null]) (scr := scr) (I := fun s3 => s3 = up (up s2 71 16 (nI hd.1)) 71 17 (nI hd.2.1)) ?a5 ?a6
    case a5 => intro kn hkn; simp [eV, eI, eL, eR, e1, e2, eDI, eDL, eFI, eFL, eFR, eAI, eAZ, eAR, eLen, aN, aC, xV, xS, eX, eIf, eC_b, cA, cO, cN, sSk, sSq, sI, sL, sR, sInc, sF, sFO, sAI, sAZ, sAO, sX, sXp, sIf, sCut, sSqs, sSw, sRt, sRz_g, is01_b, is01_0, is01_1, sRv, sBk, sCt, sCp, lset, lclr, lcut, lini, lx, Value.category, ixOf, b2i_0, b2i_1, T_R, G_R, up_get, w41, show (17 : Int32).toNatClampNeg = 17 from rfl]; exact hkn _ rfl
    rintro s3 rfl
    refine sSq_S1 (ls' := [.ref 65, .null]) (scr := scr) (I := fun s3 => s3 = up (up (up s2 71 16 (nI hd.1)) 71 17 (nI hd.2.1)) 71 18 (nI hd.2.2)) ?a7 ?a8
    case a7 => intro kn hkn; simp [eV, eI, eL, eR, e1, e2, eDI, eDL, eFI, eFL, eFR, eAI, eAZ, eAR, eLen, aN, aC, xV, xS, eX, eIf, eC_b, cA, cO, cN, sSk, sSq, sI, sL, sR, sInc, sF, sFO, sAI, sAZ, sAO, sX, sXp, sIf, sCut, sSqs, sSw, sRt, sRz_g, is01_b, is01_0, is01_1, sRv, sBk, sCt, sCp, lset, lclr, lcut, lini, lx, Value.category, ixOf, b2i_0, b2i_1, T_R, G_R, up_get, w42, show (18 : Int32).toNatClampNeg = 18 from rfl]; exact hkn _ rfl
    rintro s3 rfl
    refine sSq_S1 (ls' := [.ref 65, .null]) (scr := scr) (I := fun s3 => s3 = up (up (up (up s2 71 16 (nI hd.1)) 71 17 (nI hd.2.1)) 71 18 (nI hd.2.2)) 65 2 (nI P.1)) ?a9 ?a10
    case a9 => intro kn hkn; simp [eV, eI, eL, eR, e1, e2, eDI, eDL, eFI, eFL, eFR, eAI, eAZ, eAR, eLen, aN, aC, xV, xS, eX, eIf, eC_b, cA, cO, cN, sSk, sSq, sI, sL, sR, sInc, sF, sFO, sAI, sAZ, sAO, sX, sXp, sIf, sCut, sSqs, sSw, sRt, sRz_g, is01_b, is01_0, is01_1, sRv, sBk, sCt, sCp, lset, lclr, lcut, lini, lx, Value.category, ixOf, b2i_0, b2i_1, T_R, U_R, up_get, w43]; exact hkn _ rfl
    rintro s3 hs3
    have gg : Fr (fun r k => r = 71 ∨ (r = 65 ∧ k = 2)) s1 s3 := by
      rw [hs3]
      exact ((((f1.wk fun r k z => by omega).up _ (by omega)).up _ (by omega)).up _ (by omega)).up _ (by omega)
    have ww : mRw 71 (row0 hd) s3 := fun k hk => by
      rw [hs3]
      simp only [up_get, row0]
      by_cases a : k < 16
      · have a1 : k ≠ 16 := by omega
        have a2 : k ≠ 17 := by omega
        have a3 : k ≠ 18 := by omega
        simp [a, a1, a2, a3]; exact f2 k a
      · rcases (show k = 16 ∨ k = 17 ∨ k = 18 by omega) with rfl | rfl | rfl <;> simp
    have w2 : s3.1 65 2 = nI P.1 := by rw [hs3]; simp [up_get]
    have rb3 : ∀ i, i < P.1 → s3.1 90 i = nI (pK P i) ∧ s3.1 91 i = nI (pa P i) ∧ (pK P i ≠ 1 → s3.1 92 i = nI (pb P i)) ∧ (pK P i = 6 → s3.1 93 i = nI (pc P i)) := fun i hi => by
      rw [gg.2 _ _ (by omega), gg.2 _ _ (by omega), gg.2 _ _ (by omega), gg.2 _ _ (by omega)]
      exact rb i hi
    clear hs3
    simp [eV, eI, eL, eR, e1, e2, eDI, eDL, eFI, eFL, eFR, eAI, eAZ, eAR, eLen, aN, aC, xV, xS, eX, eIf, eC_b, cA, cO, cN, sSk, sSq, sI, sL, sR, sInc, sF, sFO, sAI, sAZ, sAO, sX, sXp, sIf, sCut, sSqs, sSw, sRt, sRz_g, is01_b, is01_0, is01_1, sRv, sBk, sCt, sCp, lset, lclr, lcut, lini, lx, Value.category, ixOf, b2i_0, b2i_1]
    refine lp_ind (fun z ls h => ∃ k s', z = P.1 - k ∧ k ≤ P.1 ∧ ls = [.ref 65, .int (nI k)] ∧ h = hp scr s' ∧ Fr (fun r _ => 67 ≤ r ∧ r ≤ 70) s3 s' ∧ ∀ i, i < k → s'.1 67 i = nI (pK P i) ∧ s'.1 68 i = nI (pa P i) ∧ (pK P i ≠ 1 → s'.1 69 i = nI (pb P i)) ∧ (pK P i = 6 → s'.1 70 i = nI (pc P i))) ?_ ⟨0, s3, rfl, by omega, rfl, rfl, Fr.rf, fun i hi => by omega⟩
    rintro z ls h' ⟨k, s4, hz, hk, rfl, rfl, k1, k2⟩ X hX
    have v2 : s4.1 65 2 = nI P.1 := by rw [k1.2 _ _ (by omega)]; exact w2
    refine cX (t := decide (k < P.1)) (h' := hp scr s4) ?b1 ?b2
    case b1 =>
      intro K
      simp [eV, eI, eL, eR, e1, e2, eDI, eDL, eFI, eFL, eFR, eAI, eAZ, eAR, eLen, aN, aC, xV, xS, eX, eIf, eC_b, cA, cO, cN, sSk, sSq, sI, sL, sR, sInc, sF, sFO, sAI, sAZ, sAO, sX, sXp, sIf, sCut, sSqs, sSw, sRt, sRz_g, is01_b, is01_0, is01_1, sRv, sBk, sCt, sCp, lset, lclr, lcut, lini, lx, Value.category, ixOf, b2i_0, b2i_1, T_R, v2]
      simp (disch := omega) only [LIT, L_0le, L_0lt, L_0eq, L_eq0, L_le0, L_lt0, L_1eq, L_eq1, L_1le, L_1lt, L_lt1, L_le1, L_p1, nI_ltI, nI_leI, nI_eq, nI_add, nI_clamp]
    case b2 =>
      by_cases hlt : k < P.1
      · obtain ⟨y1, y2, y3, y4⟩ := rb3 k hlt
        have x1 : s4.1 90 k = s3.1 90 k := k1.2 _ _ (by omega)
        have x2 : s4.1 91 k = s3.1 91 k := k1.2 _ _ (by omega)
        have x3 : s4.1 92 k = s3.1 92 k := k1.2 _ _ (by omega)
        have x4 : s4.1 93 k = s3.1 93 k := k1.2 _ _ (by omega)
        simp only [hlt, decide_true, if_true]
        simp [eV, eI, eL, eR, e1, e2, eDI, eDL, eFI, eFL, eFR, eAI, eAZ, eAR, eLen, aN, aC, xV, xS, eX, eIf, eC_b, cA, cO, cN, sSk, sSq, sI, sL, sR, sInc, sF, sFO, sAI, sAZ, sAO, sX, sXp, sIf, sCut, sSqs, sSw, sRt, sRz_g, is01_b, is01_0, is01_1, sRv, sBk, sCt, sCp, lset, lclr, lcut, lini, lx, Value.category, ixOf, b2i_0, b2i_1, T_R, G_R, ix80 (show k < 16 by omega) (by decide), up_get, x1, x2, x3, x4, L_p1]
        refine hX _ _ _ (by rw [hz]; omega) ⟨k + 1, _, rfl, hlt, rfl, rfl, (((k1.up _ (by omega)).up _ (by omega)).up _ (by omega)).up _ (by omega), fun i hi => ?_⟩
        by_cases c : i = k
        · subst c; simp [up_get]; exact ⟨y1, y2, y3, y4⟩
        · simp [up_get, c]; exact k2 i (by omega)
      · have : k = P.1 := by omega
        subst this
        simp only [hlt, decide_false, Bool.false_eq_true, if_false]
        simp [eV, eI, eL, eR, e1, e2, eDI, eDL, eFI, eFL, eFR, eAI, eAZ, eAR, eLen, aN, aC, xV, xS, eX, eIf, eC_b, cA, cO, cN, sSk, sSq, sI, sL, sR, sInc, sF, sFO, sAI, sAZ, sAO, sX, sXp, sIf, sCut, sSqs, sSw, sRt, sRz_g, is01_b, is01_0, is01_1, sRv, sBk, sCt, sCp, lset, lclr, lcut, lini, lx, Value.category, ixOf, b2i_0, b2i_1, T_R, U_R, up_get, show (0 : Int32).toNatClampNeg = 0 from rfl, show (1 : Int32).toNatClampNeg = 1 from rfl, fun s => (Z27 scr s).2.2.1 0 (by decide), fun s => (Z27 scr s).2.2.1 1 (by decide), fun s x => (Z27 scr s).2.2.2.1 0 x (by decide), fun s x => (Z27 scr s).2.2.2.1 1 x (by decide), v2]
        have g5 : Fr (fun r k => (r = 65 ∧ k = 10) ∨ r = 75) s4 (up (up (up s4 65 10 0) 75 0 0) 75 1 0) := ((Fr.rf.up _ (by omega)).up _ (by omega)).up _ (by omega)
        have ga : Fr (fun r k => (67 ≤ r ∧ r ≤ 71) ∨ (r = 65 ∧ (k = 2 ∨ k = 10 ∨ 40 ≤ k)) ∨ r = 75 ∨ (90 ≤ r ∧ r ≤ 93)) s (up (up (up s4 65 10 0) 75 0 0) 75 1 0) := ((g1.wk fun r k z => by omega).tr (gg.wk fun r k z => by omega) fun _ _ z => z).tr ((k1.wk fun r k z => by omega).tr (g5.wk fun r k z => by omega) fun _ _ z => z) fun _ _ z => z
        obtain ⟨i1, i2, i3, ⟨j1, nx, j2, j3, j4⟩, i5, i6⟩ := h
        refine hQ _ (ga.wk fun r k z => by omega) ⟨mTx_fr ga (by omega) (by omega) i1, ⟨by rw [g5.2 _ _ (by omega)]; exact v2, fun i hi => ?_⟩, mRw_fr g5 (by omega) (mRw_fr k1 (by omega) ww), ⟨by simp [up_get]; rfl, nx, j2, by rw [ga.2 _ _ (by omega)]; exact j3, fun m hm => absurd hm (Nat.not_lt_zero m)⟩, fun j hj => ⟨?_, fun w hw => by cases hw⟩, mSg_fr ga (by omega) (by omega) (by omega) i6⟩
        · rw [g5.2 _ _ (by omega), g5.2 _ _ (by omega), g5.2 _ _ (by omega), g5.2 _ _ (by omega)]
          exact k2 i hi
        · rcases (show j = 0 ∨ j = 1 by omega) with rfl | rfl <;> simp [up_get] <;> rfl
  · rw [if_neg q] at hQ
    simp [eV, eI, eL, eR, e1, e2, eDI, eDL, eFI, eFL, eFR, eAI, eAZ, eAR, eLen, aN, aC, xV, xS, eX, eIf, eC_b, cA, cO, cN, sSk, sSq, sI, sL, sR, sInc, sF, sFO, sAI, sAZ, sAO, sX, sXp, sIf, sCut, sSqs, sSw, sRt, sRz_g, is01_b, is01_0, is01_1, sRv, sBk, sCt, sCp, lset, lclr, lcut, lini, lx, Value.category, ixOf, b2i_0, b2i_1, q]
    exact hQ s1 (g1.wk fun r k z => by omega) c1
