theorem mPk_fr {P : PC} {b w : Nat} {C : CS} {F : Nat → Nat → Prop} {s s' : MS} (h : Fr F s s') (a : ∀ k, (k = 3 ∨ 10 ≤ k) → ¬ F b k) (c : ∀ r k, b + 1 ≤ r → r ≤ b + 3 → ¬ F r k) (hm : mPk P b w C s) : mPk P b w C s' := by
  obtain ⟨h1, h2, h3, h4, h5, h6, h7, h8⟩ := hm
  refine ⟨by rw [h.2 _ _ (a _ (by omega))]; exact h1, by rw [h.2 _ _ (a _ (by omega))]; exact h2, by rw [h.2 _ _ (a _ (by omega))]; exact h3, by rw [h.2 _ _ (a _ (by omega))]; exact h4, by rw [h.2 _ _ (a _ (by omega))]; exact h5, mPt_fr h (fun k => c _ _ (by omega) (by omega)) h6, NR_fr h (fun k => c _ _ (by omega) (by omega)) h7, ?_⟩
  exact ⟨fun i hi hc => by rw [h.2 _ _ (c _ _ (by omega) (by omega))]; exact h8.1 i hi hc, fun p hp k hk => by rw [h.2 _ _ (c _ _ (by omega) (by omega))]; exact h8.2 p hp k hk⟩
theorem on_of {P : PC} {out : Nat → Bool} {w : Nat} {K : List (List Nat)} (h : okC P out w K) : ∀ i j, out i = true → nd K i j = true → out j = true := by
  intro i j hi q
  rw [nd_iff] at q
  rcases q with rfl | ⟨B, b1, b2, b3⟩
  · exact hi
  · have := h.2.2 i (List.mem_flatten.mpr ⟨B, b1, b2⟩)
    rw [hi] at this
    simp at this
theorem cAt_nx {P : PC} {f : Nat → Nat → Bool} {out : Nat → Bool} {w row cell : Nat} (h : cell < 9 - w) : cAt P f out w (row * (9 - w) + (cell + 1)) = cStep P f out w (cAt P f out w (row * (9 - w) + cell)) row cell := by
  have hdiv : (row * (9 - w) + cell) / (9 - w) = row := by
    rw [Nat.mul_comm, Nat.mul_add_div (by omega), Nat.div_eq_of_lt h]; rfl
  have hmod : (row * (9 - w) + cell) % (9 - w) = cell := by
    rw [Nat.mul_comm, Nat.mul_add_mod, Nat.mod_eq_of_lt h]
  rw [← Nat.add_assoc, cAt, hdiv, hmod]
theorem s_Pack_choosePacks {P : PC} {b : Nat} (hb : pB b) (scr : List Int32) {s : MS} (hP : okP P) (hm : mC P 6 s) {r : Nat} (hr : r = 20 ∨ r = 21 ∨ r = 22) {base known w : Nat} (hw : mRow r s base known w) (hs : okS base known w) {om : Int32} {out : Nat → Bool} (ho : mk om out) (hol : ∀ k, out k = true → k < P.1) (ho6 : ∀ i, i < P.1 → out i = true → pK P i = 6) (Q : Option Value → HV → Prop)
    (h : ∀ s', Fr (fun r _ => b ≤ r ∧ r ≤ b + 12) s s' → mFD (pFol P base known out) (b + 7) (b + 8) P.1 s' → mPk P b w (cAt P (pFol P base known out) out w (2 * (9 - w))) s' → mOr b (sFin P (gF (pFol P base known out)) (cAt P (pFol P base known out) out w (2 * (9 - w))).1 out).2.2.2 s' → (∀ j, j < P.1 → (sFin P (gF (pFol P base known out)) (cAt P (pFol P base known out) out w (2 * (9 - w))).1 out).1 j = true → out j = false → s'.1 (b + 4) j = nI ((sFin P (gF (pFol P base known out)) (cAt P (pFol P base known out) out w (2 * (9 - w))).1 out).2.2.1 j)) → Q none (hp scr s')) : X_Pack_choosePacks [.ref b, .ref r, .int om] (hp scr s) Q := by
  have h16 := hP.1
  have bf := pbf hb
  have ww := hs.2.2
  simp [X_Pack_choosePacks, B_Pack_choosePacks, eV, eI, eL, eR, e1, e2, eDI, eDL, eFI, eFL, eFR, eAI, eAZ, eAR, eLen, aN, aC, xV, xS, eX, eIf, eC_b, cA, cO, cN, sSk, sSq, sI, sL, sR, sInc, sF, sFO, sAI, sAZ, sAO, sX, sXp, sIf, sCut, sSqs, sSw, sRt, sRz_g, is01_b, is01_0, is01_1, sRv, sBk, sCt, sCp, lset, lclr, lcut, lini, lx, Value.category, ixOf, b2i_0, b2i_1, T_Pack hb, bf]
  refine s_Pack_keepNothing hb scr hP hm hr hw hs (out := out) (fun k hk => ho k (by omega)) _ fun s1 g1 g2 g3 g4 g5 => ⟨rfl, ?_⟩
  generalize hfd : pFol P base known out = f at *
  have hfo : ∀ k j, f k j = true → out k = false ∧ out j = false := by
    intro k j q
    rw [← hfd] at q
    unfold pFol at q
    simp only [Bool.and_eq_true, Bool.not_eq_true'] at q
    exact q.1
  have st : ∀ s', Fr (FC b) s1 s' → mC P 6 s' ∧ mFD f (b + 7) (b + 8) P.1 s' ∧ mU (pG P out) (b + 9) P.1 s' ∧ mk (s'.1 (b + 6) 4) out := fun s' q => ⟨mC_fr q (by omega) (by omega) (mC_fr g1 (by omega) (by omega) hm), mFD_fr q (by omega) (by omega) g3, mU_fr q (by omega) g4, by rw [q.2 _ _ (by omega), g2]; exact ho⟩
  refine lp_ind (fun z ls h => ∃ row s', z = 2 - row ∧ row ≤ 2 ∧ ls = [.ref b, .ref r, .int om, .int (nI row), .null, .null] ∧ h = hp scr s' ∧ Fr (FC b) s1 s' ∧ mPk P b w (cAt P f out w (row * (9 - w))) s') ?_ ⟨0, s1, rfl, by omega, rfl, rfl, Fr.rf, by rw [Nat.zero_mul]; exact g5⟩
  rintro z ls h' ⟨row, s2, hz, hrow, rfl, rfl, f1, f2⟩ X hX
  obtain ⟨m2, d2, u2, o2⟩ := st s2 f1
  refine cX (t := decide (row < 2)) (h' := hp scr s2) ?h1 ?h2
  case h1 =>
    intro K
    simp [eV, eI, eL, eR, e1, e2, eDI, eDL, eFI, eFL, eFR, eAI, eAZ, eAR, eLen, aN, aC, xV, xS, eX, eIf, eC_b, cA, cO, cN, sSk, sSq, sI, sL, sR, sInc, sF, sFO, sAI, sAZ, sAO, sX, sXp, sIf, sCut, sSqs, sSw, sRt, sRz_g, is01_b, is01_0, is01_1, sRv, sBk, sCt, sCp, lset, lclr, lcut, lini, lx, Value.category, ixOf, b2i_0, b2i_1]
    simp (disch := omega) only [LIT, L_0le, L_0lt, L_0eq, L_eq0, L_le0, L_lt0, L_1eq, L_eq1, L_1le, L_1lt, L_lt1, L_le1, L_p1, nI_ltI, nI_leI, nI_eq, nI_add, nI_clamp]
  case h2 =>
    by_cases hlt : row < 2
    · simp only [hlt, decide_true, if_true]
      simp [eV, eI, eL, eR, e1, e2, eDI, eDL, eFI, eFL, eFR, eAI, eAZ, eAR, eLen, aN, aC, xV, xS, eX, eIf, eC_b, cA, cO, cN, sSk, sSq, sI, sL, sR, sInc, sF, sFO, sAI, sAZ, sAO, sX, sXp, sIf, sCut, sSqs, sSw, sRt, sRz_g, is01_b, is01_0, is01_1, sRv, sBk, sCt, sCp, lset, lclr, lcut, lini, lx, Value.category, ixOf, b2i_0, b2i_1]
      refine lp_ind (fun z ls h => ∃ cell s', z = 9 - w - cell ∧ cell ≤ 9 - w ∧ ls = [.ref b, .ref r, .int om, .int (nI row), .int (nI cell), .null] ∧ h = hp scr s' ∧ Fr (FC b) s1 s' ∧ mPk P b w (cAt P f out w (row * (9 - w) + cell)) s') ?_ ⟨0, s2, rfl, by omega, rfl, rfl, f1, by rw [Nat.add_zero]; exact f2⟩
      rintro z2 ls h' ⟨cell, s3, hz2, hcell, rfl, rfl, q1, q2⟩ X2 hX2
      obtain ⟨m3, d3, u3, o3⟩ := st s3 q1
      have e3 : s3.1 b 3 = nI w := q2.1
      refine cX (t := decide (cell < 9 - w)) (h' := hp scr s3) ?h3 ?h4
      case h3 =>
        intro K
        have e8 : (8 : Int32) - nI w = nI (8 - w) := by rw [show (8 : Int32) = nI 8 from rfl, nI_sub (by omega)]
        have e9 : (nI cell ≤ nI (8 - w)) = (cell < 9 - w) := by
          rw [nI_leI (by omega) (by omega)]
          apply propext; omega
        simp [eV, eI, eL, eR, e1, e2, eDI, eDL, eFI, eFL, eFR, eAI, eAZ, eAR, eLen, aN, aC, xV, xS, eX, eIf, eC_b, cA, cO, cN, sSk, sSq, sI, sL, sR, sInc, sF, sFO, sAI, sAZ, sAO, sX, sXp, sIf, sCut, sSqs, sSw, sRt, sRz_g, is01_b, is01_0, is01_1, sRv, sBk, sCt, sCp, lset, lclr, lcut, lini, lx, Value.category, ixOf, b2i_0, b2i_1, T_Pack hb, bf, e3, e8, e9]
      case h4 =>
        by_cases hlt2 : cell < 9 - w
        · simp only [hlt2, decide_true, if_true, sCut]
          have nx := cAt_nx (P := P) (f := f) (out := out) (row := row) hlt2
          have ok := (cAt_ok (f := f) hP ww ho6 (row * (9 - w) + cell)).1
          generalize cAt P f out w (row * (9 - w) + cell) = C at *
          have kb : mk (s3.1 b 11) (kpf C.1) := by rw [q2.2.2.1]; exact mk_K
          refine sSq_I1 (v := if rtOk P (pDep f) out (kpf C.1) w row cell then nI (encN (rtB P out (kpf C.1) w row cell)) else -9) (h' := hp scr s3) ?h5 (by simp) ?h6
          case h5 =>
            intro K hK
            simp [eV, eI, eL, eR, e1, e2, eDI, eDL, eFI, eFL, eFR, eAI, eAZ, eAR, eLen, aN, aC, xV, xS, eX, eIf, eC_b, cA, cO, cN, sSk, sSq, sI, sL, sR, sInc, sF, sFO, sAI, sAZ, sAO, sX, sXp, sIf, sCut, sSqs, sSw, sRt, sRz_g, is01_b, is01_0, is01_1, sRv, sBk, sCt, sCp, lset, lclr, lcut, lini, lx, Value.category, ixOf, b2i_0, b2i_1, T_Pack hb, bf]
            exact s_Pack_rootAt hb scr hP m3 d3 (fun k hk => o3 k (by omega)) (fun k hk => kb k (by omega)) ww e3 hlt (by omega) _ ⟨_, rfl, hK⟩
          case h6 =>
            cases hrt : rtOk P (pDep f) out (kpf C.1) w row cell with
            | false =>
              have eS : cStep P f out w C row cell = C := by unfold cStep; rw [hrt]; rfl
              rw [eS] at nx
              simp [eV, eI, eL, eR, e1, e2, eDI, eDL, eFI, eFL, eFR, eAI, eAZ, eAR, eLen, aN, aC, xV, xS, eX, eIf, eC_b, cA, cO, cN, sSk, sSq, sI, sL, sR, sInc, sF, sFO, sAI, sAZ, sAO, sX, sXp, sIf, sCut, sSqs, sSw, sRt, sRz_g, is01_b, is01_0, is01_1, sRv, sBk, sCt, sCp, lset, lclr, lcut, lini, lx, Value.category, ixOf, b2i_0, b2i_1, L_p1, show ¬ ((0 : Int32) ≤ -9) by decide]
              exact hX2 _ _ _ (by rw [hz2]; omega) ⟨cell + 1, s3, rfl, hlt2, rfl, rfl, q1, by rw [nx]; exact q2⟩
            | true =>
              have en := enc_lt (show w ≤ 4 by omega) (wfP_B hP (rt_nd hP hrt).1)
              have ep : (0 ≤ nI (encN (rtB P out (kpf C.1) w row cell))) = True := L_0le (by omega)
              simp [eV, eI, eL, eR, e1, e2, eDI, eDL, eFI, eFL, eFR, eAI, eAZ, eAR, eLen, aN, aC, xV, xS, eX, eIf, eC_b, cA, cO, cN, sSk, sSq, sI, sL, sR, sInc, sF, sFO, sAI, sAZ, sAO, sX, sXp, sIf, sCut, sSqs, sSw, sRt, sRz_g, is01_b, is01_0, is01_1, sRv, sBk, sCt, sCp, lset, lclr, lcut, lini, lx, Value.category, ixOf, b2i_0, b2i_1, ep, T_Pack hb, bf]
              refine s_Pack_considerRoot hb scr hP m3 d3 u3 o3 hol ho6 hfo ww ok q2 hrt _ fun s4 k1 k2 => ⟨rfl, ?_⟩
              simp [L_p1]
              exact hX2 _ _ _ (by rw [hz2]; omega) ⟨cell + 1, s4, rfl, hlt2, rfl, rfl, q1.tr k1 fun _ _ z => z, by rw [nx]; exact k2⟩
        · have ec : cell = 9 - w := by omega
          subst ec
          simp only [hlt2, decide_false, Bool.false_eq_true, if_false]
          simp [eV, eI, eL, eR, e1, e2, eDI, eDL, eFI, eFL, eFR, eAI, eAZ, eAR, eLen, aN, aC, xV, xS, eX, eIf, eC_b, cA, cO, cN, sSk, sSq, sI, sL, sR, sInc, sF, sFO, sAI, sAZ, sAO, sX, sXp, sIf, sCut, sSqs, sSw, sRt, sRz_g, is01_b, is01_0, is01_1, sRv, sBk, sCt, sCp, lset, lclr, lcut, lini, lx, Value.category, ixOf, b2i_0, b2i_1, L_p1]
          exact hX _ _ _ (by rw [hz]; omega) ⟨row + 1, s3, rfl, hlt, rfl, rfl, q1, by rw [Nat.succ_mul]; exact q2⟩
    · have er : row = 2 := by omega
      subst er
      have ok := (cAt_ok (f := f) hP ww ho6 (2 * (9 - w))).1
      simp only [hlt, decide_false, Bool.false_eq_true, if_false]
      generalize cAt P f out w (2 * (9 - w)) = C at *
      simp [eV, eI, eL, eR, e1, e2, eDI, eDL, eFI, eFL, eFR, eAI, eAZ, eAR, eLen, aN, aC, xV, xS, eX, eIf, eC_b, cA, cO, cN, sSk, sSq, sI, sL, sR, sInc, sF, sFO, sAI, sAZ, sAO, sX, sXp, sIf, sCut, sSqs, sSw, sRt, sRz_g, is01_b, is01_0, is01_1, sRv, sBk, sCt, sCp, lset, lclr, lcut, lini, lx, Value.category, ixOf, b2i_0, b2i_1, T_Pack hb, bf]
      refine s_Pack_putInOrder hb scr hP m2 d2 ok.1 ok.2.1 f2.2.2.2.2.2.1 o2 hol (on_of ok) _ fun s5 o1 o4 o5 => ⟨⟨_, rfl⟩, ?_⟩
      refine h s5 ?_ (mFD_fr o1 (by omega) (by omega) d2) (mPk_fr o1 (by omega) (by omega) f2) o4 o5
      exact (g1.wk fun r k z => by omega).tr ((f1.wk fun r k z => by omega).tr (o1.wk fun r k z => by omega) fun _ _ z => z) fun r k z => z
theorem s_Pack_gainOfTree {P : PC} {b : Nat} (hb : pB b) (scr : List Int32) {s : MS} (hP : okP P) (hm : mC P 6 s) {f : Nat → Nat → Bool} (hf : mFD f (b + 7) (b + 8) P.1 s) {out : Nat → Bool} (hu : mU (pG P out) (b + 9) P.1 s) (ho : ∀ i, i < P.1 → out i = true → pK P i = 6) {w : Nat} (hw : w = 2 ∨ w = 4) {C : CS} (hC : mPk P b w C s) {r : List Nat} (hr : wfP P w r) (hs : ∀ k, k < w → pK P (ln r k) = 6) (hn : r.Nodup) (Q : Option Value → HV → Prop)
    (h : ∀ s', Fr (FT b) s s' → Q (some (.int (pGain P out (kpf C.1) w (tEnd P (pDep f) (kpf C.1) w r)))) (hp scr s')) : X_Pack_gainOfTree [.ref b, .int (nI (encN r))] (hp scr s) Q := by
  have bf := pbf hb
  simp [X_Pack_gainOfTree, B_Pack_gainOfTree, eV, eI, eL, eR, e1, e2, eDI, eDL, eFI, eFL, eFR, eAI, eAZ, eAR, eLen, aN, aC, xV, xS, eX, eIf, eC_b, cA, cO, cN, sSk, sSq, sI, sL, sR, sInc, sF, sFO, sAI, sAZ, sAO, sX, sXp, sIf, sCut, sSqs, sSw, sRt, sRz_g, is01_b, is01_0, is01_1, sRv, sBk, sCt, sCp, lset, lclr, lcut, lini, lx, Value.category, ixOf, b2i_0, b2i_1, T_Pack hb, bf, hC.1, hC.2.2.1]
  refine s_Tree_grow hb scr hP hm hf hw (kp := kpf C.1) mk_K hr hs hn _ fun s1 g1 g2 => ⟨rfl, ?_⟩
  simp [T_Pack hb, bf]
  refine s_Tree_gain hb scr hP (mC_fr g1 (by omega) (by omega) hm) ho (mU_fr g1 (by omega) hu) hw g2 _ ⟨_, rfl, ?_⟩
  exact h s1 g1
