def tgt (L : List (List Nat)) (jn : Bool) (i : Nat) : Nat → Bool := if jn then nd L i else fun j => decide (i = j)
theorem mk_set {P : PC} {w : Nat} {L : List (List Nat)} (hP : okP P) (hA : ∀ B, B ∈ L → wfP P w B) (hn : L.flatten.Nodup) {B : List Nat} (hB : B ∈ L) {i : Nat} (hi : i ∈ B) : mk (mS B) (nd L i) := by
  intro j hj
  rw [mS_bit B hj, Bool.eq_iff_iff, nd_iff, List.contains_iff_mem]
  constructor
  · intro q; exact Or.inr ⟨B, hB, hi, q⟩
  · rintro (rfl | ⟨C, c1, c2, c3⟩)
    · exact hi
    · rw [flat_one hn B C hB c1 i hi c2]; exact c3
theorem mk_one {i : Nat} (hi : i < 32) : mk ((1 : Int32) <<< (nI i &&& 31)) (fun j => decide (i = j)) := by
  intro j hj
  rw [b_bit hi hj]
  simp [eq_comm]
theorem s_Pack_joinTree {P : PC} {b : Nat} (hb : pB b) (scr : List Int32) {s : MS} (hP : okP P) {w n : Nat} (hw : w = 2 ∨ w = 4) (hwd : s.1 b 3 = nI w) {kp : Nat → Bool} {T : TS} (ho : okT P w T n) (hT : mTP b w kp T s) (jn : Bool) (Q : Option Value → HV → Prop)
    (h : ∀ s', Fr (fun r _ => r = b + 1) s s' → (∀ i, T.1.flatten.contains i = true → mk (s'.1 (b + 1) i) (tgt T.1 jn i)) → (∀ i, T.1.flatten.contains i = false → s'.1 (b + 1) i = s.1 (b + 1) i) → Q none (hp scr s')) : X_Pack_joinTree [.ref b, .int (b2i jn)] (hp scr s) Q := by
  have h16 := hP.1
  have bf := pbf hb
  have w4 : w ≤ 4 := by omega
  have l8 := (okT_8 hP hw ho).1
  obtain ⟨t1, t2, t3, t4, t5, t6, t7, t8, t9⟩ := hT
  simp [X_Pack_joinTree, B_Pack_joinTree, eV, eI, eL, eR, e1, e2, eDI, eDL, eFI, eFL, eFR, eAI, eAZ, eAR, eLen, aN, aC, xV, xS, eX, eIf, eC_b, cA, cO, cN, sSk, sSq, sI, sL, sR, sInc, sF, sFO, sAI, sAZ, sAO, sX, sXp, sIf, sCut, sSqs, sSw, sRt, sRz_g, is01_b, is01_0, is01_1, sRv, sBk, sCt, sCp, lset, lclr, lcut, lini, lx, Value.category, ixOf, b2i_0, b2i_1]
  refine lp_ind (fun z ls h => ∃ p s', z = T.1.length - p ∧ p ≤ T.1.length ∧ ls = [.ref b, .int (b2i jn), .int (nI p), .null, .null, .null] ∧ h = hp scr s' ∧ Fr (fun r _ => r = b + 1) s s' ∧ (∀ q, q < p → ∀ k, k < w → mk (s'.1 (b + 1) (ln (T.1.getD q []) k)) (tgt T.1 jn (ln (T.1.getD q []) k))) ∧ (∀ i, T.1.flatten.contains i = false → s'.1 (b + 1) i = s.1 (b + 1) i)) ?_ ⟨0, s, rfl, by omega, rfl, rfl, Fr.rf, fun q hq => by omega, fun i _ => rfl⟩
  rintro z ls h' ⟨p, s1, hz, hp1, rfl, rfl, g1, g2, g3⟩ X hX
  have e3 : s1.1 (b + 10) 3 = nI T.1.length := by rw [g1.2 _ _ (by omega), t3]
  refine cX (t := decide (p < T.1.length)) (h' := hp scr s1) ?h1 ?h2
  case h1 =>
    intro K
    simp [eV, eI, eL, eR, e1, e2, eDI, eDL, eFI, eFL, eFR, eAI, eAZ, eAR, eLen, aN, aC, xV, xS, eX, eIf, eC_b, cA, cO, cN, sSk, sSq, sI, sL, sR, sInc, sF, sFO, sAI, sAZ, sAO, sX, sXp, sIf, sCut, sSqs, sSw, sRt, sRz_g, is01_b, is01_0, is01_1, sRv, sBk, sCt, sCp, lset, lclr, lcut, lini, lx, Value.category, ixOf, b2i_0, b2i_1, T_Pack hb, bf, e3]
    simp (disch := omega) only [LIT, L_0le, L_0lt, L_0eq, L_eq0, L_le0, L_lt0, L_1eq, L_eq1, L_1le, L_1lt, L_lt1, L_le1, L_p1, nI_ltI, nI_leI, nI_eq, nI_add, nI_clamp]
  case h2 =>
    by_cases hlt : p < T.1.length
    · have hBm := getD_mem hlt
      have hB := ho.1 _ hBm
      have hWB := wfP_B hP hB
      have e11 : s1.1 (b + 11) p = nI (encN (T.1.getD p [])) := by rw [g1.2 _ _ (by omega)]; exact t8 p hlt
      have ew : s1.1 b 3 = nI w := by rw [g1.2 _ _ (by omega), hwd]
      have memF : ∀ k, k < w → T.1.flatten.contains (ln (T.1.getD p []) k) = true := fun k hk => (in_flat hP ho.1).mpr ⟨p, k, hlt, hk, rfl⟩
      have setm : ∀ k, k < w → mk (mS (T.1.getD p [])) (nd T.1 (ln (T.1.getD p []) k)) := fun k hk => mk_set hP ho.1 ho.2.1 hBm (ln_mem hWB hk)
      simp only [hlt, decide_true, if_true, sCut]
      refine sSq_I1 (v := mS (T.1.getD p [])) (h' := hp scr s1) ?h3 (by simp) ?h4
      case h3 =>
        intro K hK
        generalize T.1.getD p [] = B at *
        simp [eV, eI, eL, eR, e1, e2, eDI, eDL, eFI, eFL, eFR, eAI, eAZ, eAR, eLen, aN, aC, xV, xS, eX, eIf, eC_b, cA, cO, cN, sSk, sSq, sI, sL, sR, sInc, sF, sFO, sAI, sAZ, sAO, sX, sXp, sIf, sCut, sSqs, sSw, sRt, sRz_g, is01_b, is01_0, is01_1, sRv, sBk, sCt, sCp, lset, lclr, lcut, lini, lx, Value.category, ixOf, b2i_0, b2i_1, T_Pack hb, G_Pack hb, bf, ix80 (show p < 8 by omega) (by decide), e11, ew]
        exact s_setOf scr s1 w4 hWB _ (by simpa using hK)
      case h4 =>
        generalize hBd : T.1.getD p [] = B at *
        simp [eV, eI, eL, eR, e1, e2, eDI, eDL, eFI, eFL, eFR, eAI, eAZ, eAR, eLen, aN, aC, xV, xS, eX, eIf, eC_b, cA, cO, cN, sSk, sSq, sI, sL, sR, sInc, sF, sFO, sAI, sAZ, sAO, sX, sXp, sIf, sCut, sSqs, sSw, sRt, sRz_g, is01_b, is01_0, is01_1, sRv, sBk, sCt, sCp, lset, lclr, lcut, lini, lx, Value.category, ixOf, b2i_0, b2i_1]
        refine lp_ind (fun z ls h => ∃ k s', z = w - k ∧ k ≤ w ∧ ls = [.ref b, .int (b2i jn), .int (nI p), .int (mS B), .int (nI k), .null] ∧ h = hp scr s' ∧ Fr (fun r _ => r = b + 1) s s' ∧ (∀ j, j < k → mk (s'.1 (b + 1) (ln B j)) (tgt T.1 jn (ln B j))) ∧ (∀ q, q < p → ∀ k, k < w → mk (s'.1 (b + 1) (ln (T.1.getD q []) k)) (tgt T.1 jn (ln (T.1.getD q []) k))) ∧ (∀ i, T.1.flatten.contains i = false → s'.1 (b + 1) i = s.1 (b + 1) i)) ?_ ⟨0, s1, rfl, by omega, rfl, rfl, g1, fun j hj => by omega, g2, g3⟩
        rintro z2 ls h' ⟨k, s2, hz2, hk, rfl, rfl, f1, f2, f3, f4⟩ X2 hX2
        have ew2 : s2.1 b 3 = nI w := by rw [f1.2 _ _ (by omega), hwd]
        have e112 : s2.1 (b + 11) p = nI (encN B) := by rw [f1.2 _ _ (by omega), t8 p hlt, hBd]
        refine cX (t := decide (k < w)) (h' := hp scr s2) ?h5 ?h6
        case h5 =>
          intro K
          simp [eV, eI, eL, eR, e1, e2, eDI, eDL, eFI, eFL, eFR, eAI, eAZ, eAR, eLen, aN, aC, xV, xS, eX, eIf, eC_b, cA, cO, cN, sSk, sSq, sI, sL, sR, sInc, sF, sFO, sAI, sAZ, sAO, sX, sXp, sIf, sCut, sSqs, sSw, sRt, sRz_g, is01_b, is01_0, is01_1, sRv, sBk, sCt, sCp, lset, lclr, lcut, lini, lx, Value.category, ixOf, b2i_0, b2i_1, T_Pack hb, bf, ew2]
          simp (disch := omega) only [LIT, L_0le, L_0lt, L_0eq, L_eq0, L_le0, L_lt0, L_1eq, L_eq1, L_1le, L_1lt, L_lt1, L_le1, L_p1, nI_ltI, nI_leI, nI_eq, nI_add, nI_clamp]
        case h6 =>
          by_cases hlt2 : k < w
          · have Lk := wfP_ln hB hlt2
            have go := fun v (hv : mk v (tgt T.1 jn (ln B k))) => hX2 (w - (k + 1)) [.ref b, .int (b2i jn), .int (nI p), .int (mS B), .int (nI (k + 1)), .null] (hp scr (up s2 (b + 1) (ln B k) v)) (by rw [hz2]; omega) ⟨k + 1, _, rfl, hlt2, rfl, rfl, f1.up _ rfl, fun j hj => by
                by_cases c : ln B j = ln B k
                · rw [c, up_same]; exact hv
                · simp only [up_get, true_and, c, if_false]
                  have : j ≠ k := by rintro rfl; exact c rfl
                  exact f2 j (by omega), fun q hq l hl => by
                by_cases c : ln (T.1.getD q []) l = ln B k
                · rw [c, up_same]; exact hv
                · simp only [up_get, true_and, c, if_false]
                  exact f3 q hq l hl, fun i hi => by
                have : i ≠ ln B k := by rintro rfl; rw [memF k hlt2] at hi; simp at hi
                simp only [up_get, true_and, this, if_false]
                exact f4 i hi⟩
            simp only [hlt2, decide_true, if_true]
            simp [eV, eI, eL, eR, e1, e2, eDI, eDL, eFI, eFL, eFR, eAI, eAZ, eAR, eLen, aN, aC, xV, xS, eX, eIf, eC_b, cA, cO, cN, sSk, sSq, sI, sL, sR, sInc, sF, sFO, sAI, sAZ, sAO, sX, sXp, sIf, sCut, sSqs, sSw, sRt, sRz_g, is01_b, is01_0, is01_1, sRv, sBk, sCt, sCp, lset, lclr, lcut, lini, lx, Value.category, ixOf, b2i_0, b2i_1, T_Pack hb, G_Pack hb, bf, ix80 (show p < 8 by omega) (by decide), e112, s_inLane scr s2 w4 hWB (show k < 4 by omega), ixf hP.1 Lk, b2i_0, L_p1]
            cases jn with
            | true => simp; exact ⟨by omega, go _ (setm k hlt2)⟩
            | false => simp; exact ⟨by omega, go _ (mk_one (by omega))⟩
          · have : k = w := by omega
            subst this
            simp only [hlt2, decide_false, Bool.false_eq_true, if_false]
            simp [eV, eI, eL, eR, e1, e2, eDI, eDL, eFI, eFL, eFR, eAI, eAZ, eAR, eLen, aN, aC, xV, xS, eX, eIf, eC_b, cA, cO, cN, sSk, sSq, sI, sL, sR, sInc, sF, sFO, sAI, sAZ, sAO, sX, sXp, sIf, sCut, sSqs, sSw, sRt, sRz_g, is01_b, is01_0, is01_1, sRv, sBk, sCt, sCp, lset, lclr, lcut, lini, lx, Value.category, ixOf, b2i_0, b2i_1, L_p1]
            refine hX _ _ _ (by rw [hz]; omega) ⟨p + 1, s2, rfl, hlt, rfl, rfl, f1, fun q hq l hl => ?_, f4⟩
            rcases Nat.lt_succ_iff_lt_or_eq.mp hq with r | r
            · exact f3 q r l hl
            · rw [r, hBd]; exact f2 l hl
    · have : p = T.1.length := by omega
      subst this
      simp only [hlt, decide_false, Bool.false_eq_true, if_false]
      refine h s1 g1 (fun i hi => ?_) g3
      obtain ⟨q, k, hq, hk, rfl⟩ := (in_flat hP ho.1).mp hi
      exact g2 q hq k hk
