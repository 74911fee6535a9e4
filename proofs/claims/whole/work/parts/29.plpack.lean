theorem wfP_B {P : PC} {w : Nat} {b : List Nat} (hP : okP P) (h : wfP P w b) : wfB w b := ⟨h.1, fun x hx => Nat.lt_of_lt_of_le (h.2 x hx) hP.1⟩
theorem mask0 {P : PC} {f : Nat → Nat → Bool} {w : Nat} {B : List Nat} (hP : okP P) (hB : wfP P w B) {i : Nat} {m : Int32} (hm : ∀ k, k < 32 → bt m k = pDep f k i) : (m &&& mS B = 0) = (allB (fun l => !pDep f (ln B l) i) w = true) := by
  have h16 := hP.1
  rw [b_eq0, allB_iff]
  apply propext
  constructor
  · intro q l hl
    have L := wfP_ln hB hl
    have := q (ln B l) (by omega)
    rw [b_and, mS_bit _ (by omega), hm _ (by omega), show B.contains (ln B l) = true by simpa using ln_mem (wfP_B hP hB) hl] at this
    simpa using this
  · intro q k hk
    rw [b_and, mS_bit _ hk, hm _ hk]
    by_cases c : k ∈ B
    · obtain ⟨l, hl, rfl⟩ := (mem_ln (wfP_B hP hB)).mp c
      have := q l hl
      simp at this
      simp [this]
    · simp [c]
theorem sSq_I1 {i : Nat} {e : PX Int32} {r : PS} {kn kb kc : LV → HV → Prop} {kr : Option Value → HV → Prop} {ls : LV} {h h' : HV} {v : Int32} (hc : ∀ K : Int32 → HV → Prop, K v h' → e ls h K) (hi : i < ls.length) (hr : r kn kb kc kr (lset ls i (.int v)) h') : sSq (sI i e) r kn kb kc kr ls h := hc _ ⟨hi, hr⟩
theorem cX {c : PX Bool} {ls : LV} {h h' : HV} {t : Bool} {K : Bool → HV → Prop} (hc : ∀ K : Bool → HV → Prop, c ls h K ↔ K t h') (hk : K t h') : c ls h K := (hc K).mpr hk
theorem s_Links_isPack {P : PC} {b : Nat} (hb : pB b) (scr : List Int32) {s : MS} (hP : okP P) (hm : mC P 6 s) {f : Nat → Nat → Bool} (hf : mFD f (b + 7) (b + 8) P.1 s) {w : Nat} (hw : w = 2 ∨ w = 4) {B : List Nat} (hB : wfP P w B) (Q : Option Value → HV → Prop)
    (h : Q (some (.int (b2i (pPk P (pDep f) w B)))) (hp scr s)) : X_Links_isPack [.ref (b + 6), .int (nI (encN B)), .int (nI w)] (hp scr s) Q := by
  have h16 := hP.1
  have bf := pbf hb
  have L0 := wfP_ln hB (show 0 < w by omega)
  have k0 := (hP.2 _ L0).1
  have hWB := wfP_B hP hB
  have w4 : w ≤ 4 := by omega
  have g0 := mC6 hm L0
  have sl := setN_lt (b := B) fun x hx => hWB.2 x hx
  rw [qPk (pDep_xx f) hB.1 fun x hx => hWB.2 x hx] at h
  simp [X_Links_isPack, B_Links_isPack, lini, lx, Value.category]
  rw [sSq_I (v := nI (ln B 0)) (h' := hp scr s) ?h1 (by simp)]
  case h1 =>
    intro K
    simp [eV, eI, eL, eR, e1, e2, eDI, eDL, eFI, eFL, eFR, eAI, eAZ, eAR, eLen, aN, aC, xV, xS, eX, eIf, eC_b, cA, cO, cN, sSk, sSq, sI, sL, sR, sInc, sF, sFO, sAI, sAZ, sAO, sX, sXp, sIf, sCut, sSqs, sSw, sRt, sRz_g, is01_b, is01_0, is01_1, sRv, sBk, sCt, sCp, lset, lclr, lcut, lini, lx, Value.category, ixOf, b2i_0, b2i_1, show (0 : Int32) = nI 0 from rfl, s_inLane scr s w4 hWB (show 0 < 4 by omega)]
  rw [sSq_I (v := nI (pK P (ln B 0))) (h' := hp scr s) ?h2 (by simp [lset])]
  case h2 =>
    intro K
    simp [eV, eI, eL, eR, e1, e2, eDI, eDL, eFI, eFL, eFR, eAI, eAZ, eAR, eLen, aN, aC, xV, xS, eX, eIf, eC_b, cA, cO, cN, sSk, sSq, sI, sL, sR, sInc, sF, sFO, sAI, sAZ, sAO, sX, sXp, sIf, sCut, sSqs, sSw, sRt, sRz_g, is01_b, is01_0, is01_1, sRv, sBk, sCt, sCp, lset, lclr, lcut, lini, lx, Value.category, ixOf, b2i_0, b2i_1, T_Pack hb, T_Code c6, G6, bf, ixf hP.1 L0, g0]
  rw [sSq_if (t := !pHd P B) ?h3]
  case h3 =>
    intro K
    simp [eV, eI, eL, eR, e1, e2, eDI, eDL, eFI, eFL, eFR, eAI, eAZ, eAR, eLen, aN, aC, xV, xS, eX, eIf, eC_b, cA, cO, cN, sSk, sSq, sI, sL, sR, sInc, sF, sFO, sAI, sAZ, sAO, sX, sXp, sIf, sCut, sSqs, sSw, sRt, sRz_g, is01_b, is01_0, is01_1, sRv, sBk, sCt, sCp, lset, lclr, lcut, lini, lx, Value.category, ixOf, b2i_0, b2i_1]
    simp (disch := omega) only [LIT, L_0le, L_0lt, L_0eq, L_eq0, L_le0, L_lt0, L_1eq, L_eq1, L_1le, L_1lt, L_lt1, L_le1, L_p1, nI_ltI, nI_leI, nI_eq, nI_add, nI_clamp]
    unfold pHd
    by_cases c1 : pK P (ln B 0) = 1 <;> by_cases c2 : pK P (ln B 0) = 5 <;> simp_all
  cases hH : pHd P B with
  | false =>
    rw [hH] at h
    simp [eV, eI, eL, eR, e1, e2, eDI, eDL, eFI, eFL, eFR, eAI, eAZ, eAR, eLen, aN, aC, xV, xS, eX, eIf, eC_b, cA, cO, cN, sSk, sSq, sI, sL, sR, sInc, sF, sFO, sAI, sAZ, sAO, sX, sXp, sIf, sCut, sSqs, sSw, sRt, sRz_g, is01_b, is01_0, is01_1, sRv, sBk, sCt, sCp, lset, lclr, lcut, lini, lx, Value.category, ixOf, b2i_0, b2i_1]
    exact h
  | true =>
    rw [hH] at h
    simp only [Bool.true_and] at h
    simp only [Bool.not_true, Bool.false_eq_true, if_false, sSk_eq]
    refine sSq_I1 (v := mS B) (h' := hp scr s) ?h4 (by simp [lset]) ?h5
    case h4 =>
      intro K hK
      simp [eV, eI, eL, eR, e1, e2, eDI, eDL, eFI, eFL, eFR, eAI, eAZ, eAR, eLen, aN, aC, xV, xS, eX, eIf, eC_b, cA, cO, cN, sSk, sSq, sI, sL, sR, sInc, sF, sFO, sAI, sAZ, sAO, sX, sXp, sIf, sCut, sSqs, sSw, sRt, sRz_g, is01_b, is01_0, is01_1, sRv, sBk, sCt, sCp, lset, lclr, lcut, lini, lx, Value.category, ixOf, b2i_0, b2i_1]
      exact s_setOf scr s w4 hWB _ (by simpa using hK)
    case h5 =>
      rw [sSq_if (t := !decide (dif B = w)) ?h6]
      case h6 =>
        intro K
        have := cnt_le (fun i => (setN B).testBit i) 16
        have e : cnt (fun i => (setN B).testBit i) 16 = dif B := cnt_cong fun k _ => setN_bit B k
        simp [eV, eI, eL, eR, e1, e2, eDI, eDL, eFI, eFL, eFR, eAI, eAZ, eAR, eLen, aN, aC, xV, xS, eX, eIf, eC_b, cA, cO, cN, sSk, sSq, sI, sL, sR, sInc, sF, sFO, sAI, sAZ, sAO, sX, sXp, sIf, sCut, sSqs, sSw, sRt, sRz_g, is01_b, is01_0, is01_1, sRv, sBk, sCt, sCp, lset, lclr, lcut, lini, lx, Value.category, ixOf, b2i_0, b2i_1, mS, s_bitCount scr s sl]
        simp (disch := omega) only [LIT, L_0le, L_0lt, L_0eq, L_eq0, L_le0, L_lt0, L_1eq, L_eq1, L_1le, L_1lt, L_lt1, L_le1, L_p1, nI_ltI, nI_leI, nI_eq, nI_add, nI_clamp]
        rw [e]
      cases hD : decide (dif B = w) with
      | false =>
        rw [hD] at h
        simp [eV, eI, eL, eR, e1, e2, eDI, eDL, eFI, eFL, eFR, eAI, eAZ, eAR, eLen, aN, aC, xV, xS, eX, eIf, eC_b, cA, cO, cN, sSk, sSq, sI, sL, sR, sInc, sF, sFO, sAI, sAZ, sAO, sX, sXp, sIf, sCut, sSqs, sSw, sRt, sRz_g, is01_b, is01_0, is01_1, sRv, sBk, sCt, sCp, lset, lclr, lcut, lini, lx, Value.category, ixOf, b2i_0, b2i_1]
        exact h
      | true =>
        rw [hD] at h
        simp only [Bool.true_and] at h
        simp only [Bool.not_true, Bool.false_eq_true, if_false, sSk_eq]
        simp [eV, eI, eL, eR, e1, e2, eDI, eDL, eFI, eFL, eFR, eAI, eAZ, eAR, eLen, aN, aC, xV, xS, eX, eIf, eC_b, cA, cO, cN, sSk, sSq, sI, sL, sR, sInc, sF, sFO, sAI, sAZ, sAO, sX, sXp, sIf, sCut, sSqs, sSw, sRt, sRz_g, is01_b, is01_0, is01_1, sRv, sBk, sCt, sCp, lset, lclr, lcut, lini, lx, Value.category, ixOf, b2i_0, b2i_1, lset]
        refine lp_ind (fun z ls h => ∃ k, z = w - k ∧ k ≤ w ∧ allB (qLn P (pDep f) w B) k = true ∧ ls = [.ref (b + 6), .int (nI (encN B)), .int (nI w), .int (nI (ln B 0)), .int (nI (pK P (ln B 0))), .int (mS B), .int (nI k), .null] ∧ h = hp scr s) ?_ ⟨0, rfl, by omega, rfl, rfl, rfl⟩
        rintro z ls h' ⟨k, hz, hk, hA, rfl, rfl⟩ X hX
        refine cX (t := decide (k < w)) (h' := hp scr s) ?h7 ?h8
        case h7 =>
          intro K
          simp [eV, eI, eL, eR, e1, e2, eDI, eDL, eFI, eFL, eFR, eAI, eAZ, eAR, eLen, aN, aC, xV, xS, eX, eIf, eC_b, cA, cO, cN, sSk, sSq, sI, sL, sR, sInc, sF, sFO, sAI, sAZ, sAO, sX, sXp, sIf, sCut, sSqs, sSw, sRt, sRz_g, is01_b, is01_0, is01_1, sRv, sBk, sCt, sCp, lset, lclr, lcut, lini, lx, Value.category, ixOf, b2i_0, b2i_1]
          simp (disch := omega) only [LIT, L_0le, L_0lt, L_0eq, L_eq0, L_le0, L_lt0, L_1eq, L_eq1, L_1le, L_1lt, L_lt1, L_le1, L_p1, nI_ltI, nI_leI, nI_eq, nI_add, nI_clamp]
        case h8 =>
          by_cases hlt : k < w
          · have Lk := wfP_ln hB hlt
            have kk := (hP.2 _ Lk).1
            have gk := mC6 hm Lk
            have no : qLn P (pDep f) w B k = false → Q (some (.int 0)) (hp scr s) := by
              intro q
              have : allB (qLn P (pDep f) w B) (k + 1) = false := by rw [allB, q, Bool.and_false]
              rw [allB_no this hlt] at h
              exact h
            have yes : qLn P (pDep f) w B k = true → X [.ref (b + 6), .int (nI (encN B)), .int (nI w), .int (nI (ln B 0)), .int (nI (pK P (ln B 0))), .int (mS B), .int (nI (k + 1)), .null] (hp scr s) := fun q => hX (w - (k + 1)) _ _ (by omega) ⟨k + 1, rfl, hlt, by rw [allB, hA, q]; rfl, rfl, rfl⟩
            have mk := mask0 hP hB (i := ln B k) (m := s.1 (b + 8) (ln B k)) fun a ha => (hf _ Lk _ ha).2
            simp only [hlt, decide_true, if_true, sCut]
            rw [sSq_I (v := nI (ln B k)) (h' := hp scr s) ?h9 (by simp)]
            case h9 =>
              intro K
              simp [eV, eI, eL, eR, e1, e2, eDI, eDL, eFI, eFL, eFR, eAI, eAZ, eAR, eLen, aN, aC, xV, xS, eX, eIf, eC_b, cA, cO, cN, sSk, sSq, sI, sL, sR, sInc, sF, sFO, sAI, sAZ, sAO, sX, sXp, sIf, sCut, sSqs, sSw, sRt, sRz_g, is01_b, is01_0, is01_1, sRv, sBk, sCt, sCp, lset, lclr, lcut, lini, lx, Value.category, ixOf, b2i_0, b2i_1, s_inLane scr s w4 hWB (show k < 4 by omega)]
            rw [sSq_if (t := !(decide (pK P (ln B k) = pK P (ln B 0)) && allB (fun l => !pDep f (ln B l) (ln B k)) w)) ?h10]
            case h10 =>
              intro K
              simp [eV, eI, eL, eR, e1, e2, eDI, eDL, eFI, eFL, eFR, eAI, eAZ, eAR, eLen, aN, aC, xV, xS, eX, eIf, eC_b, cA, cO, cN, sSk, sSq, sI, sL, sR, sInc, sF, sFO, sAI, sAZ, sAO, sX, sXp, sIf, sCut, sSqs, sSw, sRt, sRz_g, is01_b, is01_0, is01_1, sRv, sBk, sCt, sCp, lset, lclr, lcut, lini, lx, Value.category, ixOf, b2i_0, b2i_1, T_Pack hb, T_Code c6, G6, G_Pack hb, bf, ixf hP.1 Lk, gk, mk]
              simp (disch := omega) only [LIT, L_0le, L_0lt, L_0eq, L_eq0, L_le0, L_lt0, L_1eq, L_eq1, L_1le, L_1lt, L_lt1, L_le1, L_p1, nI_ltI, nI_leI, nI_eq, nI_add, nI_clamp]
              by_cases c : pK P (ln B k) = pK P (ln B 0) <;> simp [c]
            unfold qLn at no yes
            cases h12 : decide (pK P (ln B k) = pK P (ln B 0)) && allB (fun l => !pDep f (ln B l) (ln B k)) w with
            | false =>
              rw [h12] at no
              simp [eV, eI, eL, eR, e1, e2, eDI, eDL, eFI, eFL, eFR, eAI, eAZ, eAR, eLen, aN, aC, xV, xS, eX, eIf, eC_b, cA, cO, cN, sSk, sSq, sI, sL, sR, sInc, sF, sFO, sAI, sAZ, sAO, sX, sXp, sIf, sCut, sSqs, sSw, sRt, sRz_g, is01_b, is01_0, is01_1, sRv, sBk, sCt, sCp, lset, lclr, lcut, lini, lx, Value.category, ixOf, b2i_0, b2i_1]
              exact no rfl
            | true =>
              rw [h12] at no yes
              simp only [Bool.and_eq_true, decide_eq_true_eq] at h12
              simp only [Bool.true_and] at no yes
              simp only [Bool.not_true, Bool.false_eq_true, if_false, sSk_eq]
              rw [sIf_if (t := !(!pMem P (ln B k) || decide (pa P (ln B k) = pa P (ln B 0)) && decide (pb P (ln B k) = pb P (ln B 0) + k))) ?h11]
              case h11 =>
                intro K
                have lk : pMem P (ln B k) = true → (pa P (ln B k) < 2 ∧ pb P (ln B k) < 8) ∧ (pa P (ln B 0) < 2 ∧ pb P (ln B 0) < 8) ∧ (pK P (ln B k) = 0 ∨ pK P (ln B k) = 6) ∧ (pK P (ln B 0) = 0 ∨ pK P (ln B 0) = 6) := by
                  intro q2
                  have q3 : pMem P (ln B 0) = true := by
                    unfold pMem at q2 ⊢
                    rw [← h12.1]
                    exact q2
                  obtain ⟨n1, n2⟩ := memf hP Lk q2
                  obtain ⟨n3, n4⟩ := memf hP L0 q3
                  exact ⟨n2, n4, by simpa [pMem] using q2, by simpa [pMem] using q3⟩
                cases hmm : pMem P (ln B k) with
                | false => simp [eV, eI, eL, eR, e1, e2, eDI, eDL, eFI, eFL, eFR, eAI, eAZ, eAR, eLen, aN, aC, xV, xS, eX, eIf, eC_b, cA, cO, cN, sSk, sSq, sI, sL, sR, sInc, sF, sFO, sAI, sAZ, sAO, sX, sXp, sIf, sCut, sSqs, sSw, sRt, sRz_g, is01_b, is01_0, is01_1, sRv, sBk, sCt, sCp, lset, lclr, lcut, lini, lx, Value.category, ixOf, b2i_0, b2i_1, T_Pack hb, T_Code c6, bf, s_Code_usesMemory c6 scr hP hm Lk, hmm, b2i_0]
                | true =>
                  obtain ⟨⟨x1, x2⟩, ⟨x3, x4⟩, x5, x6⟩ := lk hmm
                  rw [if_pos x5, if_pos x5] at gk
                  rw [if_pos x6, if_pos x6] at g0
                  simp [eV, eI, eL, eR, e1, e2, eDI, eDL, eFI, eFL, eFR, eAI, eAZ, eAR, eLen, aN, aC, xV, xS, eX, eIf, eC_b, cA, cO, cN, sSk, sSq, sI, sL, sR, sInc, sF, sFO, sAI, sAZ, sAO, sX, sXp, sIf, sCut, sSqs, sSw, sRt, sRz_g, is01_b, is01_0, is01_1, sRv, sBk, sCt, sCp, lset, lclr, lcut, lini, lx, Value.category, ixOf, b2i_0, b2i_1, T_Pack hb, T_Code c6, G6, bf, ixf hP.1 L0, ixf hP.1 Lk, gk, g0, s_Code_usesMemory c6 scr hP hm Lk, hmm, b2i_0, nI_add]
                  simp (disch := omega) only [LIT, L_0le, L_0lt, L_0eq, L_eq0, L_le0, L_lt0, L_1eq, L_eq1, L_1le, L_1lt, L_lt1, L_le1, L_p1, nI_ltI, nI_leI, nI_eq, nI_add, nI_clamp]
                  by_cases c1 : pa P (ln B k) = pa P (ln B 0) <;> by_cases c2 : pb P (ln B k) = pb P (ln B 0) + k <;> simp [c1, c2]
              cases h13 : (!pMem P (ln B k) || decide (pa P (ln B k) = pa P (ln B 0)) && decide (pb P (ln B k) = pb P (ln B 0) + k)) with
              | false =>
                rw [h13] at no
                simp [eV, eI, eL, eR, e1, e2, eDI, eDL, eFI, eFL, eFR, eAI, eAZ, eAR, eLen, aN, aC, xV, xS, eX, eIf, eC_b, cA, cO, cN, sSk, sSq, sI, sL, sR, sInc, sF, sFO, sAI, sAZ, sAO, sX, sXp, sIf, sCut, sSqs, sSw, sRt, sRz_g, is01_b, is01_0, is01_1, sRv, sBk, sCt, sCp, lset, lclr, lcut, lini, lx, Value.category, ixOf, b2i_0, b2i_1]
                exact no rfl
              | true =>
                rw [h13] at yes
                simp [eV, eI, eL, eR, e1, e2, eDI, eDL, eFI, eFL, eFR, eAI, eAZ, eAR, eLen, aN, aC, xV, xS, eX, eIf, eC_b, cA, cO, cN, sSk, sSq, sI, sL, sR, sInc, sF, sFO, sAI, sAZ, sAO, sX, sXp, sIf, sCut, sSqs, sSw, sRt, sRz_g, is01_b, is01_0, is01_1, sRv, sBk, sCt, sCp, lset, lclr, lcut, lini, lx, Value.category, ixOf, b2i_0, b2i_1, L_p1]
                exact yes rfl
          · have : k = w := by omega
            subst this
            rw [hA] at h
            simp only [Nat.lt_irrefl, decide_false, Bool.false_eq_true, if_false]
            exact h
