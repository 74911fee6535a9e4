def lat (t : List Nat) (n : Nat) : Nat := t.getD n 0
theorem pGo_someL {σ σ' : PSt} {t : List Nat} {n : Nat} (h : n < t.length) (hl : pLet σ (lat t n) = some σ') : pGo σ n (t.drop n) = pGo σ' (n + 1) (t.drop (n + 1)) := pGo_some h hl
theorem pGo_noneL {σ : PSt} {t : List Nat} {n : Nat} (h : n < t.length) (hl : pLet σ (lat t n) = none) : pGo σ n (t.drop n) = (nI n, σ) := pGo_none h hl
abbrev Fpa (c : Nat) : Nat → Nat → Prop := fun r _ => r = 5 ∨ (c ≤ r ∧ r ≤ c + 6)
theorem cX1 {c : PX Bool} {ls : LV} {h h' : HV} {t : Bool} {K : Bool → HV → Prop} (hc : ∀ K : Bool → HV → Prop, K t h' → c ls h K) (hk : K t h') : c ls h K := hc _ hk
theorem s_Src_parse {c : Nat} (hcd : c = 6 ∨ c = 13) (scr : List Int32) {s : MS} {t : List Nat} (hl : t.length ≤ 80) (h256 : ∀ x, x ∈ t → x < 256) (ht : mTx 4 3 2 t s) (Q : Option Value → HV → Prop) (h : ∀ s', Fr (Fpa c) s s' → ((pRes t).1 = -9 → mC (pRes t).2.2.2.1 c s') → Q (some (.int (pRes t).1)) (hp scr s')) : X_Src_parse [.ref 3, .ref c] (hp scr s) Q := by
  have cf := ccf hcd
  have g256 : ∀ n, n < t.length → lat t n < 256 := fun n hn => h256 _ (by unfold lat; rw [List.getD_eq_getElem?_getD, List.getElem?_eq_getElem hn]; exact List.getElem_mem _)
  have nn : ∀ n : Nat, n ≤ 80 → (nI n = -9) = False := fun n hn => nI_n9 (by omega)
  have ts : ∀ s', Fr (Fpa c) s s' → mTx 4 3 2 t s' := fun s' g => mTx_fr g (by omega) (by omega) ht
  simp [X_Src_parse, B_Src_parse, eV, eI, eL, eR, e1, e2, eDI, eDL, eFI, eFL, eFR, eAI, eAZ, eAR, eLen, aN, aC, xV, xS, eX, eIf, eC_b, cA, cO, cN, sSk, sSq, sI, sL, sR, sInc, sF, sFO, sAI, sAZ, sAO, sX, sXp, sIf, sCut, sSqs, sSw, sRt, sRz_g, is01_b, is01_0, is01_1, sRv, sBk, sCt, sCp, lset, lclr, lcut, lini, lx, Value.category, ixOf, b2i_0, b2i_1, X_Code_clear, B_Code_clear, T_Code hcd, U_Code hcd, cf]
  have g0 : Fr (Fpa c) s (up s c 6 0) := Fr.rf.up _ (by omega)
  have m0 : mC e0P c (up s c 6 0) := ⟨by simp [up_get]; rfl, fun i hi => absurd hi (Nat.not_lt_zero i)⟩
  generalize up s c 6 0 = s0 at g0 m0 ⊢
  obtain ⟨x1, x2⟩ := ts s0 g0
  refine lp_ind (fun z ls h => ∃ a hd, z = 4 - a ∧ a ≤ 4 ∧ a ≤ t.length ∧ pGo (a, hd, e0P, 0, []) a (t.drop a) = pRes t ∧ ls = [.ref 3, .ref c, .int (nI a), .null, .null, .null, .null, .null] ∧ h = hp scr s0) ?_ ⟨0, (0, 0, 0), rfl, by omega, by omega, rfl, rfl, rfl⟩
  rintro z ls h' ⟨a, hd, hz, ha, hal, hR, rfl, rfl⟩ X hX
  refine cX (t := decide (a < 4)) (h' := hp scr s0) ?h1 ?h2
  case h1 =>
    intro K
    simp [eV, eI, eL, eR, e1, e2, eDI, eDL, eFI, eFL, eFR, eAI, eAZ, eAR, eLen, aN, aC, xV, xS, eX, eIf, eC_b, cA, cO, cN, sSk, sSq, sI, sL, sR, sInc, sF, sFO, sAI, sAZ, sAO, sX, sXp, sIf, sCut, sSqs, sSw, sRt, sRz_g, is01_b, is01_0, is01_1, sRv, sBk, sCt, sCp, lset, lclr, lcut, lini, lx, Value.category, ixOf, b2i_0, b2i_1]
    simp (disch := omega) only [LIT, L_0le, L_0lt, L_0eq, L_eq0, L_le0, L_lt0, L_1eq, L_eq1, L_1le, L_1lt, L_lt1, L_le1, L_p1, nI_ltI, nI_leI, nI_eq, nI_add, nI_clamp]
  case h2 =>
    by_cases hlt : a < 4
    · have le : (nI t.length ≤ nI a) = (t.length ≤ a) := propext (nI_leI (by omega) (by omega))
      simp only [hlt, decide_true, if_true]
      by_cases hla : a < t.length
      · have hc := g256 a hla
        have e4 : s0.1 4 a = nI (lat t a) := x2 a hla
        have ha2 := fun Q => s_Src_headerAllows scr s0 hlt hc Q
        have nle : ¬ t.length ≤ a := by omega
        simp [eV, eI, eL, eR, e1, e2, eDI, eDL, eFI, eFL, eFR, eAI, eAZ, eAR, eLen, aN, aC, xV, xS, eX, eIf, eC_b, cA, cO, cN, sSk, sSq, sI, sL, sR, sInc, sF, sFO, sAI, sAZ, sAO, sX, sXp, sIf, sCut, sSqs, sSw, sRt, sRz_g, is01_b, is01_0, is01_1, sRv, sBk, sCt, sCp, lset, lclr, lcut, lini, lx, Value.category, ixOf, b2i_0, b2i_1, T_Src, G_Src, x1, le, nle, ix80 (show a < 80 by omega) (by decide), e4]
        cases hok : hdOk a (lat t a) with
        | false =>
          have pl : pLet (a, hd, e0P, 0, []) (lat t a) = none := by simp [pLet, hlt, hok]
          rw [pGo_noneL hla pl] at hR
          have := h s0 g0
          rw [← hR] at this
          generalize lat t a = x at *
          rw [hok] at ha2
          simp [ha2, b2i_f]
          exact this (fun q => by rw [nn a (by omega)] at q; exact q.elim)
        | true =>
          have pl : pLet (a, hd, e0P, 0, []) (lat t a) = some (a + 1, hdPut a (lat t a) hd, e0P, 0, []) := by simp [pLet, hlt, hok]
          rw [pGo_someL hla pl] at hR
          generalize lat t a = x at *
          rw [hok] at ha2
          simp [ha2, b2i_t, L_p1]
          exact hX _ _ _ (by rw [hz]; omega) ⟨a + 1, _, rfl, by omega, by omega, hR, rfl, rfl⟩
      · have hle : t.length ≤ a := by omega
        rw [pGo_end hle] at hR
        have := h s0 g0
        rw [← hR] at this
        have p4 : ¬ a = 4 := by omega
        simp [eV, eI, eL, eR, e1, e2, eDI, eDL, eFI, eFL, eFR, eAI, eAZ, eAR, eLen, aN, aC, xV, xS, eX, eIf, eC_b, cA, cO, cN, sSk, sSq, sI, sL, sR, sInc, sF, sFO, sAI, sAZ, sAO, sX, sXp, sIf, sCut, sSqs, sSw, sRt, sRz_g, is01_b, is01_0, is01_1, sRv, sBk, sCt, sCp, lset, lclr, lcut, lini, lx, Value.category, ixOf, b2i_0, b2i_1, T_Src, x1, le, hle]
        simp [p4] at this
        exact this (fun q => by rw [nn a (by omega)] at q; exact q.elim)
    · have a4 : a = 4 := by omega
      subst a4
      simp only [hlt, decide_false, Bool.false_eq_true, if_false]
      simp [eV, eI, eL, eR, e1, e2, eDI, eDL, eFI, eFL, eFR, eAI, eAZ, eAR, eLen, aN, aC, xV, xS, eX, eIf, eC_b, cA, cO, cN, sSk, sSq, sI, sL, sR, sInc, sF, sFO, sAI, sAZ, sAO, sX, sXp, sIf, sCut, sSqs, sSw, sRt, sRz_g, is01_b, is01_0, is01_1, sRv, sBk, sCt, sCp, lset, lclr, lcut, lini, lx, Value.category, ixOf, b2i_0, b2i_1]
      refine lp_ind (fun z ls h => ∃ a P s1, z = 17 - P.1 ∧ a ≤ t.length ∧ okP P ∧ pGo (4, hd, P, 0, []) a (t.drop a) = pRes t ∧ ls = [.ref 3, .ref c, .int (nI a), .int (nI P.1), .null, .null, .null, .null] ∧ h = hp scr s1 ∧ Fr (Fpa c) s s1 ∧ mC P c s1) ?_ ⟨4, e0P, s0, rfl, hal, gdS_0.1, hR, rfl, rfl, g0, m0⟩
      rintro z ls h' ⟨a, P, s1, hz, hal, hP, hR, rfl, rfl, g1, m1⟩ X hX
      have h16 := hP.1
      obtain ⟨y1, y2⟩ := ts s1 g1
      refine cX (t := decide (a < t.length)) (h' := hp scr s1) ?h3 ?h4
      case h3 =>
        intro K
        have l1 : (nI P.1 ≤ 16) = True := by rw [show (16 : Int32) = nI 16 from rfl]; exact eq_true ((nI_leI (by omega) (by decide)).mpr (by omega))
        have l2 : (nI a < nI t.length) = (a < t.length) := propext (nI_ltI (by omega) (by omega))
        simp [eV, eI, eL, eR, e1, e2, eDI, eDL, eFI, eFL, eFR, eAI, eAZ, eAR, eLen, aN, aC, xV, xS, eX, eIf, eC_b, cA, cO, cN, sSk, sSq, sI, sL, sR, sInc, sF, sFO, sAI, sAZ, sAO, sX, sXp, sIf, sCut, sSqs, sSw, sRt, sRz_g, is01_b, is01_0, is01_1, sRv, sBk, sCt, sCp, lset, lclr, lcut, lini, lx, Value.category, ixOf, b2i_0, b2i_1, T_Src, y1, l1, l2]
      case h4 =>
        by_cases hla : a < t.length
        · have hc := g256 a hla
          have e4 : s1.1 4 a = nI (lat t a) := y2 a hla
          simp only [hla, decide_true, if_true, sCut]
          refine sSq_I1 (v := vO (kindN (lat t a))) (h' := hp scr s1) ?h5 (by simp) ?h6
          case h5 =>
            intro K hK
            simp [eV, eI, eL, eR, e1, e2, eDI, eDL, eFI, eFL, eFR, eAI, eAZ, eAR, eLen, aN, aC, xV, xS, eX, eIf, eC_b, cA, cO, cN, sSk, sSq, sI, sL, sR, sInc, sF, sFO, sAI, sAZ, sAO, sX, sXp, sIf, sCut, sSqs, sSw, sRt, sRz_g, is01_b, is01_0, is01_1, sRv, sBk, sCt, sCp, lset, lclr, lcut, lini, lx, Value.category, ixOf, b2i_0, b2i_1, T_Src, G_Src, ix80 (show a < 80 by omega) (by decide), e4]
            generalize lat t a = x at *
            rw [s_Src_kindOf scr s1 hc]
            exact ⟨_, rfl, hK⟩
          refine sSqIf1 (t := !(match kindN (lat t a) with | some k => begN P k | none => false)) (h' := hp scr s1) ?h7 ?h8
          case h7 =>
            intro K hK
            cases hk : kindN (lat t a) with
            | none =>
              rw [hk] at hK
              simp [eV, eI, eL, eR, e1, e2, eDI, eDL, eFI, eFL, eFR, eAI, eAZ, eAR, eLen, aN, aC, xV, xS, eX, eIf, eC_b, cA, cO, cN, sSk, sSq, sI, sL, sR, sInc, sF, sFO, sAI, sAZ, sAO, sX, sXp, sIf, sCut, sSqs, sSw, sRt, sRz_g, is01_b, is01_0, is01_1, sRv, sBk, sCt, sCp, lset, lclr, lcut, lini, lx, Value.category, ixOf, b2i_0, b2i_1, vO, n9lt]
              simpa using hK
            | some k =>
              have k6 := kindN_6 hk
              have ng : (nI k < 0) = False := L_lt0 (by omega)
              rw [hk] at hK
              simp [eV, eI, eL, eR, e1, e2, eDI, eDL, eFI, eFL, eFR, eAI, eAZ, eAR, eLen, aN, aC, xV, xS, eX, eIf, eC_b, cA, cO, cN, sSk, sSq, sI, sL, sR, sInc, sF, sFO, sAI, sAZ, sAO, sX, sXp, sIf, sCut, sSqs, sSw, sRt, sRz_g, is01_b, is01_0, is01_1, sRv, sBk, sCt, sCp, lset, lclr, lcut, lini, lx, Value.category, ixOf, b2i_0, b2i_1, vO, ng, T_Code hcd, cf]
              refine s_Code_canBegin hcd scr hP m1 k6 _ ⟨_, rfl, ?_⟩
              simp only [b2i_0]
              dsimp only at hK
              generalize begN P k = v at hK ⊢
              cases v <;> simpa using hK
          cases hk : (match kindN (lat t a) with | some k => begN P k | none => false) with
          | false =>
            have pl : pLet (4, hd, P, 0, []) (lat t a) = none := by
              unfold pLet
              cases hq : kindN (lat t a) with
              | none => simp
              | some k => rw [hq] at hk; simp at hk; simp [hk]
            rw [pGo_noneL hla pl] at hR
            have := h s1 g1
            rw [← hR] at this
            simp [eV, eI, eL, eR, e1, e2, eDI, eDL, eFI, eFL, eFR, eAI, eAZ, eAR, eLen, aN, aC, xV, xS, eX, eIf, eC_b, cA, cO, cN, sSk, sSq, sI, sL, sR, sInc, sF, sFO, sAI, sAZ, sAO, sX, sXp, sIf, sCut, sSqs, sSw, sRt, sRz_g, is01_b, is01_0, is01_1, sRv, sBk, sCt, sCp, lset, lclr, lcut, lini, lx, Value.category, ixOf, b2i_0, b2i_1]
            exact this (fun q => by rw [nn a (by omega)] at q; exact q.elim)
          | true =>
            obtain ⟨k, hq, hb⟩ : ∃ k, kindN (lat t a) = some k ∧ begN P k = true := by
              cases hq : kindN (lat t a) with
              | none => rw [hq] at hk; simp at hk
              | some k => rw [hq] at hk; exact ⟨k, rfl, hk⟩
            have k6 := kindN_6 hq
            have b16 : P.1 < 16 := by unfold begN at hb; simp only [Bool.and_eq_true, decide_eq_true_eq] at hb; exact hb.1
            have pl : pLet (4, hd, P, 0, []) (lat t a) = some (5, hd, P, k, []) := by simp [pLet, hq, hb]
            rw [pGo_someL hla pl] at hR
            rw [hq]
            have sz := szN_pos k
            have sz3 : szN k ≤ 3 := by unfold szN; split <;> (try split) <;> omega
            simp only [Bool.not_true, Bool.false_eq_true, if_false, sSk_eq, vO]
            refine sSq_I1 (v := nI (szN k)) (h' := hp scr s1) ?h9 (by simp [lset]) ?h10
            case h9 =>
              intro K hK
              simp [eV, eI, eL, eR, e1, e2, eDI, eDL, eFI, eFL, eFR, eAI, eAZ, eAR, eLen, aN, aC, xV, xS, eX, eIf, eC_b, cA, cO, cN, sSk, sSq, sI, sL, sR, sInc, sF, sFO, sAI, sAZ, sAO, sX, sXp, sIf, sCut, sSqs, sSw, sRt, sRz_g, is01_b, is01_0, is01_1, sRv, sBk, sCt, sCp, lset, lclr, lcut, lini, lx, Value.category, ixOf, b2i_0, b2i_1, s_Src_partsOf scr s1 k6]
              exact hK
            have nil5 : pGo (if ([] : List Nat).length = szN k then (4, hd, addP P k [], 0, []) else (5, hd, P, k, [])) (a + 1 + ([] : List Nat).length) (t.drop (a + 1 + ([] : List Nat).length)) = pRes t := by
              rw [if_neg (by show ¬ 0 = szN k; omega)]
              exact hR
            simp [eV, eI, eL, eR, e1, e2, eDI, eDL, eFI, eFL, eFR, eAI, eAZ, eAR, eLen, aN, aC, xV, xS, eX, eIf, eC_b, cA, cO, cN, sSk, sSq, sI, sL, sR, sInc, sF, sFO, sAI, sAZ, sAO, sX, sXp, sIf, sCut, sSqs, sSw, sRt, sRz_g, is01_b, is01_0, is01_1, sRv, sBk, sCt, sCp, lset, lclr, lcut, lini, lx, Value.category, ixOf, b2i_0, b2i_1]
            refine lp_ind (fun z ls h => ∃ ps s2, z = szN k - ps.length ∧ ps.length ≤ szN k ∧ a + 1 + ps.length ≤ t.length ∧ (∀ q, q < ps.length → okPt P k q (ps.getD q 0)) ∧ pGo (aftN hd P k ps) (a + 1 + ps.length) (t.drop (a + 1 + ps.length)) = pRes t ∧ ls = [.ref 3, .ref c, .int (nI a), .int (nI P.1), .int (nI k), .int (nI (szN k)), .int (nI (ps.length + 1)), .null] ∧ h = hp scr s2 ∧ Fr (Fpa c) s s2 ∧ mC P c s2 ∧ ∀ q, q < ps.length → s2.1 5 (q + 1) = nI (ps.getD q 0)) ?_ ⟨[], s1, rfl, by simp, by simp; omega, fun q hq => by simp at hq, nil5, rfl, rfl, g1, m1, fun q hq => by simp at hq⟩
            rintro z2 ls h' ⟨ps, s2, hz2, hps, hpl, hpo, hR2, rfl, rfl, g2, m2, hcs⟩ X2 hX2
            obtain ⟨w1, w2⟩ := ts s2 g2
            refine cX (t := decide (ps.length < szN k)) (h' := hp scr s2) ?h11 ?h12
            case h11 =>
              intro K
              have l1 : (nI (ps.length + 1) ≤ nI (szN k)) = (ps.length < szN k) := by rw [nI_leI (by omega) (by omega)]; apply propext; omega
              simp [eV, eI, eL, eR, e1, e2, eDI, eDL, eFI, eFL, eFR, eAI, eAZ, eAR, eLen, aN, aC, xV, xS, eX, eIf, eC_b, cA, cO, cN, sSk, sSq, sI, sL, sR, sInc, sF, sFO, sAI, sAZ, sAO, sX, sXp, sIf, sCut, sSqs, sSw, sRt, sRz_g, is01_b, is01_0, is01_1, sRv, sBk, sCt, sCp, lset, lclr, lcut, lini, lx, Value.category, ixOf, b2i_0, b2i_1, l1]
            case h12 =>
              by_cases hlp : ps.length < szN k
              · have e5 : aftN hd P k ps = (5, hd, P, k, ps) := by unfold aftN; rw [if_neg (by omega)]
                rw [e5] at hR2
                have en : nI a + nI (ps.length + 1) = nI (a + 1 + ps.length) := by rw [nI_add]; congr 1; omega
                have l2 : (nI t.length ≤ nI (a + 1 + ps.length)) = (t.length ≤ a + 1 + ps.length) := propext (nI_leI (by omega) (by omega))
                simp only [hlp, decide_true, if_true]
                by_cases hlb : a + 1 + ps.length < t.length
                · have hc2 := g256 _ hlb
                  have e42 : s2.1 4 (a + 1 + ps.length) = nI (lat t (a + 1 + ps.length)) := w2 _ hlb
                  have nlb : ¬ t.length ≤ a + 1 + ps.length := by omega
                  have po := fun Q => s_Src_partOf hcd scr hP m2 k6 (show ps.length + 1 < 10 by omega) hc2 Q
                  simp [eV, eI, eL, eR, e1, e2, eDI, eDL, eFI, eFL, eFR, eAI, eAZ, eAR, eLen, aN, aC, xV, xS, eX, eIf, eC_b, cA, cO, cN, sSk, sSq, sI, sL, sR, sInc, sF, sFO, sAI, sAZ, sAO, sX, sXp, sIf, sCut, sSqs, sSw, sRt, sRz_g, is01_b, is01_0, is01_1, sRv, sBk, sCt, sCp, lset, lclr, lcut, lini, lx, Value.category, ixOf, b2i_0, b2i_1, T_Src, G_Src, w1, en, l2, nlb, ix80 (show a + 1 + ps.length < 80 by omega) (by decide), e42, ix80 (show ps.length + 1 < 4 by omega) (by decide)]
                  cases hv : partN P k (ps.length + 1) (lat t (a + 1 + ps.length)) with
                  | none =>
                    have pl2 : pLet (5, hd, P, k, ps) (lat t (a + 1 + ps.length)) = none := by simp only [pLet]; rw [if_neg (by omega), if_neg (by omega), hv]
                    rw [pGo_noneL hlb pl2] at hR2
                    have fin := h (up s2 5 (ps.length + 1) (-9)) (g2.up _ (Or.inl rfl))
                    rw [← hR2] at fin
                    generalize lat t (a + 1 + ps.length) = x at *
                    rw [hv] at po
                    simp [po, vO, T_Src, G_Src, ix80 (show ps.length + 1 < 4 by omega) (by decide), up_get, n9lt]
                    exact fin (fun q => by rw [nn _ (by omega)] at q; exact q.elim)
                  | some v =>
                    have pl2 : pLet (5, hd, P, k, ps) (lat t (a + 1 + ps.length)) = some (aftN hd P k (ps ++ [v])) := by simp only [pLet]; rw [if_neg (by omega), if_neg (by omega), hv]
                    rw [pGo_someL hlb pl2] at hR2
                    have okv := partN_ok hv
                    have v16 : v < 16 := by
                      unfold okPt at okv
                      split at okv
                      · omega
                      · split at okv
                        · omega
                        · split at okv <;> omega
                    have ng : (nI v < 0) = False := L_lt0 (by omega)
                    generalize lat t (a + 1 + ps.length) = x at *
                    rw [hv] at po
                    simp [po, vO, T_Src, G_Src, ix80 (show ps.length + 1 < 4 by omega) (by decide), up_get, ng, L_p1]
                    refine hX2 _ _ _ (by rw [hz2]; simp; omega) ⟨ps ++ [v], _, rfl, by simp; omega, by simp; omega, fun q hq => ?_, ?_, by simp, rfl, g2.up _ (Or.inl rfl), mC_fr (F := fun r _ => r = 5) (Fr.rf.up _ rfl) (by omega) (by omega) m2, fun q hq => ?_⟩
                    · rw [getD_app1 hq]
                      split
                      · next e => rw [e]; exact okv
                      · next e =>
                        simp only [List.length_append, List.length_singleton] at hq
                        exact hpo q (by omega)
                    · simp only [List.length_append, List.length_singleton]
                      exact hR2
                    · rw [getD_app1 hq]
                      by_cases e : q = ps.length
                      · subst e; simp [up_get]
                      · rw [if_neg e]
                        simp only [List.length_append, List.length_singleton] at hq
                        simp only [up_get, true_and]
                        rw [if_neg (by omega)]
                        exact hcs q (by omega)
                · have elb : a + 1 + ps.length = t.length := by omega
                  rw [pGo_end (by omega)] at hR2
                  have fin := h s2 g2
                  rw [← hR2] at fin
                  simp at fin
                  rw [elb] at fin en l2
                  simp [eV, eI, eL, eR, e1, e2, eDI, eDL, eFI, eFL, eFR, eAI, eAZ, eAR, eLen, aN, aC, xV, xS, eX, eIf, eC_b, cA, cO, cN, sSk, sSq, sI, sL, sR, sInc, sF, sFO, sAI, sAZ, sAO, sX, sXp, sIf, sCut, sSqs, sSw, sRt, sRz_g, is01_b, is01_0, is01_1, sRv, sBk, sCt, sCp, lset, lclr, lcut, lini, lx, Value.category, ixOf, b2i_0, b2i_1, T_Src, w1, en, l2]
                  exact fin (fun q => by rw [nn _ hl] at q; exact q.elim)
              · have eps : ps.length = szN k := by omega
                have e4' : aftN hd P k ps = (4, hd, addP P k ps, 0, []) := by unfold aftN; rw [if_pos eps]
                rw [e4'] at hR2
                simp only [hlp, decide_false, Bool.false_eq_true, if_false]
                simp [eV, eI, eL, eR, e1, e2, eDI, eDL, eFI, eFL, eFR, eAI, eAZ, eAR, eLen, aN, aC, xV, xS, eX, eIf, eC_b, cA, cO, cN, sSk, sSq, sI, sL, sR, sInc, sF, sFO, sAI, sAZ, sAO, sX, sXp, sIf, sCut, sSqs, sSw, sRt, sRz_g, is01_b, is01_0, is01_1, sRv, sBk, sCt, sCp, lset, lclr, lcut, lini, lx, Value.category, ixOf, b2i_0, b2i_1, T_Src, G_Src, show (1 : Int32).toNatClampNeg = 1 from rfl, show (2 : Int32).toNatClampNeg = 2 from rfl, show (3 : Int32).toNatClampNeg = 3 from rfl, T_Code hcd, cf]
                refine s_Code_add hcd scr m2 b16 k6 (ps := ps) (hcs 0 (by omega)) (fun q => hcs 1 (by omega)) (fun q => hcs 2 (by omega)) _ fun s3 f1 f2 => ⟨rfl, ?_⟩
                have ea : nI a + (1 + nI (szN k)) = nI (a + 1 + ps.length) := by rw [eps, show (1 : Int32) = nI 1 from rfl, nI_add, nI_add]; congr 1; omega
                simp [ea, L_p1]
                exact hX _ _ _ (by show 17 - (P.1 + 1) < z; rw [hz]; omega) ⟨a + 1 + ps.length, addP P k ps, s3, rfl, hpl, addP_ok hP b16 k6 eps hpo, hR2, rfl, rfl, g2.tr f1 fun r k z => Or.inr z, f2⟩
        · have ea : t.length ≤ a := by omega
          rw [pGo_end ea] at hR
          have fin := h s1 g1
          rw [← hR] at fin
          simp only [hla, decide_false, Bool.false_eq_true, if_false]
          simp at fin
          exact fin m1
