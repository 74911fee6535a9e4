def rdyN (P : PC) (g : Nat → Nat → Bool) (N D : Nat → Bool) : Bool := allB (fun j => !N j || allB (fun k => !g k j || D k || N k) P.1) P.1
theorem s_R_isReady {P : PC} (scr : List Int32) {s : MS} (hP : okP P) (hm : mR P s) {f : Nat → Nat → Bool} (hf : mFD f 78 79 P.1 s) {x d : Int32} {N D : Nat → Bool} (hx : mk x N) (hd : mk d D) (Q : Option Value → HV → Prop)
    (h : Q (some (.int (b2i (rdyN P (gF f) N D)))) (hp scr s)) : X_R_isReady [.ref 65, .int x, .int d] (hp scr s) Q := by
  have h16 := hP.1
  unfold rdyN at h
  generalize hF : (fun j => !N j || allB (fun k => !gF f k j || D k || N k) P.1) = F at h
  simp [X_R_isReady, B_R_isReady, eV, eI, eL, eR, e1, e2, eDI, eDL, eFI, eFL, eFR, eAI, eAZ, eAR, eLen, aN, aC, xV, xS, eX, eIf, eC_b, cA, cO, cN, sSk, sSq, sI, sL, sR, sInc, sF, sFO, sAI, sAZ, sAO, sX, sXp, sIf, sCut, sSqs, sSw, sRt, sRz_g, is01_b, is01_0, is01_1, sRv, sBk, sCt, sCp, lset, lclr, lcut, lini, lx, Value.category, ixOf, b2i_0, b2i_1]
  refine lp_ind (fun z ls h => ∃ k, z = P.1 - k ∧ k ≤ P.1 ∧ ls = [.ref 65, .int x, .int d, .int (b2i (allB F k)), .int (nI k)] ∧ h = hp scr s) ?_ ⟨0, rfl, by omega, rfl, rfl⟩
  rintro z ls h' ⟨k, hz, hk, rfl, rfl⟩ X hX
  refine cX (t := decide (k < P.1)) (h' := hp scr s) ?h1 ?h2
  case h1 =>
    intro K
    simp [eV, eI, eL, eR, e1, e2, eDI, eDL, eFI, eFL, eFR, eAI, eAZ, eAR, eLen, aN, aC, xV, xS, eX, eIf, eC_b, cA, cO, cN, sSk, sSq, sI, sL, sR, sInc, sF, sFO, sAI, sAZ, sAO, sX, sXp, sIf, sCut, sSqs, sSw, sRt, sRz_g, is01_b, is01_0, is01_1, sRv, sBk, sCt, sCp, lset, lclr, lcut, lini, lx, Value.category, ixOf, b2i_0, b2i_1, T_R, hm.1]
    simp (disch := omega) only [LIT, L_0le, L_0lt, L_0eq, L_eq0, L_le0, L_lt0, L_1eq, L_eq1, L_1le, L_1lt, L_lt1, L_le1, L_p1, nI_ltI, nI_leI, nI_eq, nI_add, nI_clamp]
  case h2 =>
    by_cases hlt : k < P.1
    · have go := fun (x1 : Bool) (hx1 : allB F (k + 1) = x1) => hX (P.1 - (k + 1)) [.ref 65, .int x, .int d, .int (b2i x1), .int (nI (k + 1))] (hp scr s) (by rw [hz]; omega) ⟨k + 1, rfl, hlt, by rw [hx1], rfl⟩
      rw [allB] at go
      have n3 : F k = (!N k || allB (fun m => !gF f m k || D m || N m) P.1) := by rw [← hF]
      have hq := fun Q => t_has scr s x (show k < 32 by omega) Q
      rw [hx k (by omega)] at hq
      have key : ((s.1 78 k &&& ~~~x) &&& ~~~d = 0) = (allB (fun m => !gF f m k || D m || N m) P.1 = true) := by
        rw [b_eq0, allB_iff]
        apply propext
        constructor
        · intro q m hm2
          have := q m (by omega)
          rw [b_and, b_and, b_cmp _ (by omega), b_cmp _ (by omega), hx m (by omega), hd m (by omega), (hf k hlt m (by omega)).1] at this
          unfold gF
          cases c1 : (decide (m < k) && f m k) <;> cases c2 : N m <;> cases c3 : D m <;> rw [c1, c2, c3] at this <;> simp at this ⊢
        · intro q m hm2
          rw [b_and, b_and, b_cmp _ hm2, b_cmp _ hm2, hx m hm2, hd m hm2, (hf k hlt m hm2).1]
          cases c1 : (decide (m < k) && f m k) with
          | false => rfl
          | true =>
            have ml : m < P.1 := by
              simp only [Bool.and_eq_true, decide_eq_true_eq] at c1
              omega
            have := q m ml
            unfold gF at this
            rw [c1] at this
            cases c2 : N m <;> cases c3 : D m <;> rw [c2, c3] at this <;> simp at this ⊢
      generalize allB (fun m => !gF f m k || D m || N m) P.1 = v at n3 key
      generalize allB F k = u at go ⊢
      generalize N k = nk at n3 hq
      rw [n3] at go
      simp only [hlt, decide_true, if_true]
      simp [eV, eI, eL, eR, e1, e2, eDI, eDL, eFI, eFL, eFR, eAI, eAZ, eAR, eLen, aN, aC, xV, xS, eX, eIf, eC_b, cA, cO, cN, sSk, sSq, sI, sL, sR, sInc, sF, sFO, sAI, sAZ, sAO, sX, sXp, sIf, sCut, sSqs, sSw, sRt, sRz_g, is01_b, is01_0, is01_1, sRv, sBk, sCt, sCp, lset, lclr, lcut, lini, lx, Value.category, ixOf, b2i_0, b2i_1, T_R, G_R, ixf hP.1 hlt, hq, key, b2i_0, L_p1]
      have go := go _ rfl
      cases u <;> cases nk <;> cases v <;> simp at go ⊢ <;> exact go
    · have : k = P.1 := by omega
      subst this
      simp only [hlt, decide_false, Bool.false_eq_true, if_false]
      simp [eV, eI, eL, eR, e1, e2, eDI, eDL, eFI, eFL, eFR, eAI, eAZ, eAR, eLen, aN, aC, xV, xS, eX, eIf, eC_b, cA, cO, cN, sSk, sSq, sI, sL, sR, sInc, sF, sFO, sAI, sAZ, sAO, sX, sXp, sIf, sCut, sSqs, sSw, sRt, sRz_g, is01_b, is01_0, is01_1, sRv, sBk, sCt, sCp, lset, lclr, lcut, lini, lx, Value.category, ixOf, b2i_0, b2i_1]
      exact h
theorem sSq_I3 {i : Nat} {e : PX Int32} {r : PS} {kn kb kc : LV → HV → Prop} {kr : Option Value → HV → Prop} {ls : LV} {h h' : HV} (Pr : Int32 → Prop) (hc : ∀ K : Int32 → HV → Prop, (∀ y, Pr y → K y h') → e ls h K) (hi : i < ls.length) (hr : ∀ y, Pr y → r kn kb kc kr (lset ls i (.int y)) h') : sSq (sI i e) r kn kb kc kr ls h := hc _ fun y hy => ⟨hi, hr y hy⟩
abbrev FP : Nat → Nat → Prop := fun r _ => r = 85
theorem s_R_setInOrder {P : PC} (scr : List Int32) {s : MS} (hP : okP P) (hm : mR P s) {f : Nat → Nat → Bool} (hf : mFD f 78 79 P.1 s) {w : Nat} {K T : List (List Nat)} (hK : ∀ B, B ∈ K → wfP P w B) (hT : ∀ B, B ∈ T → wfP P w B) (lK : K.length ≤ 100) (lT : T.length ≤ 100) (nK : NR P w 80 K s) (nT : NR P w 82 T s) (Q : Option Value → HV → Prop)
    (h : ∀ s', Fr FP s s' → (∀ j, j < P.1 → (sFin P (gF f) (K ++ T) fun _ => false).1 j = true → s'.1 85 j = nI ((sFin P (gF f) (K ++ T) fun _ => false).2.2.1 j)) → Q (some (.int (b2i (sOk P (gF f) (K ++ T) fun _ => false)))) (hp scr s')) : X_R_setInOrder [.ref 65] (hp scr s) Q := by
  have h16 := hP.1
  have am := all_mask h16
  have hw : ∀ B, B ∈ K ++ T → wfP P w B := fun B hB => by
    rcases List.mem_append.mp hB with r | r
    · exact hK B r
    · exact hT B r
  generalize hL : K ++ T = L at h hw
  simp [X_R_setInOrder, B_R_setInOrder, eV, eI, eL, eR, e1, e2, eDI, eDL, eFI, eFL, eFR, eAI, eAZ, eAR, eLen, aN, aC, xV, xS, eX, eIf, eC_b, cA, cO, cN, sSk, sSq, sI, sL, sR, sInc, sF, sFO, sAI, sAZ, sAO, sX, sXp, sIf, sCut, sSqs, sSw, sRt, sRz_g, is01_b, is01_0, is01_1, sRv, sBk, sCt, sCp, lset, lclr, lcut, lini, lx, Value.category, ixOf, b2i_0, b2i_1]
  refine lp_ind (fun z ls h => ∃ n x s' more, z = 18 - n - (if more then 0 else 1) ∧ n ≤ 16 ∧ (more = false → nxt P (gF f) L (sAt P (gF f) L (fun _ => false) n).1 = none) ∧ mk x (sAt P (gF f) L (fun _ => false) n).1 ∧ ls = [.ref 65, .int x, .int (nI (sAt P (gF f) L (fun _ => false) n).2.1), .int (b2i more), .null, .null, .null] ∧ h = hp scr s' ∧ Fr FP s s' ∧ (∀ j, j < P.1 → (sAt P (gF f) L (fun _ => false) n).1 j = true → s'.1 85 j = nI ((sAt P (gF f) L (fun _ => false) n).2.2.1 j))) ?_ ⟨0, 0, s, true, rfl, by omega, by simp, fun k hk => by rw [b_0]; rfl, rfl, rfl, Fr.rf, fun j hj a1 => absurd a1 (by simp [sAt])⟩
  rintro z ls h' ⟨n, x, s1, more, hz, hn, hmo, hx, rfl, rfl, g1, g3⟩ X hX
  have m1 : mR P s1 := mR_fr g1 (by omega) (by omega) hm
  have d1 : mFD f 78 79 P.1 s1 := mFD_fr g1 (by omega) (by omega) hf
  have k1 : NR P w 80 K s1 := NR_fr g1 (by omega) nK
  have t1 : NR P w 82 T s1 := NR_fr g1 (by omega) nT
  cases more with
  | false =>
    have e := sAt_fin hn (hmo rfl)
    have := h s1 g1 (by rw [← e]; exact g3)
    unfold sOk at this
    rw [← e] at this
    have al := mk_all hx (sAt_dl (P := P) (g := gF f) (D0 := fun _ => false) hw (by simp) n) h16
    simp [eV, eI, eL, eR, e1, e2, eDI, eDL, eFI, eFL, eFR, eAI, eAZ, eAR, eLen, aN, aC, xV, xS, eX, eIf, eC_b, cA, cO, cN, sSk, sSq, sI, sL, sR, sInc, sF, sFO, sAI, sAZ, sAO, sX, sXp, sIf, sCut, sSqs, sSw, sRt, sRz_g, is01_b, is01_0, is01_1, sRv, sBk, sCt, sCp, lset, lclr, lcut, lini, lx, Value.category, ixOf, b2i_0, b2i_1, T_R, m1.1, am, al, b2i]
    simpa [b2i] using this
  | true =>
    simp [eV, eI, eL, eR, e1, e2, eDI, eDL, eFI, eFL, eFR, eAI, eAZ, eAR, eLen, aN, aC, xV, xS, eX, eIf, eC_b, cA, cO, cN, sSk, sSq, sI, sL, sR, sInc, sF, sFO, sAI, sAZ, sAO, sX, sXp, sIf, sCut, sSqs, sSw, sRt, sRz_g, is01_b, is01_0, is01_1, sRv, sBk, sCt, sCp, lset, lclr, lcut, lini, lx, Value.category, ixOf, b2i_0, b2i_1, b2i]
    generalize hS : sAt P (gF f) L (fun _ => false) n = S at *
    refine lp_ind (fun z ls h => (∃ k, z = 2 * (P.1 - k) + 1 ∧ k ≤ P.1 ∧ (∀ j, j < k → (!S.1 j && rdy P (gF f) L S.1 j) = false) ∧ ls = [.ref 65, .int x, .int (nI S.2.1), .int (b2i false), .int (nI k), .null, .null] ∧ h = hp scr s1) ∨ (∃ i k x2 s2, z = 0 ∧ i < P.1 ∧ k ≤ P.1 ∧ nxt P (gF f) L S.1 = some i ∧ mk x2 (sNext P L S (some i)).1 ∧ ls = [.ref 65, .int x2, .int (nI (S.2.1 + 1)), .int (b2i true), .int (nI k), .null, .null] ∧ h = hp scr s2 ∧ Fr FP s s2 ∧ (∀ j, j < P.1 → (sNext P L S (some i)).1 j = true → s2.1 85 j = nI ((sNext P L S (some i)).2.2.1 j)))) ?_ (Or.inl ⟨0, rfl, by omega, fun j hj => by omega, rfl, rfl⟩)
    rintro z2 ls h' hI X2 hX2
    rcases hI with ⟨k, hz2, hk, hj, rfl, rfl⟩ | ⟨i, k, x2, s2, hz2, hi, hk, hN, hx2, rfl, rfl, f1, f2⟩
    · have hx' := hx
      refine cX (t := decide (k < P.1)) (h' := hp scr s1) ?h1 ?h2
      case h1 =>
        intro K
        simp [eV, eI, eL, eR, e1, e2, eDI, eDL, eFI, eFL, eFR, eAI, eAZ, eAR, eLen, aN, aC, xV, xS, eX, eIf, eC_b, cA, cO, cN, sSk, sSq, sI, sL, sR, sInc, sF, sFO, sAI, sAZ, sAO, sX, sXp, sIf, sCut, sSqs, sSw, sRt, sRz_g, is01_b, is01_0, is01_1, sRv, sBk, sCt, sCp, lset, lclr, lcut, lini, lx, Value.category, ixOf, b2i_0, b2i_1, T_R, m1.1, b2i]
        simp (disch := omega) only [LIT, L_0le, L_0lt, L_0eq, L_eq0, L_le0, L_lt0, L_1eq, L_eq1, L_1le, L_1lt, L_lt1, L_le1, L_p1, nI_ltI, nI_leI, nI_eq, nI_add, nI_clamp]
        by_cases c : k < P.1 <;> simp [c]
      case h2 =>
        by_cases hlt : k < P.1
        · simp only [hlt, decide_true, if_true, sCut]
          refine sSq_I3 (fun y => mk y (nd L k)) (h' := hp scr s1) ?h3 (by simp) ?h8
          case h3 =>
            intro K2 hK2
            simp [eV, eI, eL, eR, e1, e2, eDI, eDL, eFI, eFL, eFR, eAI, eAZ, eAR, eLen, aN, aC, xV, xS, eX, eIf, eC_b, cA, cO, cN, sSk, sSq, sI, sL, sR, sInc, sF, sFO, sAI, sAZ, sAO, sX, sXp, sIf, sCut, sSqs, sSw, sRt, sRz_g, is01_b, is01_0, is01_1, sRv, sBk, sCt, sCp, lset, lclr, lcut, lini, lx, Value.category, ixOf, b2i_0, b2i_1, T_R]
            refine s_R_nodeOf scr hP m1 hK hT lK lT k1 t1 hlt _ fun y hy => ⟨y, rfl, ?_⟩
            rw [hL] at hy
            exact hK2 y hy
          case h8 =>
            intro y hy
            refine cIf1 (t := !S.1 k && rdy P (gF f) L S.1 k) (h' := hp scr s1) ?h4 ?h5
            case h4 =>
              intro K2 hK2
              have hq := fun Q => t_has scr s1 x (show k < 32 by omega) Q
              rw [hx k (by omega)] at hq
              simp [eV, eI, eL, eR, e1, e2, eDI, eDL, eFI, eFL, eFR, eAI, eAZ, eAR, eLen, aN, aC, xV, xS, eX, eIf, eC_b, cA, cO, cN, sSk, sSq, sI, sL, sR, sInc, sF, sFO, sAI, sAZ, sAO, sX, sXp, sIf, sCut, sSqs, sSw, sRt, sRz_g, is01_b, is01_0, is01_1, sRv, sBk, sCt, sCp, lset, lclr, lcut, lini, lx, Value.category, ixOf, b2i_0, b2i_1, hq, b2i_0]
              generalize S.1 k = c at hK2
              cases c with
              | true => simpa using hK2
              | false =>
                simp [T_R]
                refine s_R_isReady scr hP m1 d1 hy hx _ ⟨_, rfl, ?_⟩
                simp only [b2i_0]
                have e : rdyN P (gF f) (nd L k) S.1 = rdy P (gF f) L S.1 k := rfl
                rw [e]
                generalize rdy P (gF f) L S.1 k = v at hK2 ⊢
                cases v <;> simpa using hK2
            case h5 =>
              cases hc : (!S.1 k && rdy P (gF f) L S.1 k) with
              | false =>
                simp [eV, eI, eL, eR, e1, e2, eDI, eDL, eFI, eFL, eFR, eAI, eAZ, eAR, eLen, aN, aC, xV, xS, eX, eIf, eC_b, cA, cO, cN, sSk, sSq, sI, sL, sR, sInc, sF, sFO, sAI, sAZ, sAO, sX, sXp, sIf, sCut, sSqs, sSw, sRt, sRz_g, is01_b, is01_0, is01_1, sRv, sBk, sCt, sCp, lset, lclr, lcut, lini, lx, Value.category, ixOf, b2i_0, b2i_1, L_p1]
                refine hX2 _ _ _ (by rw [hz2]; omega) (Or.inl ⟨k + 1, rfl, hlt, fun j h2 => ?_, rfl, rfl⟩)
                rcases Nat.lt_succ_iff_lt_or_eq.mp h2 with q | q
                · exact hj j q
                · rw [q]; exact hc
              | true =>
                have hN : nxt P (gF f) L S.1 = some k := lstO_eq ⟨Nat.zero_le _, hlt, hc, fun j _ q => hj j q⟩
                simp [eV, eI, eL, eR, e1, e2, eDI, eDL, eFI, eFL, eFR, eAI, eAZ, eAR, eLen, aN, aC, xV, xS, eX, eIf, eC_b, cA, cO, cN, sSk, sSq, sI, sL, sR, sInc, sF, sFO, sAI, sAZ, sAO, sX, sXp, sIf, sCut, sSqs, sSw, sRt, sRz_g, is01_b, is01_0, is01_1, sRv, sBk, sCt, sCp, lset, lclr, lcut, lini, lx, Value.category, ixOf, b2i_0, b2i_1]
                refine lp_ind (fun z ls h => ∃ a s2, z = P.1 - a ∧ a ≤ P.1 ∧ ls = [.ref 65, .int x, .int (nI S.2.1), .int (b2i false), .int (nI k), .int y, .int (nI a)] ∧ h = hp scr s2 ∧ Fr FP s s2 ∧ (∀ j, j < a → (sNext P L S (some k)).1 j = true → s2.1 85 j = nI ((sNext P L S (some k)).2.2.1 j)) ∧ ∀ j, a ≤ j → s2.1 85 j = s1.1 85 j) ?_ ⟨0, s1, rfl, by omega, rfl, rfl, g1, fun j hj => by omega, fun j _ => rfl⟩
                rintro z3 ls h' ⟨a, s2, hz3, ha, rfl, rfl, f1, f2, f3⟩ X3 hX3
                have m2 : mR P s2 := mR_fr f1 (by omega) (by omega) hm
                refine cX (t := decide (a < P.1)) (h' := hp scr s2) ?h6 ?h7
                case h6 =>
                  intro K
                  simp [eV, eI, eL, eR, e1, e2, eDI, eDL, eFI, eFL, eFR, eAI, eAZ, eAR, eLen, aN, aC, xV, xS, eX, eIf, eC_b, cA, cO, cN, sSk, sSq, sI, sL, sR, sInc, sF, sFO, sAI, sAZ, sAO, sX, sXp, sIf, sCut, sSqs, sSw, sRt, sRz_g, is01_b, is01_0, is01_1, sRv, sBk, sCt, sCp, lset, lclr, lcut, lini, lx, Value.category, ixOf, b2i_0, b2i_1, T_R, m2.1]
                  simp (disch := omega) only [LIT, L_0le, L_0lt, L_0eq, L_eq0, L_le0, L_lt0, L_1eq, L_eq1, L_1le, L_1lt, L_lt1, L_le1, L_p1, nI_ltI, nI_leI, nI_eq, nI_add, nI_clamp]
                case h7 =>
                  by_cases hlt3 : a < P.1
                  · have hq := fun Q => t_has scr s2 y (show a < 32 by omega) Q
                    rw [hy a (by omega)] at hq
                    simp only [hlt3, decide_true, if_true]
                    simp [eV, eI, eL, eR, e1, e2, eDI, eDL, eFI, eFL, eFR, eAI, eAZ, eAR, eLen, aN, aC, xV, xS, eX, eIf, eC_b, cA, cO, cN, sSk, sSq, sI, sL, sR, sInc, sF, sFO, sAI, sAZ, sAO, sX, sXp, sIf, sCut, sSqs, sSw, sRt, sRz_g, is01_b, is01_0, is01_1, sRv, sBk, sCt, sCp, lset, lclr, lcut, lini, lx, Value.category, ixOf, b2i_0, b2i_1, T_R, G_R, ixf hP.1 hlt3, hq, b2i_0, L_p1]
                    have go := fun v (hv : (sNext P L S (some k)).1 a = true → v = nI ((sNext P L S (some k)).2.2.1 a)) => hX3 (P.1 - (a + 1)) [.ref 65, .int x, .int (nI S.2.1), .int (b2i false), .int (nI k), .int y, .int (nI (a + 1))] (hp scr (up s2 85 a v)) (by rw [hz3]; omega) ⟨a + 1, _, rfl, hlt3, rfl, rfl, f1.up _ rfl, fun j hj2 hj3 => by
                      by_cases c : j = a
                      · subst c; rw [up_same]; exact hv hj3
                      · simp [up_get, c]
                        exact f2 j (by omega) hj3, fun j hj2 => by
                      have c : j ≠ a := by omega
                      simp [up_get, c]
                      exact f3 j (by omega)⟩
                    simp only [sNext] at go
                    cases hna : nd L k a with
                    | true =>
                      rw [hna] at go
                      simp
                      exact go _ fun _ => by simp
                    | false =>
                      rw [hna] at go
                      simp
                      refine go _ fun q => ?_
                      simp only [Bool.or_false] at q
                      rw [f3 a (Nat.le_refl a), g3 a hlt3 q]
                      simp
                  · have : a = P.1 := by omega
                    subst this
                    simp only [hlt3, decide_false, Bool.false_eq_true, if_false]
                    simp [eV, eI, eL, eR, e1, e2, eDI, eDL, eFI, eFL, eFR, eAI, eAZ, eAR, eLen, aN, aC, xV, xS, eX, eIf, eC_b, cA, cO, cN, sSk, sSq, sI, sL, sR, sInc, sF, sFO, sAI, sAZ, sAO, sX, sXp, sIf, sCut, sSqs, sSw, sRt, sRz_g, is01_b, is01_0, is01_1, sRv, sBk, sCt, sCp, lset, lclr, lcut, lini, lx, Value.category, ixOf, b2i_0, b2i_1, L_p1]
                    refine hX2 _ _ _ (by rw [hz2]; omega) (Or.inr ⟨k, k + 1, _, s2, rfl, hlt, hlt, hN, fun j hj2 => ?_, rfl, rfl, f1, f2⟩)
                    rw [b_or, hx j hj2, hy j hj2]
                    rfl
        · have : k = P.1 := by omega
          subst this
          have hN : nxt P (gF f) L S.1 = none := lstO_eq (o := none) fun j _ q => hj j q
          simp only [hlt, decide_false, Bool.false_eq_true, if_false]
          simp [eV, eI, eL, eR, e1, e2, eDI, eDL, eFI, eFL, eFR, eAI, eAZ, eAR, eLen, aN, aC, xV, xS, eX, eIf, eC_b, cA, cO, cN, sSk, sSq, sI, sL, sR, sInc, sF, sFO, sAI, sAZ, sAO, sX, sXp, sIf, sCut, sSqs, sSw, sRt, sRz_g, is01_b, is01_0, is01_1, sRv, sBk, sCt, sCp, lset, lclr, lcut, lini, lx, Value.category, ixOf, b2i_0, b2i_1]
          refine hX _ _ _ ?_ ⟨n, x, s1, false, rfl, hn, fun _ => by rw [hS]; exact hN, by rw [hS]; exact hx, by rw [hS], rfl, g1, by rw [hS]; exact g3⟩
          rw [hz]; simp; omega
    · have n16 := sAt_lt (g := gF f) (L := L) (D0 := fun _ => false) (n := n) hP (by rw [hS]; exact hN)
      have eS : sAt P (gF f) L (fun _ => false) (n + 1) = sNext P L S (some i) := by rw [sAt, sStep, hS, hN]
      refine cX (t := false) (h' := hp scr s2) ?h1 ?h2
      case h1 =>
        intro K
        have m2 : mR P s2 := mR_fr f1 (by omega) (by omega) hm
        simp [eV, eI, eL, eR, e1, e2, eDI, eDL, eFI, eFL, eFR, eAI, eAZ, eAR, eLen, aN, aC, xV, xS, eX, eIf, eC_b, cA, cO, cN, sSk, sSq, sI, sL, sR, sInc, sF, sFO, sAI, sAZ, sAO, sX, sXp, sIf, sCut, sSqs, sSw, sRt, sRz_g, is01_b, is01_0, is01_1, sRv, sBk, sCt, sCp, lset, lclr, lcut, lini, lx, Value.category, ixOf, b2i_0, b2i_1, T_R, m2.1, b2i]
      case h2 =>
        simp only [Bool.false_eq_true, if_false]
        simp [eV, eI, eL, eR, e1, e2, eDI, eDL, eFI, eFL, eFR, eAI, eAZ, eAR, eLen, aN, aC, xV, xS, eX, eIf, eC_b, cA, cO, cN, sSk, sSq, sI, sL, sR, sInc, sF, sFO, sAI, sAZ, sAO, sX, sXp, sIf, sCut, sSqs, sSw, sRt, sRz_g, is01_b, is01_0, is01_1, sRv, sBk, sCt, sCp, lset, lclr, lcut, lini, lx, Value.category, ixOf, b2i_0, b2i_1]
        refine hX _ _ _ ?_ ⟨n + 1, x2, s2, true, rfl, by omega, by simp, by rw [eS]; exact hx2, by rw [eS]; rfl, rfl, f1, by rw [eS]; exact f2⟩
        rw [hz]; simp; omega
