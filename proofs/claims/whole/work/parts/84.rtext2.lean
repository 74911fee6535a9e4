theorem s_R_isAny {P : PC} (scr : List Int32) {s : MS} (hP : okP P) (hm : mRb P s) (Q : Option Value → HV → Prop) (h : Q (some (.int (b2i (anyV P)))) (hp scr s)) : X_R_isAnyValueAsRead [.ref 65] (hp scr s) Q := by
  have h16 := hP.1
  unfold anyV at h
  simp [X_R_isAnyValueAsRead, B_R_isAnyValueAsRead, eV, eI, eL, eR, e1, e2, eDI, eDL, eFI, eFL, eFR, eAI, eAZ, eAR, eLen, aN, aC, xV, xS, eX, eIf, eC_b, cA, cO, cN, sSk, sSq, sI, sL, sR, sInc, sF, sFO, sAI, sAZ, sAO, sX, sXp, sIf, sCut, sSqs, sSw, sRt, sRz_g, is01_b, is01_0, is01_1, sRv, sBk, sCt, sCp, lset, lclr, lcut, lini, lx, Value.category, ixOf, b2i_0, b2i_1]
  refine lp_ind (fun z ls h => ∃ k, z = P.1 - k ∧ k ≤ P.1 ∧ ls = [.ref 65, .int (b2i (!allB (fun i => decide (pK P i = 6)) k)), .int (nI k)] ∧ h = hp scr s) ?_ ⟨0, rfl, by omega, rfl, rfl⟩
  rintro z ls h' ⟨k, hz, hk, rfl, rfl⟩ X hX
  refine cX (t := decide (k < P.1)) (h' := hp scr s) ?h1 ?h2
  case h1 =>
    intro K
    simp [eV, eI, eL, eR, e1, e2, eDI, eDL, eFI, eFL, eFR, eAI, eAZ, eAR, eLen, aN, aC, xV, xS, eX, eIf, eC_b, cA, cO, cN, sSk, sSq, sI, sL, sR, sInc, sF, sFO, sAI, sAZ, sAO, sX, sXp, sIf, sCut, sSqs, sSw, sRt, sRz_g, is01_b, is01_0, is01_1, sRv, sBk, sCt, sCp, lset, lclr, lcut, lini, lx, Value.category, ixOf, b2i_0, b2i_1, T_R, hm.1]
    simp (disch := omega) only [LIT, L_0le, L_0lt, L_0eq, L_eq0, L_le0, L_lt0, L_1eq, L_eq1, L_1le, L_1lt, L_lt1, L_le1, L_p1, nI_ltI, nI_leI, nI_eq, nI_add, nI_clamp]
  case h2 =>
    by_cases hlt : k < P.1
    · have kk := (hP.2 k hlt).1
      have e6 : (nI (pK P k) = 6) = (pK P k = 6) := leq _ 6 (by omega) (by decide)
      have go := fun (x : Bool) (hx : x = !allB (fun i => decide (pK P i = 6)) (k + 1)) => hX (P.1 - (k + 1)) [.ref 65, .int (b2i x), .int (nI (k + 1))] (hp scr s) (by rw [hz]; omega) ⟨k + 1, rfl, hlt, by rw [hx], rfl⟩
      rw [allB] at go
      simp only [hlt, decide_true, if_true]
      generalize allB (fun i => decide (pK P i = 6)) k = u at go ⊢
      cases u with
      | false =>
        have := go true (by simp)
        simp [eV, eI, eL, eR, e1, e2, eDI, eDL, eFI, eFL, eFR, eAI, eAZ, eAR, eLen, aN, aC, xV, xS, eX, eIf, eC_b, cA, cO, cN, sSk, sSq, sI, sL, sR, sInc, sF, sFO, sAI, sAZ, sAO, sX, sXp, sIf, sCut, sSqs, sSw, sRt, sRz_g, is01_b, is01_0, is01_1, sRv, sBk, sCt, sCp, lset, lclr, lcut, lini, lx, Value.category, ixOf, b2i_0, b2i_1, L_p1, b2i]
        simpa [b2i] using this
      | true =>
        by_cases c : pK P k = 6
        · have := go false (by simp [c])
          simp [eV, eI, eL, eR, e1, e2, eDI, eDL, eFI, eFL, eFR, eAI, eAZ, eAR, eLen, aN, aC, xV, xS, eX, eIf, eC_b, cA, cO, cN, sSk, sSq, sI, sL, sR, sInc, sF, sFO, sAI, sAZ, sAO, sX, sXp, sIf, sCut, sSqs, sSw, sRt, sRz_g, is01_b, is01_0, is01_1, sRv, sBk, sCt, sCp, lset, lclr, lcut, lini, lx, Value.category, ixOf, b2i_0, b2i_1, T_R, G_R, ixf hP.1 hlt, (hm.2 k hlt).1, show nI 6 = 6 from rfl, c, L_p1, b2i]
          simpa [b2i] using this
        · have := go true (by simp [c])
          simp [eV, eI, eL, eR, e1, e2, eDI, eDL, eFI, eFL, eFR, eAI, eAZ, eAR, eLen, aN, aC, xV, xS, eX, eIf, eC_b, cA, cO, cN, sSk, sSq, sI, sL, sR, sInc, sF, sFO, sAI, sAZ, sAO, sX, sXp, sIf, sCut, sSqs, sSw, sRt, sRz_g, is01_b, is01_0, is01_1, sRv, sBk, sCt, sCp, lset, lclr, lcut, lini, lx, Value.category, ixOf, b2i_0, b2i_1, T_R, G_R, ixf hP.1 hlt, (hm.2 k hlt).1, e6, c, L_p1, b2i]
          simpa [b2i] using this
    · have : k = P.1 := by omega
      subst this
      simp only [hlt, decide_false, Bool.false_eq_true, if_false]
      simp [eV, eI, eL, eR, e1, e2, eDI, eDL, eFI, eFL, eFR, eAI, eAZ, eAR, eLen, aN, aC, xV, xS, eX, eIf, eC_b, cA, cO, cN, sSk, sSq, sI, sL, sR, sInc, sF, sFO, sAI, sAZ, sAO, sX, sXp, sIf, sCut, sSqs, sSw, sRt, sRz_g, is01_b, is01_0, is01_1, sRv, sBk, sCt, sCp, lset, lclr, lcut, lini, lx, Value.category, ixOf, b2i_0, b2i_1]
      exact h
theorem s_R_isVal {P : PC} (scr : List Int32) {s : MS} (hP : okP P) (hm : mRb P s) {c : Nat} (hc : c < 256) (Q : Option Value → HV → Prop) : X_R_isValueAsRead [.ref 65, .int (nI c - 97)] (hp scr s) Q ↔ Q (some (.int (b2i (opN P c).isSome))) (hp scr s) := by
  have h16 := hP.1
  have ti := fun Q => t_in scr s (nI c - 97) 0 (nI P.1 - 1) (A := 0) (B := (nI P.1 - 1).toInt64) rfl rfl Q
  have ti : ∀ Q, X_R_in [.long (nI c - 97).toInt64, .long 0, .long (nI P.1 - 1).toInt64] (hp scr s) Q ↔ Q (some (.int (b2i (isI P (nI c - 97))))) (hp scr s) := ti
  unfold opN
  rcases sub_case (b := 97) hc (by decide) with ⟨q, e⟩ | ⟨q, e⟩
  · have e : nI c - 97 = nI (c - 97) := e
    rw [e] at ti ⊢
    rw [isI_nat hP (by omega)] at ti
    by_cases r : c - 97 < P.1
    · rw [decide_eq_true r] at ti
      have kk := (hP.2 _ r).1
      have e6 : (nI (pK P (c - 97)) = 6) = (pK P (c - 97) = 6) := leq _ 6 (by omega) (by decide)
      simp only [X_R_isValueAsRead, B_R_isValueAsRead, eV, eI, eL, eR, e1, e2, eDI, eDL, eFI, eFL, eFR, eAI, eAZ, eAR, eLen, aN, aC, xV, xS, eX, eIf, eC_b, cA, cO, cN, sSk, sSq, sI, sL, sR, sInc, sF, sFO, sAI, sAZ, sAO, sX, sXp, sIf, sCut, sSqs, sSw, sRt, sRz_g, is01_b, is01_0, is01_1, sRv, sBk, sCt, sCp, lset, lclr, lcut, lini, lx, Value.category, ixOf, b2i_0, b2i_1, lini, lx, Value.category]
      simp [eV, eI, eL, eR, e1, e2, eDI, eDL, eFI, eFL, eFR, eAI, eAZ, eAR, eLen, aN, aC, xV, xS, eX, eIf, eC_b, cA, cO, cN, sSk, sSq, sI, sL, sR, sInc, sF, sFO, sAI, sAZ, sAO, sX, sXp, sIf, sCut, sSqs, sSw, sRt, sRz_g, is01_b, is01_0, is01_1, sRv, sBk, sCt, sCp, lset, lclr, lcut, lini, lx, Value.category, ixOf, b2i_0, b2i_1, T_R, hm.1]
      rw [ti]
      simp [b2i_t, G_R, T_R, ixf hP.1 r, (hm.2 _ r).1, e6]
      by_cases z : pK P (c - 97) = 6
      · simp [z]
      · simp [z, q, r]
    · rw [decide_eq_false r] at ti
      simp only [X_R_isValueAsRead, B_R_isValueAsRead, eV, eI, eL, eR, e1, e2, eDI, eDL, eFI, eFL, eFR, eAI, eAZ, eAR, eLen, aN, aC, xV, xS, eX, eIf, eC_b, cA, cO, cN, sSk, sSq, sI, sL, sR, sInc, sF, sFO, sAI, sAZ, sAO, sX, sXp, sIf, sCut, sSqs, sSw, sRt, sRz_g, is01_b, is01_0, is01_1, sRv, sBk, sCt, sCp, lset, lclr, lcut, lini, lx, Value.category, ixOf, b2i_0, b2i_1, lini, lx, Value.category]
      simp [eV, eI, eL, eR, e1, e2, eDI, eDL, eFI, eFL, eFR, eAI, eAZ, eAR, eLen, aN, aC, xV, xS, eX, eIf, eC_b, cA, cO, cN, sSk, sSq, sI, sL, sR, sInc, sF, sFO, sAI, sAZ, sAO, sX, sXp, sIf, sCut, sSqs, sSw, sRt, sRz_g, is01_b, is01_0, is01_1, sRv, sBk, sCt, sCp, lset, lclr, lcut, lini, lx, Value.category, ixOf, b2i_0, b2i_1, T_R, hm.1]
      rw [ti]
      simp [b2i_f, r]
  · have e : nI c - 97 < 0 := e
    have q2 : ¬ 97 ≤ c := by omega
    have ni : isI P (nI c - 97) = false := by unfold isI rng; simp [e]
    rw [ni] at ti
    generalize nI c - 97 = y at *
    simp [X_R_isValueAsRead, B_R_isValueAsRead, eV, eI, eL, eR, e1, e2, eDI, eDL, eFI, eFL, eFR, eAI, eAZ, eAR, eLen, aN, aC, xV, xS, eX, eIf, eC_b, cA, cO, cN, sSk, sSq, sI, sL, sR, sInc, sF, sFO, sAI, sAZ, sAO, sX, sXp, sIf, sCut, sSqs, sSw, sRt, sRz_g, is01_b, is01_0, is01_1, sRv, sBk, sCt, sCp, lset, lclr, lcut, lini, lx, Value.category, ixOf, b2i_0, b2i_1, T_R, hm.1, ti, b2i_f, q2]
theorem s_R_kindOf (scr : List Int32) (s : MS) {c : Nat} (hc : c < 256) (Q : Option Value → HV → Prop) : X_R_kindOf [.int (nI c)] (hp scr s) Q ↔ Q (some (.int (vO (kindN c)))) (hp scr s) := by
  have : X_R_kindOf [.int (nI c)] (hp scr s) Q ↔ X_Src_kindOf [.int (nI c)] (hp scr s) Q := Iff.rfl
  rw [this, s_Src_kindOf scr s hc]
theorem s_R_takeSign (scr : List Int32) {s : MS} {hh : Nat × Nat × Nat} {P : PC} {k0 : Nat} {ps0 : List Nat} (hP : okP P) (hM : mRd (4, hh, P, k0, ps0) s) {c : Nat} (hc : c < 256) (Q : Option Value → HV → Prop) (h : ∀ s' b, Fr Fp s s' → b = (pLet (4, hh, P, k0, ps0) c).isSome → (∀ σ', pLet (4, hh, P, k0, ps0) c = some σ' → mRd σ' s') → Q (some (.int (b2i b))) (hp scr s')) : X_R_takeSign [.ref 65, .int (nI c)] (hp scr s) Q := by
  have h16 := hP.1
  obtain ⟨h1, h2, h3, h4, h5, h6, h7⟩ := hM
  dsimp only at h1 h2 h3 h4 h5 h6 h7
  have pl : pLet (4, hh, P, k0, ps0) c = match kindN c with | none => none | some k => if begN P k then some (5, hh, P, k, []) else none := by simp only [pLet]; rfl
  rw [pl] at h
  simp [X_R_takeSign, B_R_takeSign, lini, lx, Value.category]
  refine sSq_I1 (v := vO (kindN c)) (h' := hp scr s) ?h1 (by simp) ?h2
  case h1 =>
    intro K hK
    simp [eV, eI, eL, eR, e1, e2, eDI, eDL, eFI, eFL, eFR, eAI, eAZ, eAR, eLen, aN, aC, xV, xS, eX, eIf, eC_b, cA, cO, cN, sSk, sSq, sI, sL, sR, sInc, sF, sFO, sAI, sAZ, sAO, sX, sXp, sIf, sCut, sSqs, sSw, sRt, sRz_g, is01_b, is01_0, is01_1, sRv, sBk, sCt, sCp, lset, lclr, lcut, lini, lx, Value.category, ixOf, b2i_0, b2i_1, s_R_kindOf scr s hc]
    exact hK
  have l16 : (nI P.1 = 16) = (P.1 = 16) := leq _ 16 (by omega) (by decide)
  cases hk : kindN c with
  | none =>
    rw [hk] at h
    simp [eV, eI, eL, eR, e1, e2, eDI, eDL, eFI, eFL, eFR, eAI, eAZ, eAR, eLen, aN, aC, xV, xS, eX, eIf, eC_b, cA, cO, cN, sSk, sSq, sI, sL, sR, sInc, sF, sFO, sAI, sAZ, sAO, sX, sXp, sIf, sCut, sSqs, sSw, sRt, sRz_g, is01_b, is01_0, is01_1, sRv, sBk, sCt, sCp, lset, lclr, lcut, lini, lx, Value.category, ixOf, b2i_0, b2i_1, vO]
    exact h s false Fr.rf rfl (fun σ' hs => by cases hs)
  | some k =>
    have k6 := kindN_6 hk
    rw [hk] at h
    dsimp only at h
    have n9 := nI_n9 (show k < 2 ^ 31 by omega)
    by_cases q : P.1 < 16
    · have q2 : ¬ P.1 = 16 := by omega
      have e0' : (nI k = 0) = (k = 0) := L_eq0 (by omega)
      have e1' : (nI k = 1) = (k = 1) := L_eq1 (by omega)
      have gg : Fr Fp s (up (up (up s 90 P.1 (nI k)) 65 48 2) 65 49 0) := ((Fr.rf.up _ (by omega)).up _ (by omega)).up _ (by omega)
      have m1 : mRb P (up (up (up s 90 P.1 (nI k)) 65 48 2) 65 49 0) := mRb_fr (F := fun r j => (r = 90 ∧ j = P.1) ∨ (r = 65 ∧ 48 ≤ j)) (((Fr.rf.up _ (by omega)).up _ (by omega)).up _ (by omega)) (by omega) (by omega) h1
      have fin := fun b (hb : b = begN P k) => h _ b gg (by rw [hb]; cases begN P k <;> rfl) fun σ' hs => by
        cases ho : begN P k with
        | false => rw [ho] at hs; cases hs
        | true =>
          rw [ho] at hs
          cases hs
          exact ⟨m1, fun _ => by simp [up_get]; exact h2 (by omega), fun _ => by simp [up_get]; exact h3 (by omega), fun _ => by simp [up_get]; exact h4 (by omega), fun q => by dsimp only at q; omega, fun q => by dsimp only at q; omega, fun _ => ⟨by simp [up_get], by simp [up_get]; rfl, by simp [up_get], fun q hq => by simp at hq⟩⟩
      unfold begN at fin
      rw [decide_eq_true q] at fin
      have ix := ix80 q (by decide)
      simp [eV, eI, eL, eR, e1, e2, eDI, eDL, eFI, eFL, eFR, eAI, eAZ, eAR, eLen, aN, aC, xV, xS, eX, eIf, eC_b, cA, cO, cN, sSk, sSq, sI, sL, sR, sInc, sF, sFO, sAI, sAZ, sAO, sX, sXp, sIf, sCut, sSqs, sSw, sRt, sRz_g, is01_b, is01_0, is01_1, sRv, sBk, sCt, sCp, lset, lclr, lcut, lini, lx, Value.category, ixOf, b2i_0, b2i_1, vO, n9, T_R, U_R, G_R, h1.1, l16, q2, ix, e0', e1', up_get]
      generalize (up (up (up s 90 P.1 (nI k)) 65 48 2) 65 49 0) = s1 at m1 fin ⊢
      by_cases c0 : k = 0
      · have := fin true (by simp [c0])
        simp [c0]
        simpa [b2i] using this
      · by_cases c1 : k = 1
        · have := fin true (by simp [c1])
          simp [c1]
          simpa [b2i] using this
        · simp [c0, c1]
          refine s_R_isAny scr hP m1 _ ⟨_, rfl, ?_⟩
          simp only [b2i_0]
          have := fin (anyV P) (by simp [c0, c1])
          generalize anyV P = v at this ⊢
          cases v <;> simpa [b2i] using this
    · have q2 : P.1 = 16 := by omega
      have nb2 : begN P k = false := by unfold begN; simp [q2]
      rw [nb2] at h
      simp [eV, eI, eL, eR, e1, e2, eDI, eDL, eFI, eFL, eFR, eAI, eAZ, eAR, eLen, aN, aC, xV, xS, eX, eIf, eC_b, cA, cO, cN, sSk, sSq, sI, sL, sR, sInc, sF, sFO, sAI, sAZ, sAO, sX, sXp, sIf, sCut, sSqs, sSw, sRt, sRz_g, is01_b, is01_0, is01_1, sRv, sBk, sCt, sCp, lset, lclr, lcut, lini, lx, Value.category, ixOf, b2i_0, b2i_1, vO, n9, T_R, h1.1, l16, q2]
      exact h s false Fr.rf rfl (fun σ' hs => by cases hs)
theorem s_R_done (scr : List Int32) (s : MS) (b : Bool) {n : Nat} (hn : s.1 65 43 = nI n) (Q : Option Value → HV → Prop) : X_R_done [.ref 65, .int (b2i b)] (hp scr s) Q ↔ if b then Q (some (.int 1)) (hp scr (up (up s 65 43 (nI (n + 1))) 65 48 0)) else Q (some (.int 0)) (hp scr s) := by
  cases b <;> simp [X_R_done, B_R_done, eV, eI, eL, eR, e1, e2, eDI, eDL, eFI, eFL, eFR, eAI, eAZ, eAR, eLen, aN, aC, xV, xS, eX, eIf, eC_b, cA, cO, cN, sSk, sSq, sI, sL, sR, sInc, sF, sFO, sAI, sAZ, sAO, sX, sXp, sIf, sCut, sSqs, sSw, sRt, sRz_g, is01_b, is01_0, is01_1, sRv, sBk, sCt, sCp, lset, lclr, lcut, lini, lx, Value.category, ixOf, b2i_0, b2i_1, T_R, U_R, hn, L_p1, b2i, up_get]
theorem any_kn {a : PS} {kn0 kb kc : LV → HV → Prop} {kr : Option Value → HV → Prop} {ls : LV} {h : HV} (hh : ∀ kn, a kn kb kc kr ls h) : a kn0 kb kc kr ls h := hh _
theorem s_R_takeOf (scr : List Int32) {s : MS} {hh : Nat × Nat × Nat} {P : PC} {k : Nat} {ps : List Nat} (hg : gdS (5, hh, P, k, ps)) (hM : mRd (5, hh, P, k, ps) s) {c : Nat} (hc : c < 256) (Q : Option Value → HV → Prop) (h : ∀ s' b, Fr Fp s s' → b = (pLet (5, hh, P, k, ps) c).isSome → (∀ σ', pLet (5, hh, P, k, ps) c = some σ' → mRd σ' s') → Q (some (.int (b2i b))) (hp scr s')) : X_R_takeOf [.ref 65, .int (nI c)] (hp scr s) Q := by
  obtain ⟨hP, -, -, -, -, g6⟩ := hg
  obtain ⟨-, q16, k6, hps, hok⟩ := g6 (by show 5 ≤ 5; omega)
  obtain ⟨h1, h2, h3, h4, h5, h6, h7⟩ := hM
  dsimp only at *
  obtain ⟨h7a, h7b, h7c, h7d⟩ := h7 rfl
  have h16 := hP.1
  have ix := ix80 q16 (by decide)
  have pl : pLet (5, hh, P, k, ps) c = match partN P k (ps.length + 1) c with | none => none | some v => some (aftN hh P k (ps ++ [v])) := by simp only [pLet]; rfl
  rw [pl] at h
  have sz3 : szN k ≤ 3 := by unfold szN; split <;> (try split) <;> omega
  -- what holds behind the write
  have five : ∀ s1 v X, X = nI v → s1 = up (up s 65 49 (nI (ps.length + 1))) (91 + ps.length) P.1 X → mRd (5, hh, P, k, ps ++ [v]) s1 := by
    intro s1 v X hX hs
    subst hX hs
    have g : Fr (fun r j => (r = 65 ∧ j = 49) ∨ (r = 91 + ps.length ∧ j = P.1)) s (up (up s 65 49 (nI (ps.length + 1))) (91 + ps.length) P.1 (nI v)) := (Fr.rf.up _ (by omega)).up _ (by omega)
    refine ⟨mRb_fr (P := P) g (by omega) (by omega) h1, fun _ => ?_, fun _ => ?_, fun _ => ?_, fun q => by dsimp only at q; omega, fun q => by dsimp only at q; omega, fun _ => ⟨?_, ?_, ?_, fun q hq => ?_⟩⟩
    · rw [g.2 _ _ (by omega)]; exact h2 (by omega)
    · rw [g.2 _ _ (by omega)]; exact h3 (by omega)
    · rw [g.2 _ _ (by omega)]; exact h4 (by omega)
    · rw [g.2 _ _ (by omega)]; exact h7a
    · have : ¬ (65 = 91 + ps.length) := by omega
      simp [up_get, this]
    · rw [g.2 _ _ (by omega)]; exact h7c
    · dsimp only at hq ⊢
      rw [getD_app1 hq]
      by_cases e : q = ps.length
      · rw [if_pos e, e]; simp [up_get]
      · simp only [List.length_append, List.length_singleton] at hq
        rw [if_neg e, g.2 _ _ (by omega)]
        exact h7d q (by omega)
  have four : ∀ s1 v X, X = nI v → ps.length + 1 = szN k → s1 = up (up (up (up s 65 49 (nI (ps.length + 1))) (91 + ps.length) P.1 X) 65 43 (nI (P.1 + 1))) 65 48 0 → mRd (4, hh, addP P k (ps ++ [v]), 0, []) s1 := by
    intro s1 v X hX hsz hs
    obtain ⟨f1, f2, f3, f4, f5, f6, f7⟩ := five _ v X hX rfl
    obtain ⟨f7a, f7b, f7c, f7d⟩ := f7 rfl
    dsimp only at f1 f2 f3 f4 f7c f7d
    generalize (up (up s 65 49 (nI (ps.length + 1))) (91 + ps.length) P.1 X) = s2 at *
    subst hs
    have g : Fr (fun r j => r = 65 ∧ (j = 43 ∨ j = 48)) s2 (up (up s2 65 43 (nI (P.1 + 1))) 65 48 0) := (Fr.rf.up _ (by omega)).up _ (by omega)
    have ln2 : (ps ++ [v]).length = szN k := by simp; exact hsz
    refine ⟨⟨by simp [up_get, addP], fun i hi => ?_⟩, fun _ => ?_, fun _ => ?_, fun _ => ?_, fun q => by dsimp only at q; omega, fun _ => by simp [up_get], fun q => by dsimp only at q; omega⟩
    · have hi : i < P.1 + 1 := hi
      rw [g.2 _ _ (by omega), g.2 _ _ (by omega), g.2 _ _ (by omega), g.2 _ _ (by omega)]
      by_cases e : i = P.1
      · subst e
        obtain ⟨n1, n2, n3, n4⟩ := addP_new P k (ps ++ [v])
        dsimp only
        rw [n1, n2, n3, n4]
        exact ⟨f7c, f7d 0 (by rw [ln2]; exact szN_pos k), fun q => f7d 1 (by rw [ln2]; unfold szN; rw [if_neg q]; split <;> omega), fun q => f7d 2 (by rw [ln2]; subst q; decide)⟩
      · have hi : i < P.1 := by omega
        obtain ⟨o1, o2, o3, o4⟩ := addP_old (k := k) (ps := ps ++ [v]) hi
        dsimp only
        rw [o1, o2, o3, o4]
        exact f1.2 i hi
    · rw [g.2 _ _ (by omega)]; exact f2 (by omega)
    · rw [g.2 _ _ (by omega)]; exact f3 (by omega)
    · rw [g.2 _ _ (by omega)]; exact f4 (by omega)
  have finA : ∀ (B : Bool) (X : Int32), ps.length + 1 < szN k → B = (partN P k (ps.length + 1) c).isSome → (∀ v, partN P k (ps.length + 1) c = some v → X = nI v) → Q (some (.int (b2i B))) (hp scr (up (up s 65 49 (nI (ps.length + 1))) (91 + ps.length) P.1 X)) := by
    intro B X hsz hB hX
    refine h _ B ((Fr.rf.up _ (by omega)).up _ (by omega)) (by rw [hB]; cases partN P k (ps.length + 1) c <;> rfl) fun σ' hs => ?_
    cases hv : partN P k (ps.length + 1) c with
    | none => rw [hv] at hs; cases hs
    | some v =>
      rw [hv] at hs
      have hs : some (aftN hh P k (ps ++ [v])) = some σ' := hs
      cases hs
      unfold aftN
      rw [if_neg (by simp; omega)]
      exact five _ v X (hX v hv) rfl
  have finB : ∀ (B : Bool) (X : Int32), ps.length + 1 = szN k → B = (partN P k (ps.length + 1) c).isSome → (∀ v, partN P k (ps.length + 1) c = some v → X = nI v) → if B then Q (some (.int 1)) (hp scr (up (up (up (up s 65 49 (nI (ps.length + 1))) (91 + ps.length) P.1 X) 65 43 (nI (P.1 + 1))) 65 48 0)) else Q (some (.int 0)) (hp scr (up (up s 65 49 (nI (ps.length + 1))) (91 + ps.length) P.1 X)) := by
    intro B X hsz hB hX
    cases hv : partN P k (ps.length + 1) c with
    | none =>
      rw [hv] at hB h
      subst hB
      exact h _ false ((Fr.rf.up _ (by omega)).up _ (by omega)) rfl fun σ' hs => by cases hs
    | some v =>
      rw [hv] at hB h
      subst hB
      refine h _ true ((((Fr.rf.up _ (by omega)).up _ (by omega)).up _ (by omega)).up _ (by omega)) rfl fun σ' hs => ?_
      have hs : some (aftN hh P k (ps ++ [v])) = some σ' := hs
      cases hs
      unfold aftN
      rw [if_pos (by simp; omega)]
      exact four _ v X (hX v hv) hsz rfl
  have sub : ∀ b : Nat, b < 256 → b ≤ c → nI c - nI b = nI (c - b) := fun b _ q => nI_sub q
  have dig : ∀ (s1 : MS) (N : Nat) (hN : N < 100) Q, X_R_in [.long (nI c).toInt64, .long 48, .long (nI (47 + N)).toInt64] (hp scr s1) Q ↔ Q (some (.int (b2i (digN N c).isSome))) (hp scr s1) := by
    intro s1 N hN Q
    have := t_in scr s1 (nI c) 48 (nI (47 + N)) (A := 48) (B := (nI (47 + N)).toInt64) rfl rfl Q
    rw [show (48 : Int32) = nI 48 from rfl, rng_two hc (by decide) (by omega)] at this
    rw [this]
    unfold digN
    by_cases q : 48 ≤ c ∧ c < 48 + N
    · have q2 : c ≤ 47 + N := by omega
      rw [if_pos q, decide_eq_true q.1, decide_eq_true q2]; rfl
    · have e : (decide (48 ≤ c) && decide (c ≤ 47 + N)) = false := by
        by_cases r : 48 ≤ c
        · rw [decide_eq_false (show ¬ c ≤ 47 + N by omega)]; simp
        · rw [decide_eq_false r]; rfl
      rw [if_neg q, e]; rfl
  have d57 : ∀ (s1 : MS) Q, X_R_in [.long (nI c).toInt64, .long 48, .long 57] (hp scr s1) Q ↔ Q (some (.int (b2i (digN 10 c).isSome))) (hp scr s1) := fun s1 Q => dig s1 10 (by decide) Q
  have d55 : ∀ (s1 : MS) Q, X_R_in [.long (nI c).toInt64, .long 48, .long 55] (hp scr s1) Q ↔ Q (some (.int (b2i (digN 8 c).isSome))) (hp scr s1) := fun s1 Q => dig s1 8 (by decide) Q
  have d65 : ∀ (s1 : MS) Q, X_R_in [.long (nI c).toInt64, .long 65, .long 66] (hp scr s1) Q ↔ Q (some (.int (b2i (rowN c).isSome))) (hp scr s1) := by
    intro s1 Q
    have := t_in scr s1 (nI c) 65 66 (A := 65) (B := 66) rfl rfl Q
    rw [show (65 : Int32) = nI 65 from rfl, show (66 : Int32) = nI 66 from rfl, rng_two hc (by decide) (by decide)] at this
    rw [this]
    unfold rowN
    by_cases q : c = 65
    · subst q; rfl
    · by_cases q2 : c = 66
      · subst q2; rfl
      · rw [if_neg q, if_neg q2]
        by_cases r : 65 ≤ c
        · rw [decide_eq_false (show ¬ c ≤ 66 by omega)]; simp
        · rw [decide_eq_false r]; rfl
  have vdig : ∀ N v, digN N c = some v → nI c - 48 = nI v := by
    intro N v hv
    unfold digN at hv
    split at hv
    · next q => cases hv; exact sub 48 (by decide) q.1
    · cases hv
  have vrow : ∀ v, rowN c = some v → nI c - 65 = nI v := by
    intro v hv
    unfold rowN at hv
    split at hv
    · next q => cases hv; subst q; rfl
    · split at hv
      · next q => cases hv; subst q; rfl
      · cases hv
  have vop : ∀ v, opN P c = some v → nI c - 97 = nI v := by
    intro v hv
    unfold opN at hv
    split at hv
    · next q => cases hv; exact sub 97 (by decide) q.1
    · cases hv
  have mrb : ∀ X : Int32, mRb P (up (up s 65 49 (nI (ps.length + 1))) (91 + ps.length) P.1 X) := fun X => mRb_fr (F := fun r j => (r = 65 ∧ j = 49) ∨ (r = 91 + ps.length ∧ j = P.1)) ((Fr.rf.up _ (by omega)).up _ (by omega)) (by omega) (by omega) h1
  have c43 : ∀ X : Int32, (up (up s 65 49 (nI (ps.length + 1))) (91 + ps.length) P.1 X).1 65 43 = nI P.1 := fun X => (mrb X).1
  have e0' : (nI k = 0) = (k = 0) := L_eq0 (by omega)
  have e1' : (nI k = 1) = (k = 1) := L_eq1 (by omega)
  have e6 : (nI k = 6) = (k = 6) := leq _ 6 (by omega) (by decide)
  have s49 : s.1 65 49 + 1 = nI (ps.length + 1) := by rw [h7b, L_p1]
  have b43 : (up s 65 49 (nI (ps.length + 1))).1 65 43 = nI P.1 := by simp [up_get]; exact h1.1
  simp [X_R_takeOf, B_R_takeOf, lini, lx, Value.category]
  refine sSq_I1 (v := nI k) (h' := hp scr s) ?k1 (by simp) ?k2
  case k1 =>
    intro K hK
    simp [eV, eI, eL, eR, e1, e2, eDI, eDL, eFI, eFL, eFR, eAI, eAZ, eAR, eLen, aN, aC, xV, xS, eX, eIf, eC_b, cA, cO, cN, sSk, sSq, sI, sL, sR, sInc, sF, sFO, sAI, sAZ, sAO, sX, sXp, sIf, sCut, sSqs, sSw, sRt, sRz_g, is01_b, is01_0, is01_1, sRv, sBk, sCt, sCp, lset, lclr, lcut, lini, lx, Value.category, ixOf, b2i_0, b2i_1, T_R, G_R, h1.1, ix, h7c]
    exact hK
  refine sSq_I1 (v := nI P.1) (h' := hp scr s) ?k3 (by simp [lset]) ?k4
  case k3 =>
    intro K hK
    simp [eV, eI, eL, eR, e1, e2, eDI, eDL, eFI, eFL, eFR, eAI, eAZ, eAR, eLen, aN, aC, xV, xS, eX, eIf, eC_b, cA, cO, cN, sSk, sSq, sI, sL, sR, sInc, sF, sFO, sAI, sAZ, sAO, sX, sXp, sIf, sCut, sSqs, sSw, sRt, sRz_g, is01_b, is01_0, is01_1, sRv, sBk, sCt, sCp, lset, lclr, lcut, lini, lx, Value.category, ixOf, b2i_0, b2i_1, T_R, h1.1]
    exact hK
  refine sSq_S1 (ls' := [.ref 65, .int (nI c), .int (nI k), .int (nI P.1), .null]) (scr := scr) (I := fun s1 => s1 = up s 65 49 (nI (ps.length + 1))) ?k5 ?k6
  case k5 =>
    intro kn hkn
    simp [eV, eI, eL, eR, e1, e2, eDI, eDL, eFI, eFL, eFR, eAI, eAZ, eAR, eLen, aN, aC, xV, xS, eX, eIf, eC_b, cA, cO, cN, sSk, sSq, sI, sL, sR, sInc, sF, sFO, sAI, sAZ, sAO, sX, sXp, sIf, sCut, sSqs, sSw, sRt, sRz_g, is01_b, is01_0, is01_1, sRv, sBk, sCt, sCp, lset, lclr, lcut, lini, lx, Value.category, ixOf, b2i_0, b2i_1, T_R, U_R, s49]
    exact hkn _ rfl
  rintro s0 hs0
  rw [← hs0] at finA finB mrb c43 b43
  have a49 : s0.1 65 49 = nI (ps.length + 1) := by rw [hs0]; simp [up_get]
  clear five four h dig hs0
  rw [sSq_if (t := decide (k = 1)) (by intro K; simp [eV, eI, eL, eR, e1, e2, eDI, eDL, eFI, eFL, eFR, eAI, eAZ, eAR, eLen, aN, aC, xV, xS, eX, eIf, eC_b, cA, cO, cN, sSk, sSq, sI, sL, sR, sInc, sF, sFO, sAI, sAZ, sAO, sX, sXp, sIf, sCut, sSqs, sSw, sRt, sRz_g, is01_b, is01_0, is01_1, sRv, sBk, sCt, sCp, lset, lclr, lcut, lini, lx, Value.category, ixOf, b2i_0, b2i_1, e1'])]
  by_cases q1 : k = 1
  · subst q1
    have l0 : ps.length = 0 := by have : szN 1 = 1 := rfl; omega
    have pn : partN P 1 (ps.length + 1) c = digN 10 c := by unfold partN; rw [if_pos rfl]
    have fb := finB (digN 10 c).isSome (nI c - 48) (by rw [l0]; rfl) (by rw [pn]) (fun v hv => vdig 10 v (by rw [pn] at hv; exact hv))
    have c43' := c43 (nI c - 48)
    rw [l0] at fb c43'
    have fb : if (digN 10 c).isSome = true then Q (some (.int 1)) (hp scr (up (up (up s0 91 P.1 (nI c - 48)) 65 43 (nI (P.1 + 1))) 65 48 0)) else Q (some (.int 0)) (hp scr (up s0 91 P.1 (nI c - 48))) := fb
    have c43' : (up s0 91 P.1 (nI c - 48)).1 65 43 = nI P.1 := c43'
    simp only [decide_true, if_true]
    refine any_kn fun kn => ?_
    simp [eV, eI, eL, eR, e1, e2, eDI, eDL, eFI, eFL, eFR, eAI, eAZ, eAR, eLen, aN, aC, xV, xS, eX, eIf, eC_b, cA, cO, cN, sSk, sSq, sI, sL, sR, sInc, sF, sFO, sAI, sAZ, sAO, sX, sXp, sIf, sCut, sSqs, sSw, sRt, sRz_g, is01_b, is01_0, is01_1, sRv, sBk, sCt, sCp, lset, lclr, lcut, lini, lx, Value.category, ixOf, b2i_0, b2i_1, T_R, G_R, ix]
    rw [d57]
    refine ⟨_, rfl, ?_⟩
    simp [T_R]
    rw [s_R_done scr _ _ c43']
    generalize (digN 10 c).isSome = v at fb ⊢
    cases v <;> simpa [is01_0, is01_1] using fb
  simp only [q1, decide_false, Bool.false_eq_true, if_false, sSk_eq]
  have l1 : (nI (ps.length + 1) = 1) = (ps.length = 0) := by rw [L_eq1 (by omega)]; apply propext; omega
  have l2 : (nI (ps.length + 1) = 2) = (ps.length = 1) := by rw [show (2 : Int32) = nI 2 from rfl, leq _ _ (by omega) (by decide)]; apply propext; omega
  rw [sSq_if (t := decide (k = 0) || decide (k = 6)) (by intro K; simp [eV, eI, eL, eR, e1, e2, eDI, eDL, eFI, eFL, eFR, eAI, eAZ, eAR, eLen, aN, aC, xV, xS, eX, eIf, eC_b, cA, cO, cN, sSk, sSq, sI, sL, sR, sInc, sF, sFO, sAI, sAZ, sAO, sX, sXp, sIf, sCut, sSqs, sSw, sRt, sRz_g, is01_b, is01_0, is01_1, sRv, sBk, sCt, sCp, lset, lclr, lcut, lini, lx, Value.category, ixOf, b2i_0, b2i_1, e0', e6]; by_cases z : k = 0 <;> simp [z])]
  by_cases q06 : k = 0 ∨ k = 6
  · have e : (decide (k = 0) || decide (k = 6)) = true := by simpa using q06
    rw [e]
    simp only [if_true]
    refine any_kn fun kn => ?_
    rw [sSq_if (t := decide (ps.length = 0)) (by intro K; simp [eV, eI, eL, eR, e1, e2, eDI, eDL, eFI, eFL, eFR, eAI, eAZ, eAR, eLen, aN, aC, xV, xS, eX, eIf, eC_b, cA, cO, cN, sSk, sSq, sI, sL, sR, sInc, sF, sFO, sAI, sAZ, sAO, sX, sXp, sIf, sCut, sSqs, sSw, sRt, sRz_g, is01_b, is01_0, is01_1, sRv, sBk, sCt, sCp, lset, lclr, lcut, lini, lx, Value.category, ixOf, b2i_0, b2i_1, T_R, a49, l1])]
    by_cases p0 : ps.length = 0
    · have pn : partN P k (ps.length + 1) c = rowN c := by unfold partN; rw [if_neg q1, if_pos ⟨q06, by omega⟩]
      have fa := finA (rowN c).isSome (nI c - 65) (by rw [p0]; rcases q06 with rfl | rfl <;> decide) (by rw [pn]) (fun v hv => vrow v (by rw [pn] at hv; exact hv))
      rw [p0] at fa
      have fa : Q (some (.int (b2i (rowN c).isSome))) (hp scr (up s0 91 P.1 (nI c - 65))) := fa
      simp only [p0, decide_true, if_true]
      refine any_kn fun kn => ?_
      simp [eV, eI, eL, eR, e1, e2, eDI, eDL, eFI, eFL, eFR, eAI, eAZ, eAR, eLen, aN, aC, xV, xS, eX, eIf, eC_b, cA, cO, cN, sSk, sSq, sI, sL, sR, sInc, sF, sFO, sAI, sAZ, sAO, sX, sXp, sIf, sCut, sSqs, sSw, sRt, sRz_g, is01_b, is01_0, is01_1, sRv, sBk, sCt, sCp, lset, lclr, lcut, lini, lx, Value.category, ixOf, b2i_0, b2i_1, T_R, G_R, ix]
      rw [d65]
      exact ⟨_, rfl, is01_b _ ▸ trivial, fa⟩
    · simp only [p0, decide_false, Bool.false_eq_true, if_false, sSk_eq]
      rw [sSq_if (t := decide (ps.length = 1)) (by intro K; simp [eV, eI, eL, eR, e1, e2, eDI, eDL, eFI, eFL, eFR, eAI, eAZ, eAR, eLen, aN, aC, xV, xS, eX, eIf, eC_b, cA, cO, cN, sSk, sSq, sI, sL, sR, sInc, sF, sFO, sAI, sAZ, sAO, sX, sXp, sIf, sCut, sSqs, sSw, sRt, sRz_g, is01_b, is01_0, is01_1, sRv, sBk, sCt, sCp, lset, lclr, lcut, lini, lx, Value.category, ixOf, b2i_0, b2i_1, T_R, a49, l2])]
      by_cases p1 : ps.length = 1
      · have pn : partN P k (ps.length + 1) c = digN 8 c := by unfold partN; rw [if_neg q1, if_neg (by omega), if_pos ⟨q06, by omega⟩]
        simp only [p1, decide_true, if_true]
        refine any_kn fun kn => ?_
        refine sSq_S1 (ls' := [.ref 65, .int (nI c), .int (nI k), .int (nI P.1), .null]) (scr := scr) (I := fun s1 => s1 = up s0 92 P.1 (nI c - 48)) ?m1 ?m2
        case m1 =>
          intro kn hkn
          simp [eV, eI, eL, eR, e1, e2, eDI, eDL, eFI, eFL, eFR, eAI, eAZ, eAR, eLen, aN, aC, xV, xS, eX, eIf, eC_b, cA, cO, cN, sSk, sSq, sI, sL, sR, sInc, sF, sFO, sAI, sAZ, sAO, sX, sXp, sIf, sCut, sSqs, sSw, sRt, sRz_g, is01_b, is01_0, is01_1, sRv, sBk, sCt, sCp, lset, lclr, lcut, lini, lx, Value.category, ixOf, b2i_0, b2i_1, T_R, G_R, ix]
          exact hkn _ rfl
        rintro s1 hs1
        refine sSq_I1 (v := b2i (digN 8 c).isSome) (h' := hp scr s1) ?m3 (by simp) ?m4
        case m3 =>
          intro K hK
          simp [eV, eI, eL, eR, e1, e2, eDI, eDL, eFI, eFL, eFR, eAI, eAZ, eAR, eLen, aN, aC, xV, xS, eX, eIf, eC_b, cA, cO, cN, sSk, sSq, sI, sL, sR, sInc, sF, sFO, sAI, sAZ, sAO, sX, sXp, sIf, sCut, sSqs, sSw, sRt, sRz_g, is01_b, is01_0, is01_1, sRv, sBk, sCt, sCp, lset, lclr, lcut, lini, lx, Value.category, ixOf, b2i_0, b2i_1]
          rw [d55]
          exact ⟨_, rfl, hK⟩
        rcases q06 with rfl | rfl
        · have fb := finB (digN 8 c).isSome (nI c - 48) (by rw [p1]; rfl) (by rw [pn]) (fun v hv => vdig 8 v (by rw [pn] at hv; exact hv))
          have c43' := c43 (nI c - 48)
          rw [p1] at fb c43'
          have e91 : up s0 (91 + 1) P.1 (nI c - 48) = s1 := hs1.symm
          rw [e91] at fb c43'
          simp [eV, eI, eL, eR, e1, e2, eDI, eDL, eFI, eFL, eFR, eAI, eAZ, eAR, eLen, aN, aC, xV, xS, eX, eIf, eC_b, cA, cO, cN, sSk, sSq, sI, sL, sR, sInc, sF, sFO, sAI, sAZ, sAO, sX, sXp, sIf, sCut, sSqs, sSw, sRt, sRz_g, is01_b, is01_0, is01_1, sRv, sBk, sCt, sCp, lset, lclr, lcut, lini, lx, Value.category, ixOf, b2i_0, b2i_1, show nI 0 = 0 from rfl, T_R]
          rw [s_R_done scr _ _ c43']
          generalize (digN 8 c).isSome = v at fb ⊢
          cases v <;> simpa [is01_0, is01_1] using fb
        · have fa := finA (digN 8 c).isSome (nI c - 48) (by rw [p1]; decide) (by rw [pn]) (fun v hv => vdig 8 v (by rw [pn] at hv; exact hv))
          rw [p1] at fa
          have e91 : up s0 (91 + 1) P.1 (nI c - 48) = s1 := hs1.symm
          rw [e91] at fa
          simp [eV, eI, eL, eR, e1, e2, eDI, eDL, eFI, eFL, eFR, eAI, eAZ, eAR, eLen, aN, aC, xV, xS, eX, eIf, eC_b, cA, cO, cN, sSk, sSq, sI, sL, sR, sInc, sF, sFO, sAI, sAZ, sAO, sX, sXp, sIf, sCut, sSqs, sSw, sRt, sRz_g, is01_b, is01_0, is01_1, sRv, sBk, sCt, sCp, lset, lclr, lcut, lini, lx, Value.category, ixOf, b2i_0, b2i_1, show nI 6 = 6 from rfl]
          exact fa
      · have k6' : k = 6 := by
          rcases q06 with rfl | rfl
          · have : szN 0 = 2 := rfl
            omega
          · rfl
        subst k6'
        have p2 : ps.length = 2 := by have : szN 6 = 3 := rfl; omega
        have pn : partN P 6 (ps.length + 1) c = opN P c := by unfold partN; rw [if_neg q1, if_neg (by omega), if_neg (by omega)]
        have fb := finB (opN P c).isSome (nI c - 97) (by rw [p2]; rfl) (by rw [pn]) (fun v hv => vop v (by rw [pn] at hv; exact hv))
        have c43' := c43 (nI c - 97)
        have mb := mrb (nI c - 97)
        rw [p2] at fb c43' mb
        simp only [p1, decide_false, Bool.false_eq_true, if_false, sSk_eq]
        refine sSq_S1 (ls' := [.ref 65, .int (nI c), .int (nI 6), .int (nI P.1), .null]) (scr := scr) (I := fun s1 => s1 = up s0 93 P.1 (nI c - 97)) ?m5 ?m6
        case m5 =>
          intro kn hkn
          simp [eV, eI, eL, eR, e1, e2, eDI, eDL, eFI, eFL, eFR, eAI, eAZ, eAR, eLen, aN, aC, xV, xS, eX, eIf, eC_b, cA, cO, cN, sSk, sSq, sI, sL, sR, sInc, sF, sFO, sAI, sAZ, sAO, sX, sXp, sIf, sCut, sSqs, sSw, sRt, sRz_g, is01_b, is01_0, is01_1, sRv, sBk, sCt, sCp, lset, lclr, lcut, lini, lx, Value.category, ixOf, b2i_0, b2i_1, T_R, G_R, ix]
          exact hkn _ rfl
        rintro s1 hs1
        have e92 : up s0 (91 + 2) P.1 (nI c - 97) = s1 := hs1.symm
        rw [e92] at fb c43' mb
        have iv := fun Q => s_R_isVal scr hP mb hc Q
        simp [eV, eI, eL, eR, e1, e2, eDI, eDL, eFI, eFL, eFR, eAI, eAZ, eAR, eLen, aN, aC, xV, xS, eX, eIf, eC_b, cA, cO, cN, sSk, sSq, sI, sL, sR, sInc, sF, sFO, sAI, sAZ, sAO, sX, sXp, sIf, sCut, sSqs, sSw, sRt, sRz_g, is01_b, is01_0, is01_1, sRv, sBk, sCt, sCp, lset, lclr, lcut, lini, lx, Value.category, ixOf, b2i_0, b2i_1, T_R]
        rw [iv]
        refine ⟨_, rfl, ?_⟩
        simp [T_R]
        rw [s_R_done scr _ _ c43']
        generalize (opN P c).isSome = v at fb ⊢
        cases v <;> simpa [is01_0, is01_1] using fb
  · have e : (decide (k = 0) || decide (k = 6)) = false := by
      rw [Bool.eq_false_iff]; simpa using q06
    have sz2 : szN k = 2 := by unfold szN; rw [if_neg q1, if_neg (by omega)]
    have pn : partN P k (ps.length + 1) c = opN P c := by unfold partN; rw [if_neg q1, if_neg (by omega), if_neg (by omega)]
    rw [e]
    simp only [Bool.false_eq_true, if_false, sSk_eq]
    rw [sSq_if (t := decide (ps.length = 0)) (by intro K; simp [eV, eI, eL, eR, e1, e2, eDI, eDL, eFI, eFL, eFR, eAI, eAZ, eAR, eLen, aN, aC, xV, xS, eX, eIf, eC_b, cA, cO, cN, sSk, sSq, sI, sL, sR, sInc, sF, sFO, sAI, sAZ, sAO, sX, sXp, sIf, sCut, sSqs, sSw, sRt, sRz_g, is01_b, is01_0, is01_1, sRv, sBk, sCt, sCp, lset, lclr, lcut, lini, lx, Value.category, ixOf, b2i_0, b2i_1, T_R, a49, l1])]
    by_cases p0 : ps.length = 0
    · have fa := finA (opN P c).isSome (nI c - 97) (by omega) (by rw [pn]) (fun v hv => vop v (by rw [pn] at hv; exact hv))
      have mb := mrb (nI c - 97)
      rw [p0] at fa mb
      have fa : Q (some (.int (b2i (opN P c).isSome))) (hp scr (up s0 91 P.1 (nI c - 97))) := fa
      have mb : mRb P (up s0 91 P.1 (nI c - 97)) := mb
      have iv := fun Q => s_R_isVal scr hP mb hc Q
      simp only [p0, decide_true, if_true]
      refine any_kn fun kn => ?_
      simp [eV, eI, eL, eR, e1, e2, eDI, eDL, eFI, eFL, eFR, eAI, eAZ, eAR, eLen, aN, aC, xV, xS, eX, eIf, eC_b, cA, cO, cN, sSk, sSq, sI, sL, sR, sInc, sF, sFO, sAI, sAZ, sAO, sX, sXp, sIf, sCut, sSqs, sSw, sRt, sRz_g, is01_b, is01_0, is01_1, sRv, sBk, sCt, sCp, lset, lclr, lcut, lini, lx, Value.category, ixOf, b2i_0, b2i_1, T_R, G_R, ix]
      rw [iv]
      exact ⟨_, rfl, is01_b _ ▸ trivial, fa⟩
    · have p1 : ps.length = 1 := by omega
      have fb := finB (opN P c).isSome (nI c - 97) (by omega) (by rw [pn]) (fun v hv => vop v (by rw [pn] at hv; exact hv))
      have c43' := c43 (nI c - 97)
      have mb := mrb (nI c - 97)
      rw [p1] at fb c43' mb
      simp only [p0, decide_false, Bool.false_eq_true, if_false, sSk_eq]
      refine sSq_S1 (ls' := [.ref 65, .int (nI c), .int (nI k), .int (nI P.1), .null]) (scr := scr) (I := fun s1 => s1 = up s0 92 P.1 (nI c - 97)) ?m7 ?m8
      case m7 =>
        intro kn hkn
        simp [eV, eI, eL, eR, e1, e2, eDI, eDL, eFI, eFL, eFR, eAI, eAZ, eAR, eLen, aN, aC, xV, xS, eX, eIf, eC_b, cA, cO, cN, sSk, sSq, sI, sL, sR, sInc, sF, sFO, sAI, sAZ, sAO, sX, sXp, sIf, sCut, sSqs, sSw, sRt, sRz_g, is01_b, is01_0, is01_1, sRv, sBk, sCt, sCp, lset, lclr, lcut, lini, lx, Value.category, ixOf, b2i_0, b2i_1, T_R, G_R, ix]
        exact hkn _ rfl
      rintro s1 hs1
      have e91 : up s0 (91 + 1) P.1 (nI c - 97) = s1 := hs1.symm
      rw [e91] at fb c43' mb
      have iv := fun Q => s_R_isVal scr hP mb hc Q
      simp [eV, eI, eL, eR, e1, e2, eDI, eDL, eFI, eFL, eFR, eAI, eAZ, eAR, eLen, aN, aC, xV, xS, eX, eIf, eC_b, cA, cO, cN, sSk, sSq, sI, sL, sR, sInc, sF, sFO, sAI, sAZ, sAO, sX, sXp, sIf, sCut, sSqs, sSw, sRt, sRz_g, is01_b, is01_0, is01_1, sRv, sBk, sCt, sCp, lset, lclr, lcut, lini, lx, Value.category, ixOf, b2i_0, b2i_1, T_R]
      rw [iv]
      refine ⟨_, rfl, ?_⟩
      simp [T_R]
      rw [s_R_done scr _ _ c43']
      generalize (opN P c).isSome = v at fb ⊢
      cases v <;> simpa [is01_0, is01_1] using fb
