theorem mayS_dig {n i j : Nat} (hn : n ≤ 2) (hi : i < 100) (hj : j < 100) : mayS n (nI (100 * i + j)) = (decide (i = 0) && mayS n (nI j)) := by
  unfold mayS
  have e0 : ∀ N : Nat, N < 100 → rng 0 (nI N) (nI (100 * i + j)) = (decide (i = 0) && rng 0 (nI N) (nI j)) := by
    intro N hN
    rw [rng_nI (by omega) (by omega), rng_nI (by omega) (by omega)]
    by_cases c : i = 0
    · subst c; simp
    · rw [decide_eq_false c, decide_eq_false (by omega)]; rfl
  rcases (show n = 0 ∨ n = 1 ∨ n = 2 by omega) with rfl | rfl | rfl
  · simp only [if_true]
    exact e0 8 (by omega)
  · simp only [Nat.reduceEqDiff, if_true, if_false]
    exact e0 1 (by omega)
  · simp only [Nat.reduceEqDiff, if_false]
    have l : ∀ a b : Nat, a < 2 ^ 31 → b < 2 ^ 31 → decide (nI a = nI b) = decide (a = b) := fun a b ha hb => by rw [decide_eq_decide]; exact nI_eq ha hb
    rw [show (2 : Int32) = nI 2 from rfl, show (4 : Int32) = nI 4 from rfl, l _ _ (by omega) (by omega), l _ _ (by omega) (by omega), l _ _ (by omega) (by omega), l _ _ (by omega) (by omega)]
    by_cases c : i = 0
    · subst c; simp
    · rw [decide_eq_false c, decide_eq_false (by omega), decide_eq_false (by omega)]; rfl
theorem t_maySet (scr : List Int32) (s : MS) (v : Int32) : (∀ Q, X_R_maySet [.int 0, .int v] (hp scr s) Q ↔ Q (some (.int (b2i (mayS 0 v)))) (hp scr s)) ∧ (∀ Q, X_R_maySet [.int 1, .int v] (hp scr s) Q ↔ Q (some (.int (b2i (mayS 1 v)))) (hp scr s)) ∧ (∀ Q, X_R_maySet [.int 2, .int v] (hp scr s) Q ↔ Q (some (.int (b2i (mayS 2 v)))) (hp scr s)) := ⟨fun Q => s_R_maySet scr s 0 v Q, fun Q => s_R_maySet scr s 1 v Q, fun Q => s_R_maySet scr s 2 v Q⟩
abbrev FJ : Nat → Nat → Prop := fun a b => a = 72 ∨ FQ a b
theorem s_R_judged {P : PC} (scr : List Int32) {s : MS} (hP : okP P) (hm : mR P s) {w : Row} (ok : okRow w) (hw : mRw 72 w s) {d : Nat} (hd : d < 100000) (Q : Option Value → HV → Prop) (h : ∀ s', Fr FJ s s' → mRw 72 (jOne P w d).2 s' → Q (some (.int (b2i (jOne P w d).1))) (hp scr s')) : X_R_judged [.ref 65, .int (nI (d / 10000)), .int (nI (d % 10000))] (hp scr s) Q := by
  have h16 := hP.1
  have e4 : d % 10000 = 100 * (d / 100 % 100) + d % 100 := by omega
  have s10 : d / 10000 < 10 := by omega
  have i100 : d / 100 % 100 < 100 := by omega
  have j100 : d % 100 < 100 := by omega
  have q2 : nI (d % 10000) / 100 = nI (d / 100 % 100) := by rw [show (100 : Int32) = nI 100 from rfl, pk_div (by omega) (by decide) (by decide), show d % 10000 / 100 = d / 100 % 100 by omega]
  have q3 : nI (d % 10000) - nI (d / 100 % 100) * 100 = nI (d % 100) := by rw [← q2, show (100 : Int32) = nI 100 from rfl, pk_rem (by omega) (by decide) (by decide), show d % 10000 % 100 = d % 100 by omega]
  have f4 : d % 10000 < 10000 := by omega
  have f100 : (d % 10000 < 100) = (d / 100 % 100 = 0) := by apply propext; omega
  have f0 : d / 100 % 100 = 0 → d % 10000 = d % 100 := by omega
  have mS := fun (n : Nat) (hn : n ≤ 2) => mayS_dig (n := n) hn i100 j100
  rw [← e4] at mS
  unfold jOne at h
  generalize d / 10000 = S at *
  generalize d / 100 % 100 = i at *
  generalize d % 100 = j at *
  generalize d % 10000 = F at *
  have hi := fun Q => s_R_isThere scr hP hm (nI i) Q
  have hj := fun Q => s_R_isThere scr hP hm (nI j) Q
  have ei : rng 0 (nI P.1 - 1) (nI i) = decide (i < P.1) := isI_nat hP (by omega)
  have ej : rng 0 (nI P.1 - 1) (nI j) = decide (j < P.1) := isI_nat hP (by omega)
  rw [ei] at hi
  rw [ej] at hj
  have t012 := t_maySet scr s (nI F)
  rw [mS 0 (by omega), mS 1 (by omega), mS 2 (by omega)] at t012
  by_cases S1 : S = 1
  · subst S1
    simp only [if_true] at h
    simp only [X_R_judged, B_R_judged, show nI 1 = 1 from rfl]
    have tk := t012.2.2
    cases hb : (decide (i = 0) && mayS 2 (nI j)) with
    | false =>
      rw [hb] at h tk
      simp [eV, eI, eL, eR, e1, e2, eDI, eDL, eFI, eFL, eFR, eAI, eAZ, eAR, eLen, aN, aC, xV, xS, eX, eIf, eC_b, cA, cO, cN, sSk, sSq, sI, sL, sR, sInc, sF, sFO, sAI, sAZ, sAO, sX, sXp, sIf, sCut, sSqs, sSw, sRt, sRz_g, is01_b, is01_0, is01_1, sRv, sBk, sCt, sCp, lset, lclr, lcut, lini, lx, Value.category, ixOf, b2i_0, b2i_1, tk, b2i_f]
      simpa [b2i] using h s Fr.rf hw
    | true =>
      rw [hb] at h tk
      rw [Bool.and_eq_true, decide_eq_true_eq] at hb
      simp [eV, eI, eL, eR, e1, e2, eDI, eDL, eFI, eFL, eFR, eAI, eAZ, eAR, eLen, aN, aC, xV, xS, eX, eIf, eC_b, cA, cO, cN, sSk, sSq, sI, sL, sR, sInc, sF, sFO, sAI, sAZ, sAO, sX, sXp, sIf, sCut, sSqs, sSw, sRt, sRz_g, is01_b, is01_0, is01_1, sRv, sBk, sCt, sCp, lset, lclr, lcut, lini, lx, Value.category, ixOf, b2i_0, b2i_1, tk, b2i_t, T_R, G_R, show (18 : Int32).toNatClampNeg = 18 from rfl]
      rw [f0 hb.1]
      simpa [b2i] using h (up s 72 18 (nI j)) (Fr.rf.up _ (by omega)) (mRw_up hw fun k => by simp [up_get])
  by_cases S2 : S = 2
  · subst S2
    simp only [Nat.reduceEqDiff, if_true, if_false] at h
    simp only [X_R_judged, B_R_judged, show nI 2 = 2 from rfl]
    have tk := t012.2.1
    cases hb : (decide (i = 0) && mayS 1 (nI j)) with
    | false =>
      rw [hb] at h tk
      simp [eV, eI, eL, eR, e1, e2, eDI, eDL, eFI, eFL, eFR, eAI, eAZ, eAR, eLen, aN, aC, xV, xS, eX, eIf, eC_b, cA, cO, cN, sSk, sSq, sI, sL, sR, sInc, sF, sFO, sAI, sAZ, sAO, sX, sXp, sIf, sCut, sSqs, sSw, sRt, sRz_g, is01_b, is01_0, is01_1, sRv, sBk, sCt, sCp, lset, lclr, lcut, lini, lx, Value.category, ixOf, b2i_0, b2i_1, tk, b2i_f]
      simpa [b2i] using h s Fr.rf hw
    | true =>
      rw [hb] at h tk
      rw [Bool.and_eq_true, decide_eq_true_eq] at hb
      simp [eV, eI, eL, eR, e1, e2, eDI, eDL, eFI, eFL, eFR, eAI, eAZ, eAR, eLen, aN, aC, xV, xS, eX, eIf, eC_b, cA, cO, cN, sSk, sSq, sI, sL, sR, sInc, sF, sFO, sAI, sAZ, sAO, sX, sXp, sIf, sCut, sSqs, sSw, sRt, sRz_g, is01_b, is01_0, is01_1, sRv, sBk, sCt, sCp, lset, lclr, lcut, lini, lx, Value.category, ixOf, b2i_0, b2i_1, tk, b2i_t, T_R, G_R, show (17 : Int32).toNatClampNeg = 17 from rfl]
      rw [f0 hb.1]
      simpa [b2i] using h (up s 72 17 (nI j)) (Fr.rf.up _ (by omega)) (mRw_up hw fun k => by simp [up_get])
  by_cases S3 : S = 3
  · subst S3
    simp only [Nat.reduceEqDiff, if_true, if_false] at h
    simp only [X_R_judged, B_R_judged, show nI 3 = 3 from rfl]
    have tk := t012.1
    cases hb : (decide (i = 0) && mayS 0 (nI j)) with
    | false =>
      rw [hb] at h tk
      simp [eV, eI, eL, eR, e1, e2, eDI, eDL, eFI, eFL, eFR, eAI, eAZ, eAR, eLen, aN, aC, xV, xS, eX, eIf, eC_b, cA, cO, cN, sSk, sSq, sI, sL, sR, sInc, sF, sFO, sAI, sAZ, sAO, sX, sXp, sIf, sCut, sSqs, sSw, sRt, sRz_g, is01_b, is01_0, is01_1, sRv, sBk, sCt, sCp, lset, lclr, lcut, lini, lx, Value.category, ixOf, b2i_0, b2i_1, tk, b2i_f]
      simpa [b2i] using h s Fr.rf hw
    | true =>
      rw [hb] at h tk
      rw [Bool.and_eq_true, decide_eq_true_eq] at hb
      simp [eV, eI, eL, eR, e1, e2, eDI, eDL, eFI, eFL, eFR, eAI, eAZ, eAR, eLen, aN, aC, xV, xS, eX, eIf, eC_b, cA, cO, cN, sSk, sSq, sI, sL, sR, sInc, sF, sFO, sAI, sAZ, sAO, sX, sXp, sIf, sCut, sSqs, sSw, sRt, sRz_g, is01_b, is01_0, is01_1, sRv, sBk, sCt, sCp, lset, lclr, lcut, lini, lx, Value.category, ixOf, b2i_0, b2i_1, tk, b2i_t, T_R, G_R, show (16 : Int32).toNatClampNeg = 16 from rfl]
      rw [f0 hb.1]
      simpa [b2i] using h (up s 72 16 (nI j)) (Fr.rf.up _ (by omega)) (mRw_up hw fun k => by simp [up_get])
  by_cases S4 : S = 4
  · subst S4
    simp only [Nat.reduceEqDiff, if_true, if_false] at h
    simp only [X_R_judged, B_R_judged, show nI 4 = 4 from rfl]
    simp [eV, eI, eL, eR, e1, e2, eDI, eDL, eFI, eFL, eFR, eAI, eAZ, eAR, eLen, aN, aC, xV, xS, eX, eIf, eC_b, cA, cO, cN, sSk, sSq, sI, sL, sR, sInc, sF, sFO, sAI, sAZ, sAO, sX, sXp, sIf, sCut, sSqs, sSw, sRt, sRz_g, is01_b, is01_0, is01_1, sRv, sBk, sCt, sCp, lset, lclr, lcut, lini, lx, Value.category, ixOf, b2i_0, b2i_1, q2, q3, T_R]
    by_cases ci : i < P.1
    · rw [decide_eq_true ci] at hi h
      by_cases cj : j < P.1
      · rw [decide_eq_true cj] at hj h
        simp [X_R_isDependent, B_R_isDependent, eV, eI, eL, eR, e1, e2, eDI, eDL, eFI, eFL, eFR, eAI, eAZ, eAR, eLen, aN, aC, xV, xS, eX, eIf, eC_b, cA, cO, cN, sSk, sSq, sI, sL, sR, sInc, sF, sFO, sAI, sAZ, sAO, sX, sXp, sIf, sCut, sSqs, sSw, sRt, sRz_g, is01_b, is01_0, is01_1, sRv, sBk, sCt, sCp, lset, lclr, lcut, lini, lx, Value.category, ixOf, b2i_0, b2i_1, T_R, hi, hj, b2i_t]
        refine s_R_nothingKept scr hP hm (Or.inr rfl) (mRow_of hw ok) ok.1 (om := 0) (out := no) (fun k hk => b_0 k) _ fun s1 g1 g2 g3 g4 g5 g6 g7 g8 => ⟨rfl, ?_⟩
        have v4 : bt (s1.1 79 j) i = pDep (fol P w no) i j := (g4 j cj i (by omega)).2
        have th := fun Q => t_has scr s1 (s1.1 79 j) (show i < 32 by omega) Q
        rw [v4] at th
        simp [T_R, G_R, ixf hP.1 cj, th, is01_b]
        have := h s1 (g1.wk fun r k z => by omega) (mRw_fr g1 (by omega) hw)
        simpa using this
      · rw [decide_eq_false cj] at hj h
        simp [X_R_isDependent, B_R_isDependent, eV, eI, eL, eR, e1, e2, eDI, eDL, eFI, eFL, eFR, eAI, eAZ, eAR, eLen, aN, aC, xV, xS, eX, eIf, eC_b, cA, cO, cN, sSk, sSq, sI, sL, sR, sInc, sF, sFO, sAI, sAZ, sAO, sX, sXp, sIf, sCut, sSqs, sSw, sRt, sRz_g, is01_b, is01_0, is01_1, sRv, sBk, sCt, sCp, lset, lclr, lcut, lini, lx, Value.category, ixOf, b2i_0, b2i_1, T_R, hi, hj, b2i_t, b2i_f]
        simpa [b2i] using h s Fr.rf hw
    · rw [decide_eq_false ci] at hi h
      simp [X_R_isDependent, B_R_isDependent, eV, eI, eL, eR, e1, e2, eDI, eDL, eFI, eFL, eFR, eAI, eAZ, eAR, eLen, aN, aC, xV, xS, eX, eIf, eC_b, cA, cO, cN, sSk, sSq, sI, sL, sR, sInc, sF, sFO, sAI, sAZ, sAO, sX, sXp, sIf, sCut, sSqs, sSw, sRt, sRz_g, is01_b, is01_0, is01_1, sRv, sBk, sCt, sCp, lset, lclr, lcut, lini, lx, Value.category, ixOf, b2i_0, b2i_1, T_R, hi, b2i_f]
      simpa [b2i] using h s Fr.rf hw
  by_cases S5 : S = 5
  · subst S5
    simp only [Nat.reduceEqDiff, if_true, if_false] at h
    simp only [X_R_judged, B_R_judged, show nI 5 = 5 from rfl]
    simp [eV, eI, eL, eR, e1, e2, eDI, eDL, eFI, eFL, eFR, eAI, eAZ, eAR, eLen, aN, aC, xV, xS, eX, eIf, eC_b, cA, cO, cN, sSk, sSq, sI, sL, sR, sInc, sF, sFO, sAI, sAZ, sAO, sX, sXp, sIf, sCut, sSqs, sSw, sRt, sRz_g, is01_b, is01_0, is01_1, sRv, sBk, sCt, sCp, lset, lclr, lcut, lini, lx, Value.category, ixOf, b2i_0, b2i_1, q2, q3, T_R]
    have l1 : (1 < nI j) = (1 < j) := L_1lt (by omega)
    have l2 : (nI j = 1) = (j = 1) := L_eq1 (by omega)
    have l0 : (nI j = 0) = (j = 0) := L_eq0 (by omega)
    by_cases ci : i < P.1
    · rw [decide_eq_true ci] at hi h
      by_cases cj : 1 < j
      · simp [X_R_isPackedAs, B_R_isPackedAs, eV, eI, eL, eR, e1, e2, eDI, eDL, eFI, eFL, eFR, eAI, eAZ, eAR, eLen, aN, aC, xV, xS, eX, eIf, eC_b, cA, cO, cN, sSk, sSq, sI, sL, sR, sInc, sF, sFO, sAI, sAZ, sAO, sX, sXp, sIf, sCut, sSqs, sSw, sRt, sRz_g, is01_b, is01_0, is01_1, sRv, sBk, sCt, sCp, lset, lclr, lcut, lini, lx, Value.category, ixOf, b2i_0, b2i_1, T_R, hi, b2i_t, l1, cj]
        have := h s Fr.rf hw
        have e : decide (nI j = b2i (kpf (chs P w no).1 i)) = false := by
          rw [decide_eq_false_iff_not]
          cases kpf (chs P w no).1 i
          · show ¬ (nI j = 0); rw [l0]; omega
          · show ¬ (nI j = 1); rw [l2]; omega
        rw [e] at this
        simpa [b2i] using this
      · simp [X_R_isPackedAs, B_R_isPackedAs, eV, eI, eL, eR, e1, e2, eDI, eDL, eFI, eFL, eFR, eAI, eAZ, eAR, eLen, aN, aC, xV, xS, eX, eIf, eC_b, cA, cO, cN, sSk, sSq, sI, sL, sR, sInc, sF, sFO, sAI, sAZ, sAO, sX, sXp, sIf, sCut, sSqs, sSw, sRt, sRz_g, is01_b, is01_0, is01_1, sRv, sBk, sCt, sCp, lset, lclr, lcut, lini, lx, Value.category, ixOf, b2i_0, b2i_1, T_R, hi, b2i_t, l1, cj]
        refine t_Rpack scr hP hm (Or.inr rfl) ok hw (om := 0) (out := no) (fun k hk => b_0 k) (by simp [no]) _ fun s1 g1 g2 g3 g4 => ⟨rfl, ?_⟩
        have okc := okc_of hP ok
        have k8 := okC_8 hP ok.1.2.2 okc
        have nn := NR_no hP okc.1 (by omega) g3.2.2.2.2.1 ci
        have := h s1 (g1.wk fun r k z => Or.inr z) (mRw_fr g1 (by omega) hw)
        simp [T_R, G_R, ixf hP.1 ci, nn, l2]
        cases hk : kpf (chs P w no).1 i with
        | false =>
          rw [hk] at this
          rcases (show j = 0 ∨ j = 1 by omega) with rfl | rfl
          · simpa [b2i, show nI 0 = 0 from rfl] using this
          · simpa [b2i, show nI 1 = 1 from rfl] using this
        | true =>
          rw [hk] at this
          rcases (show j = 0 ∨ j = 1 by omega) with rfl | rfl
          · simpa [b2i, show nI 0 = 0 from rfl] using this
          · simpa [b2i, show nI 1 = 1 from rfl] using this
    · rw [decide_eq_false ci] at hi h
      simp [X_R_isPackedAs, B_R_isPackedAs, eV, eI, eL, eR, e1, e2, eDI, eDL, eFI, eFL, eFR, eAI, eAZ, eAR, eLen, aN, aC, xV, xS, eX, eIf, eC_b, cA, cO, cN, sSk, sSq, sI, sL, sR, sInc, sF, sFO, sAI, sAZ, sAO, sX, sXp, sIf, sCut, sSqs, sSw, sRt, sRz_g, is01_b, is01_0, is01_1, sRv, sBk, sCt, sCp, lset, lclr, lcut, lini, lx, Value.category, ixOf, b2i_0, b2i_1, T_R, hi, b2i_f]
      simpa [b2i] using h s Fr.rf hw
  by_cases S6 : S = 6
  · subst S6
    simp only [Nat.reduceEqDiff, if_true, if_false] at h
    simp only [X_R_judged, B_R_judged, show nI 6 = 6 from rfl]
    have l1 : (nI F < 100) = (i = 0) := by rw [show (100 : Int32) = nI 100 from rfl, ← f100]; exact propext (nI_ltI (by omega) (by decide))
    by_cases ci : i = 0
    · simp [eV, eI, eL, eR, e1, e2, eDI, eDL, eFI, eFL, eFR, eAI, eAZ, eAR, eLen, aN, aC, xV, xS, eX, eIf, eC_b, cA, cO, cN, sSk, sSq, sI, sL, sR, sInc, sF, sFO, sAI, sAZ, sAO, sX, sXp, sIf, sCut, sSqs, sSw, sRt, sRz_g, is01_b, is01_0, is01_1, sRv, sBk, sCt, sCp, lset, lclr, lcut, lini, lx, Value.category, ixOf, b2i_0, b2i_1, T_R, l1, ci]
      refine s_R_packedCost scr hP hm (Or.inr rfl) ok hw _ fun s1 g1 => ⟨_, rfl, ?_⟩
      have := h s1 (g1.wk fun r k z => Or.inr z) (mRw_fr g1 (by omega) hw)
      rw [decide_eq_true ci] at this
      rw [f0 ci]
      by_cases cj : nI j = nI (costP P) - (chs P w no).2.2
      · rw [decide_eq_true cj] at this
        simp [cj]
        simpa [b2i] using this
      · rw [decide_eq_false cj] at this
        have cj' : ¬ nI (costP P) - (chs P w no).2.2 = nI j := fun e => cj e.symm
        simp [cj']
        simpa [b2i] using this
    · have := h s Fr.rf hw
      rw [decide_eq_false ci] at this
      simp [eV, eI, eL, eR, e1, e2, eDI, eDL, eFI, eFL, eFR, eAI, eAZ, eAR, eLen, aN, aC, xV, xS, eX, eIf, eC_b, cA, cO, cN, sSk, sSq, sI, sL, sR, sInc, sF, sFO, sAI, sAZ, sAO, sX, sXp, sIf, sCut, sSqs, sSw, sRt, sRz_g, is01_b, is01_0, is01_1, sRv, sBk, sCt, sCp, lset, lclr, lcut, lini, lx, Value.category, ixOf, b2i_0, b2i_1, T_R, l1, ci]
      simpa [b2i] using this
  rw [if_neg S1, if_neg S2, if_neg S3, if_neg S4, if_neg S5, if_neg S6] at h
  have ne : ∀ c : Nat, c < 100 → S ≠ c → ¬ nI S = nI c := fun c hc q => by rw [nI_eq (by omega) (by omega)]; exact q
  simp [X_R_judged, B_R_judged, eV, eI, eL, eR, e1, e2, eDI, eDL, eFI, eFL, eFR, eAI, eAZ, eAR, eLen, aN, aC, xV, xS, eX, eIf, eC_b, cA, cO, cN, sSk, sSq, sI, sL, sR, sInc, sF, sFO, sAI, sAZ, sAO, sX, sXp, sIf, sCut, sSqs, sSw, sRt, sRz_g, is01_b, is01_0, is01_1, sRv, sBk, sCt, sCp, lset, lclr, lcut, lini, lx, Value.category, ixOf, b2i_0, b2i_1, show ¬ nI S = 1 from ne 1 (by omega) S1, show ¬ nI S = 2 from ne 2 (by omega) S2, show ¬ nI S = 3 from ne 3 (by omega) S3, show ¬ nI S = 4 from ne 4 (by omega) S4, show ¬ nI S = 5 from ne 5 (by omega) S5, show ¬ nI S = 6 from ne 6 (by omega) S6]
  simpa [b2i] using h s Fr.rf hw
/-! powers, as longs -/
theorem s_PL_power (scr : List Int32) (s : MS) (b : Nat) {e : Nat} (he : e < 1000) (Q : Option Value → HV → Prop) (h : Q (some (.long (lN (b ^ e)))) (hp scr s)) : X_PL_power [.long (lN b), .int (nI e)] (hp scr s) Q := by
  simp [X_PL_power, B_PL_power, eV, eI, eL, eR, e1, e2, eDI, eDL, eFI, eFL, eFR, eAI, eAZ, eAR, eLen, aN, aC, xV, xS, eX, eIf, eC_b, cA, cO, cN, sSk, sSq, sI, sL, sR, sInc, sF, sFO, sAI, sAZ, sAO, sX, sXp, sIf, sCut, sSqs, sSw, sRt, sRz_g, is01_b, is01_0, is01_1, sRv, sBk, sCt, sCp, lset, lclr, lcut, lini, lx, Value.category, ixOf, b2i_0, b2i_1]
  refine lp_ind (fun z ls h => ∃ k, z = e - k ∧ k ≤ e ∧ ls = [.long (lN b), .null, .int (nI e), .long (lN (b ^ k)), .null, .int (nI k)] ∧ h = hp scr s) ?_ ⟨0, rfl, by omega, rfl, rfl⟩
  rintro z ls h' ⟨k, hz, hk, rfl, rfl⟩ X hX
  refine cX (t := decide (k < e)) (h' := hp scr s) ?h1 ?h2
  case h1 =>
    intro K
    simp [eV, eI, eL, eR, e1, e2, eDI, eDL, eFI, eFL, eFR, eAI, eAZ, eAR, eLen, aN, aC, xV, xS, eX, eIf, eC_b, cA, cO, cN, sSk, sSq, sI, sL, sR, sInc, sF, sFO, sAI, sAZ, sAO, sX, sXp, sIf, sCut, sSqs, sSw, sRt, sRz_g, is01_b, is01_0, is01_1, sRv, sBk, sCt, sCp, lset, lclr, lcut, lini, lx, Value.category, ixOf, b2i_0, b2i_1]
    simp (disch := omega) only [LIT, L_0le, L_0lt, L_0eq, L_eq0, L_le0, L_lt0, L_1eq, L_eq1, L_1le, L_1lt, L_lt1, L_le1, L_p1, nI_ltI, nI_leI, nI_eq, nI_add, nI_clamp]
  case h2 =>
    by_cases hlt : k < e
    · simp only [hlt, decide_true, if_true]
      simp [eV, eI, eL, eR, e1, e2, eDI, eDL, eFI, eFL, eFR, eAI, eAZ, eAR, eLen, aN, aC, xV, xS, eX, eIf, eC_b, cA, cO, cN, sSk, sSq, sI, sL, sR, sInc, sF, sFO, sAI, sAZ, sAO, sX, sXp, sIf, sCut, sSqs, sSw, sRt, sRz_g, is01_b, is01_0, is01_1, sRv, sBk, sCt, sCp, lset, lclr, lcut, lini, lx, Value.category, ixOf, b2i_0, b2i_1, lN_mul, L_p1]
      exact hX _ _ _ (by rw [hz]; omega) ⟨k + 1, rfl, hlt, by rw [Nat.pow_succ], rfl⟩
    · have : k = e := by omega
      subst this
      simp only [hlt, decide_false, Bool.false_eq_true, if_false]
      simp [eV, eI, eL, eR, e1, e2, eDI, eDL, eFI, eFL, eFR, eAI, eAZ, eAR, eLen, aN, aC, xV, xS, eX, eIf, eC_b, cA, cO, cN, sSk, sSq, sI, sL, sR, sInc, sF, sFO, sAI, sAZ, sAO, sX, sXp, sIf, sCut, sSqs, sSw, sRt, sRz_g, is01_b, is01_0, is01_1, sRv, sBk, sCt, sCp, lset, lclr, lcut, lini, lx, Value.category, ixOf, b2i_0, b2i_1]
      exact h
theorem s_R_hundredThousands (scr : List Int32) (s : MS) {e : Nat} (he : e < 1000) (Q : Option Value → HV → Prop) (h : Q (some (.long (lN (100000 ^ e)))) (hp scr s)) : X_R_hundredThousands [.int (nI e)] (hp scr s) Q := by
  simp [X_R_hundredThousands, B_R_hundredThousands, eV, eI, eL, eR, e1, e2, eDI, eDL, eFI, eFL, eFR, eAI, eAZ, eAR, eLen, aN, aC, xV, xS, eX, eIf, eC_b, cA, cO, cN, sSk, sSq, sI, sL, sR, sInc, sF, sFO, sAI, sAZ, sAO, sX, sXp, sIf, sCut, sSqs, sSw, sRt, sRz_g, is01_b, is01_0, is01_1, sRv, sBk, sCt, sCp, lset, lclr, lcut, lini, lx, Value.category, ixOf, b2i_0, b2i_1]
  refine lp_ind (fun z ls h => ∃ k, z = e - k ∧ k ≤ e ∧ ls = [.int (nI e), .long (lN (100000 ^ k)), .null, .int (nI k)] ∧ h = hp scr s) ?_ ⟨0, rfl, by omega, rfl, rfl⟩
  rintro z ls h' ⟨k, hz, hk, rfl, rfl⟩ X hX
  refine cX (t := decide (k < e)) (h' := hp scr s) ?h1 ?h2
  case h1 =>
    intro K
    simp [eV, eI, eL, eR, e1, e2, eDI, eDL, eFI, eFL, eFR, eAI, eAZ, eAR, eLen, aN, aC, xV, xS, eX, eIf, eC_b, cA, cO, cN, sSk, sSq, sI, sL, sR, sInc, sF, sFO, sAI, sAZ, sAO, sX, sXp, sIf, sCut, sSqs, sSw, sRt, sRz_g, is01_b, is01_0, is01_1, sRv, sBk, sCt, sCp, lset, lclr, lcut, lini, lx, Value.category, ixOf, b2i_0, b2i_1]
    simp (disch := omega) only [LIT, L_0le, L_0lt, L_0eq, L_eq0, L_le0, L_lt0, L_1eq, L_eq1, L_1le, L_1lt, L_lt1, L_le1, L_p1, nI_ltI, nI_leI, nI_eq, nI_add, nI_clamp]
  case h2 =>
    by_cases hlt : k < e
    · simp only [hlt, decide_true, if_true]
      simp [eV, eI, eL, eR, e1, e2, eDI, eDL, eFI, eFL, eFR, eAI, eAZ, eAR, eLen, aN, aC, xV, xS, eX, eIf, eC_b, cA, cO, cN, sSk, sSq, sI, sL, sR, sInc, sF, sFO, sAI, sAZ, sAO, sX, sXp, sIf, sCut, sSqs, sSw, sRt, sRz_g, is01_b, is01_0, is01_1, sRv, sBk, sCt, sCp, lset, lclr, lcut, lini, lx, Value.category, ixOf, b2i_0, b2i_1, show (100000 : Int64) = lN 100000 from rfl, lN_mul, L_p1]
      exact hX _ _ _ (by rw [hz]; omega) ⟨k + 1, rfl, hlt, by rw [Nat.pow_succ], rfl⟩
    · have : k = e := by omega
      subst this
      simp only [hlt, decide_false, Bool.false_eq_true, if_false]
      simp [eV, eI, eL, eR, e1, e2, eDI, eDL, eFI, eFL, eFR, eAI, eAZ, eAR, eLen, aN, aC, xV, xS, eX, eIf, eC_b, cA, cO, cN, sSk, sSq, sI, sL, sR, sInc, sF, sFO, sAI, sAZ, sAO, sX, sXp, sIf, sCut, sSqs, sSw, sRt, sRz_g, is01_b, is01_0, is01_1, sRv, sBk, sCt, sCp, lset, lclr, lcut, lini, lx, Value.category, ixOf, b2i_0, b2i_1]
      exact h
