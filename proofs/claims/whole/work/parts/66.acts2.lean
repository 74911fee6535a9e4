theorem T34 (scr : List Int32) (s : MS) : hk (hp scr s) 35 = some 4 ∧ hk (hp scr s) 48 = some 4 := ⟨(T_Pack (Or.inl rfl) scr s).1, (T_Pack (Or.inr rfl) scr s).1⟩
def wR (A : AS) (H : List Row) (w : Row) : AS := (aT A, aP A, w, H, aK A, aS A, aX A)
def f_start (A : AS) (x v : Int32) : Int32 × AS := if rng 0 15 x then (if rng (-99) 99 v then (aR A x.toNatClampNeg + 100, wR A (pushH (aH A) (aR A)) (fset (aR A) x.toNatClampNeg v)) else (-2, A)) else (-1, A)
theorem rB_low {w : Row} {n : Nat} (h : n < 16) (v : Int32) : rB (fset w n v) = rB w ∧ rK (fset w n v) = rK w ∧ rW (fset w n v) = rW w := by
  unfold rB rK rW fset
  rw [if_neg (by omega), if_neg (by omega), if_neg (by omega)]
  exact ⟨rfl, rfl, rfl⟩
theorem okRow_low {w : Row} {n : Nat} (h : n < 16) (v : Int32) (ok : okRow w) : okRow (fset w n v) := by
  obtain ⟨e1', e2', e3'⟩ := rB_low (w := w) h v
  unfold okRow
  rw [e1', e2', e3']
  unfold fset
  rw [if_neg (by omega), if_neg (by omega), if_neg (by omega)]
  exact ok
theorem mRw_up {r : Nat} {w : Row} {n : Nat} {v : Int32} {s s' : MS} (h : mRw r w s) (h2 : ∀ k, s'.1 r k = if k = n then v else s.1 r k) : mRw r (fset w n v) s' := fun k hk => by
  rw [h2]
  unfold fset
  split
  · rfl
  · exact h k hk
theorem okH_push {H : List Row} {w : Row} (h : H.length ≤ 14 ∧ ∀ v, v ∈ H → okRow v) (hw : okRow w) : (pushH H w).length ≤ 14 ∧ ∀ v, v ∈ pushH H w → okRow v := by
  refine ⟨by rw [pushH_len h.1]; split <;> omega, fun v hv => ?_⟩
  unfold pushH at hv
  rcases List.mem_append.mp hv with q | q
  · split at q
    · exact h.2 v q
    · exact h.2 v (List.mem_of_mem_drop q)
  · rw [List.mem_singleton.mp q]; exact hw
theorem c_start {A : AS} (hA : okA A) (scr : List Int32) {s : MS} (h : IC A s) (x v : Int32) (Q : Option Value → HV → Prop) (hQ : ∀ s', Fr Fc s s' → IC (f_start A x v).2 s' → Q (some (.int (f_start A x v).1)) (hp scr s')) : X_PL_start [.ref 2, .int x, .int v] (hp scr s) Q := by
  unfold f_start at hQ
  simp [X_PL_start, B_PL_start, lini, lx, Value.category]
  rw [sSq_if (t := !rng 0 15 x) (by intro K; simp [eV, eI, eL, eR, e1, e2, eDI, eDL, eFI, eFL, eFR, eAI, eAZ, eAR, eLen, aN, aC, xV, xS, eX, eIf, eC_b, cA, cO, cN, sSk, sSq, sI, sL, sR, sInc, sF, sFO, sAI, sAZ, sAO, sX, sXp, sIf, sCut, sSqs, sSw, sRt, sRz_g, is01_b, is01_0, is01_1, sRv, sBk, sCt, sCp, lset, lclr, lcut, lini, lx, Value.category, ixOf, b2i_0, b2i_1]; exact cO_rng2 (by decide))]
  cases hr : rng 0 15 x with
  | false =>
    rw [hr] at hQ
    simp [eV, eI, eL, eR, e1, e2, eDI, eDL, eFI, eFL, eFR, eAI, eAZ, eAR, eLen, aN, aC, xV, xS, eX, eIf, eC_b, cA, cO, cN, sSk, sSq, sI, sL, sR, sInc, sF, sFO, sAI, sAZ, sAO, sX, sXp, sIf, sCut, sSqs, sSw, sRt, sRz_g, is01_b, is01_0, is01_1, sRv, sBk, sCt, sCp, lset, lclr, lcut, lini, lx, Value.category, ixOf, b2i_0, b2i_1]
    exact hQ s Fr.rf h
  | true =>
    obtain ⟨n, hn, rfl⟩ := rng_n (N := 15) (by decide) hr
    rw [hr, nI_clamp (by omega)] at hQ
    simp only [Bool.not_true, Bool.false_eq_true, if_false, sSk_eq]
    rw [sSq_if (t := !rng (-99) 99 v) (by intro K; simp [eV, eI, eL, eR, e1, e2, eDI, eDL, eFI, eFL, eFR, eAI, eAZ, eAR, eLen, aN, aC, xV, xS, eX, eIf, eC_b, cA, cO, cN, sSk, sSq, sI, sL, sR, sInc, sF, sFO, sAI, sAZ, sAO, sX, sXp, sIf, sCut, sSqs, sSw, sRt, sRz_g, is01_b, is01_0, is01_1, sRv, sBk, sCt, sCp, lset, lclr, lcut, lini, lx, Value.category, ixOf, b2i_0, b2i_1]; exact cO_rng)]
    cases hv : rng (-99) 99 v with
    | false =>
      rw [hv] at hQ
      simp [eV, eI, eL, eR, e1, e2, eDI, eDL, eFI, eFL, eFR, eAI, eAZ, eAR, eLen, aN, aC, xV, xS, eX, eIf, eC_b, cA, cO, cN, sSk, sSq, sI, sL, sR, sInc, sF, sFO, sAI, sAZ, sAO, sX, sXp, sIf, sCut, sSqs, sSw, sRt, sRz_g, is01_b, is01_0, is01_1, sRv, sBk, sCt, sCp, lset, lclr, lcut, lini, lx, Value.category, ixOf, b2i_0, b2i_1]
      exact hQ s Fr.rf h
    | true =>
      rw [hv] at hQ
      obtain ⟨i1, i2, i3, i4, i5, i6, i7⟩ := h
      have e20 : s.1 20 n = aR A n := i3 n (by omega)
      simp [eV, eI, eL, eR, e1, e2, eDI, eDL, eFI, eFL, eFR, eAI, eAZ, eAR, eLen, aN, aC, xV, xS, eX, eIf, eC_b, cA, cO, cN, sSk, sSq, sI, sL, sR, sInc, sF, sFO, sAI, sAZ, sAO, sX, sXp, sIf, sCut, sSqs, sSw, sRt, sRz_g, is01_b, is01_0, is01_1, sRv, sBk, sCt, sCp, lset, lclr, lcut, lini, lx, Value.category, ixOf, b2i_0, b2i_1, T_PL, T_Acts, G_row, ix80 (show n < 19 by omega) (by decide), e20]
      refine s_Acts_remember scr i4 hA.2.2.2.1.1 (show n < 19 by omega) v _ fun s1 g1 g2 => ⟨rfl, ?_⟩
      simp [T_PL, G_row, ix80 (show n < 19 by omega) (by decide)]
      have gg : Fr (fun r k => r = 25 ∨ r = 26 ∨ (r = 24 ∧ k = 2) ∨ r = 20) s (up s1 20 n v) := (g1.wk fun r k z => by omega).up _ (by omega)
      refine hQ (up s1 20 n v) (gg.wk fun r k z => by omega) ⟨mTx_fr gg (by omega) (by omega) i1, mC_fr gg (by omega) (by omega) i2, mRw_up i3 fun k => ?_, mAc_fr (F := fun r _ => r = 20) (Fr.rf.up _ rfl) (by omega) (by omega) (by omega) g2, mSc_fr gg (by omega) (by omega) i5, mSg_fr gg (by omega) (by omega) (by omega) i6, ?_⟩
      · simp only [up_get, true_and]
        rw [g1.2 _ _ (by omega)]
      · obtain ⟨b1, b2, b3⟩ := rB_low (w := aR A) (show n < 16 by omega) v
        exact mNow_row b1 b2 b3 (mNow_fr gg (by omega) i7)
theorem r_start {A : AS} (hA : okA A) (scr : List Int32) {s : MS} (h : IR A s) (x v : Int32) (Q : Option Value → HV → Prop) (hQ : ∀ s', Fr Ft s s' → IR (f_start A x v).2 s' → Q (some (.int (f_start A x v).1)) (hp scr s')) : X_R_start [.ref 65, .int x, .int v] (hp scr s) Q := by
  unfold f_start at hQ
  simp [X_R_start, B_R_start, lini, lx, Value.category]
  rw [sSq_if (t := !rng 0 15 x) (by intro K; simp [eV, eI, eL, eR, e1, e2, eDI, eDL, eFI, eFL, eFR, eAI, eAZ, eAR, eLen, aN, aC, xV, xS, eX, eIf, eC_b, cA, cO, cN, sSk, sSq, sI, sL, sR, sInc, sF, sFO, sAI, sAZ, sAO, sX, sXp, sIf, sCut, sSqs, sSw, sRt, sRz_g, is01_b, is01_0, is01_1, sRv, sBk, sCt, sCp, lset, lclr, lcut, lini, lx, Value.category, ixOf, b2i_0, b2i_1, s_R_isAddress, nb])]
  cases hr : rng 0 15 x with
  | false =>
    rw [hr] at hQ
    simp [eV, eI, eL, eR, e1, e2, eDI, eDL, eFI, eFL, eFR, eAI, eAZ, eAR, eLen, aN, aC, xV, xS, eX, eIf, eC_b, cA, cO, cN, sSk, sSq, sI, sL, sR, sInc, sF, sFO, sAI, sAZ, sAO, sX, sXp, sIf, sCut, sSqs, sSw, sRt, sRz_g, is01_b, is01_0, is01_1, sRv, sBk, sCt, sCp, lset, lclr, lcut, lini, lx, Value.category, ixOf, b2i_0, b2i_1]
    exact hQ s Fr.rf h
  | true =>
    obtain ⟨n, hn, rfl⟩ := rng_n (N := 15) (by decide) hr
    rw [hr, nI_clamp (by omega)] at hQ
    simp only [Bool.not_true, Bool.false_eq_true, if_false, sSk_eq]
    rw [sSq_if (t := !rng (-99) 99 v) (by intro K; simp [eV, eI, eL, eR, e1, e2, eDI, eDL, eFI, eFL, eFR, eAI, eAZ, eAR, eLen, aN, aC, xV, xS, eX, eIf, eC_b, cA, cO, cN, sSk, sSq, sI, sL, sR, sInc, sF, sFO, sAI, sAZ, sAO, sX, sXp, sIf, sCut, sSqs, sSw, sRt, sRz_g, is01_b, is01_0, is01_1, sRv, sBk, sCt, sCp, lset, lclr, lcut, lini, lx, Value.category, ixOf, b2i_0, b2i_1, t_in scr s v (-99) 99 (A := -99) (B := 99) rfl rfl, nb])]
    cases hv : rng (-99) 99 v with
    | false =>
      rw [hv] at hQ
      simp [eV, eI, eL, eR, e1, e2, eDI, eDL, eFI, eFL, eFR, eAI, eAZ, eAR, eLen, aN, aC, xV, xS, eX, eIf, eC_b, cA, cO, cN, sSk, sSq, sI, sL, sR, sInc, sF, sFO, sAI, sAZ, sAO, sX, sXp, sIf, sCut, sSqs, sSw, sRt, sRz_g, is01_b, is01_0, is01_1, sRv, sBk, sCt, sCp, lset, lclr, lcut, lini, lx, Value.category, ixOf, b2i_0, b2i_1]
      exact hQ s Fr.rf h
    | true =>
      rw [hv] at hQ
      obtain ⟨i1, i2, i3, i4, i5, i6⟩ := h
      simp [eV, eI, eL, eR, e1, e2, eDI, eDL, eFI, eFL, eFR, eAI, eAZ, eAR, eLen, aN, aC, xV, xS, eX, eIf, eC_b, cA, cO, cN, sSk, sSq, sI, sL, sR, sInc, sF, sFO, sAI, sAZ, sAO, sX, sXp, sIf, sCut, sSqs, sSw, sRt, sRz_g, is01_b, is01_0, is01_1, sRv, sBk, sCt, sCp, lset, lclr, lcut, lini, lx, Value.category, ixOf, b2i_0, b2i_1, T_R]
      refine s_R_note scr i4 hA.2.2.2.1.1 i3 _ fun s1 g1 g2 => ⟨rfl, ?_⟩
      have e70 : s1.1 71 n = aR A n := by rw [g1.2 _ _ (by omega)]; exact i3 n (by omega)
      simp [T_R, G_R, ix80 (show n < 19 by omega) (by decide), e70]
      have gg : Fr (fun r k => r = 73 ∨ (r = 65 ∧ (k = 10 ∨ k = 11)) ∨ r = 71) s (up s1 71 n v) := (g1.wk fun r k z => by omega).up _ (by omega)
      refine hQ (up s1 71 n v) (gg.wk fun r k z => by omega) ⟨mTx_fr gg (by omega) (by omega) i1, mR_fr gg (by omega) (by omega) i2, mRw_up i3 fun k => ?_, mAr_fr (F := fun r _ => r = 71) (Fr.rf.up _ rfl) (by omega) (by omega) (by omega) g2, mSr_fr gg (by omega) (by omega) i5, mSg_fr gg (by omega) (by omega) (by omega) i6⟩
      simp only [up_get, true_and]
      rw [g1.2 _ _ (by omega)]
theorem ok_start {A : AS} (hA : okA A) (x v : Int32) : okA (f_start A x v).2 := by
  unfold f_start
  split
  · next h =>
    obtain ⟨n, hn, rfl⟩ := rng_n (N := 15) (by decide) h
    split
    · obtain ⟨a1, a2, a3, a4, a5, a6, a7⟩ := hA
      rw [nI_clamp (by omega)]
      exact ⟨a1, a2, okRow_low (by omega) v a3, okH_push a4 a3, a5, a6, a7⟩
    · exact hA
  · exact hA
/-! set -/
def mayS (n : Nat) (v : Int32) : Bool := if n = 0 then rng 0 8 v else if n = 1 then rng 0 1 v else (decide (v = 2) || decide (v = 4))
theorem rng_01 (v : Int32) : rng 0 1 v = (decide (v = 0) || decide (v = 1)) := by
  cases h : rng 0 1 v with
  | true =>
    obtain ⟨j, h1, rfl⟩ := rng_n (N := 1) (by decide) h
    rcases (show j = 0 ∨ j = 1 by omega) with rfl | rfl <;> decide
  | false =>
    by_cases c : v = 0
    · subst c; exact absurd h (by decide)
    · by_cases d : v = 1
      · subst d; exact absurd h (by decide)
      · simp [c, d]
theorem s_PL_settingAllows (scr : List Int32) (s : MS) {n : Nat} (hn : n ≤ 2) (v : Int32) (Q : Option Value → HV → Prop) : X_PL_settingAllows [.int (nI (16 + n)), .int v] (hp scr s) Q ↔ Q (some (.int (b2i (mayS n v)))) (hp scr s) := by
  rcases (show n = 0 ∨ n = 1 ∨ n = 2 by omega) with rfl | rfl | rfl
  · rw [show nI (16 + 0) = (16 : Int32) from rfl, show mayS 0 v = rng 0 8 v from rfl]
    simp [X_PL_settingAllows, B_PL_settingAllows, eV, eI, eL, eR, e1, e2, eDI, eDL, eFI, eFL, eFR, eAI, eAZ, eAR, eLen, aN, aC, xV, xS, eX, eIf, eC_b, cA, cO, cN, sSk, sSq, sI, sL, sR, sInc, sF, sFO, sAI, sAZ, sAO, sX, sXp, sIf, sCut, sSqs, sSw, sRt, sRz_g, is01_b, is01_0, is01_1, sRv, sBk, sCt, sCp, lset, lclr, lcut, lini, lx, Value.category, ixOf, b2i_0, b2i_1, rng]
    by_cases c : v < 0
    · have : ¬ (0 ≤ v) := fun q => absurd c (Int32.not_lt.mpr q)
      simp [c, this]
    · have : 0 ≤ v := Int32.not_lt.mp c
      by_cases d : 8 < v
      · have e : ¬ (v ≤ 8) := fun q => absurd d (Int32.not_lt.mpr q)
        simp [c, d, this, e]
      · have e : v ≤ 8 := Int32.not_lt.mp d
        simp [c, d, this, e]
  · rw [show nI (16 + 1) = (17 : Int32) from rfl, show mayS 1 v = rng 0 1 v from rfl, rng_01]
    simp [X_PL_settingAllows, B_PL_settingAllows, eV, eI, eL, eR, e1, e2, eDI, eDL, eFI, eFL, eFR, eAI, eAZ, eAR, eLen, aN, aC, xV, xS, eX, eIf, eC_b, cA, cO, cN, sSk, sSq, sI, sL, sR, sInc, sF, sFO, sAI, sAZ, sAO, sX, sXp, sIf, sCut, sSqs, sSw, sRt, sRz_g, is01_b, is01_0, is01_1, sRv, sBk, sCt, sCp, lset, lclr, lcut, lini, lx, Value.category, ixOf, b2i_0, b2i_1]
    by_cases c : v = 0 <;> simp [c]
  · rw [show nI (16 + 2) = (18 : Int32) from rfl, show mayS 2 v = (decide (v = 2) || decide (v = 4)) from rfl]
    simp [X_PL_settingAllows, B_PL_settingAllows, eV, eI, eL, eR, e1, e2, eDI, eDL, eFI, eFL, eFR, eAI, eAZ, eAR, eLen, aN, aC, xV, xS, eX, eIf, eC_b, cA, cO, cN, sSk, sSq, sI, sL, sR, sInc, sF, sFO, sAI, sAZ, sAO, sX, sXp, sIf, sCut, sSqs, sSw, sRt, sRz_g, is01_b, is01_0, is01_1, sRv, sBk, sCt, sCp, lset, lclr, lcut, lini, lx, Value.category, ixOf, b2i_0, b2i_1]
    by_cases c : v = 2 <;> simp [c]
theorem s_R_maySet (scr : List Int32) (s : MS) (x v : Int32) (Q : Option Value → HV → Prop) : X_R_maySet [.int x, .int v] (hp scr s) Q ↔ Q (some (.int (b2i (rng 0 2 x && mayS x.toNatClampNeg v)))) (hp scr s) := by
  have key : (rng 0 2 x && mayS x.toNatClampNeg v) = (decide (x = 0) && rng 0 8 v || decide (x = 1) && rng 0 1 v || decide (x = 2) && (decide (v = 2) || decide (v = 4))) := by
    cases h : rng 0 2 x with
    | true =>
      obtain ⟨j, h1, rfl⟩ := rng_n (N := 2) (by decide) h
      rcases (show j = 0 ∨ j = 1 ∨ j = 2 by omega) with rfl | rfl | rfl
      · simp [mayS, nI_clamp, show nI 0 = 0 from rfl]
      · simp [mayS, nI_clamp, show nI 1 = 1 from rfl]
      · simp [mayS, nI_clamp, show nI 2 = 2 from rfl]
    | false =>
      by_cases c : x = 0
      · subst c; exact absurd h (by decide)
      · by_cases d : x = 1
        · subst d; exact absurd h (by decide)
        · by_cases e : x = 2
          · subst e; exact absurd h (by decide)
          · simp [c, d, e]
  rw [key]
  simp [X_R_maySet, B_R_maySet, eV, eI, eL, eR, e1, e2, eDI, eDL, eFI, eFL, eFR, eAI, eAZ, eAR, eLen, aN, aC, xV, xS, eX, eIf, eC_b, cA, cO, cN, sSk, sSq, sI, sL, sR, sInc, sF, sFO, sAI, sAZ, sAO, sX, sXp, sIf, sCut, sSqs, sSw, sRt, sRz_g, is01_b, is01_0, is01_1, sRv, sBk, sCt, sCp, lset, lclr, lcut, lini, lx, Value.category, ixOf, b2i_0, b2i_1, t_in scr s v 0 8 (A := 0) (B := 8) rfl rfl, t_in scr s v 0 1 (A := 0) (B := 1) rfl rfl, nb]
  generalize rng 0 8 v = t1
  generalize rng 0 1 v = t2
  by_cases c : x = 0
  · have c1 : x ≠ 1 := by rw [c]; decide
    have c2 : x ≠ 2 := by rw [c]; decide
    cases t1 <;> simp [c]
  · by_cases d : x = 1
    · cases t2 <;> simp [c, d]
    · by_cases e : x = 2
      · by_cases q : v = 2 <;> simp [e, q]
      · simp [c, d, e]
def f_set (A : AS) (x v : Int32) : Int32 × AS := if rng 0 2 x && mayS x.toNatClampNeg v then (aR A (16 + x.toNatClampNeg), wR A (pushH (aH A) (aR A)) (fset (aR A) (16 + x.toNatClampNeg) v)) else (-2, A)
theorem okRow_set {w : Row} {n : Nat} {v : Int32} (hn : n ≤ 2) (h : mayS n v = true) (ok : okRow w) : okRow (fset w (16 + n) v) := by
  obtain ⟨⟨b8, k1, w2⟩, e1', e2', e3'⟩ := ok
  rcases (show n = 0 ∨ n = 1 ∨ n = 2 by omega) with rfl | rfl | rfl
  · obtain ⟨j, h1, rfl⟩ := rng_n (N := 8) (by decide) h
    have : rB (fset w 16 (nI j)) = j := by simp [rB, fset, nI_clamp (show j < 2 ^ 31 by omega)]
    exact ⟨⟨by rw [this]; omega, k1, w2⟩, by rw [this]; simp [fset], by simpa [rK, fset] using e2', by simpa [rW, fset] using e3'⟩
  · obtain ⟨j, h1, rfl⟩ := rng_n (N := 1) (by decide) h
    have : rK (fset w 17 (nI j)) = j := by simp [rK, fset, nI_clamp (show j < 2 ^ 31 by omega)]
    exact ⟨⟨b8, by rw [this]; omega, w2⟩, by simpa [rB, fset] using e1', by rw [this]; simp [fset], by simpa [rW, fset] using e3'⟩
  · have hv : v = nI 2 ∨ v = nI 4 := by
      unfold mayS at h
      simp at h
      exact h
    have : rW (fset w 18 v) = v.toNatClampNeg := by simp [rW, fset]
    refine ⟨⟨b8, k1, ?_⟩, by simpa [rB, fset] using e1', by simpa [rK, fset] using e2', ?_⟩
    · rw [this]
      rcases hv with rfl | rfl
      · exact Or.inl (nI_clamp (by decide))
      · exact Or.inr (nI_clamp (by decide))
    · rw [this]
      rcases hv with rfl | rfl
      · rw [nI_clamp (by decide)]; simp [fset]
      · rw [nI_clamp (by decide)]; simp [fset]
theorem c_set {A : AS} (hA : okA A) (scr : List Int32) {s : MS} (h : IC A s) (x v : Int32) (Q : Option Value → HV → Prop) (hQ : ∀ s', Fr Fc s s' → IC (f_set A x v).2 s' → Q (some (.int (f_set A x v).1)) (hp scr s')) : X_PL_set [.ref 2, .int x, .int v] (hp scr s) Q := by
  unfold f_set at hQ
  simp [X_PL_set, B_PL_set, lini, lx, Value.category]
  rw [sSq_if (t := !(rng 0 2 x && mayS x.toNatClampNeg v)) ?h1]
  case h1 =>
    intro K
    have cr := fun (K : Bool → HV → Prop) => cO_rng (a := 0) (b := 2) (x := x) (K := K) (h := hp scr s)
    cases hr : rng 0 2 x with
    | false =>
      have := cr fun t h1 => if t then K true h1 else X_PL_settingAllows [.int (16 + x), .int v] h1 fun o h2 => ∃ y, o = some (.int y) ∧ K (!decide (¬ y = 0)) h2
      rw [hr] at this
      simp [eV, eI, eL, eR, e1, e2, eDI, eDL, eFI, eFL, eFR, eAI, eAZ, eAR, eLen, aN, aC, xV, xS, eX, eIf, eC_b, cA, cO, cN, sSk, sSq, sI, sL, sR, sInc, sF, sFO, sAI, sAZ, sAO, sX, sXp, sIf, sCut, sSqs, sSw, sRt, sRz_g, is01_b, is01_0, is01_1, sRv, sBk, sCt, sCp, lset, lclr, lcut, lini, lx, Value.category, ixOf, b2i_0, b2i_1] at this ⊢
      exact this
    | true =>
      have := cr fun t h1 => if t then K true h1 else X_PL_settingAllows [.int (16 + x), .int v] h1 fun o h2 => ∃ y, o = some (.int y) ∧ K (!decide (¬ y = 0)) h2
      rw [hr] at this
      obtain ⟨n, hn, rfl⟩ := rng_n (N := 2) (by decide) hr
      have e16 : (16 : Int32) + nI n = nI (16 + n) := nI_add 16 n
      rw [nI_clamp (by omega)]
      rw [e16] at this
      simp [eV, eI, eL, eR, e1, e2, eDI, eDL, eFI, eFL, eFR, eAI, eAZ, eAR, eLen, aN, aC, xV, xS, eX, eIf, eC_b, cA, cO, cN, sSk, sSq, sI, sL, sR, sInc, sF, sFO, sAI, sAZ, sAO, sX, sXp, sIf, sCut, sSqs, sSw, sRt, sRz_g, is01_b, is01_0, is01_1, sRv, sBk, sCt, sCp, lset, lclr, lcut, lini, lx, Value.category, ixOf, b2i_0, b2i_1, e16, s_PL_settingAllows scr s hn, nb] at this ⊢
      exact this
  cases hb : (rng 0 2 x && mayS x.toNatClampNeg v) with
  | false =>
    rw [hb] at hQ
    simp [eV, eI, eL, eR, e1, e2, eDI, eDL, eFI, eFL, eFR, eAI, eAZ, eAR, eLen, aN, aC, xV, xS, eX, eIf, eC_b, cA, cO, cN, sSk, sSq, sI, sL, sR, sInc, sF, sFO, sAI, sAZ, sAO, sX, sXp, sIf, sCut, sSqs, sSw, sRt, sRz_g, is01_b, is01_0, is01_1, sRv, sBk, sCt, sCp, lset, lclr, lcut, lini, lx, Value.category, ixOf, b2i_0, b2i_1]
    exact hQ s Fr.rf h
  | true =>
    rw [hb] at hQ
    rw [Bool.and_eq_true] at hb
    obtain ⟨n, hn, rfl⟩ := rng_n (N := 2) (by decide) hb.1
    rw [nI_clamp (by omega)] at hQ hb
    obtain ⟨i1, i2, i3, i4, i5, i6, i7⟩ := h
    have e20 : s.1 20 (16 + n) = aR A (16 + n) := i3 _ (by omega)
    have e16 : (16 : Int32) + nI n = nI (16 + n) := nI_add 16 n
    have okw := okRow_set hn hb.2 hA.2.2.1
    simp [eV, eI, eL, eR, e1, e2, eDI, eDL, eFI, eFL, eFR, eAI, eAZ, eAR, eLen, aN, aC, xV, xS, eX, eIf, eC_b, cA, cO, cN, sSk, sSq, sI, sL, sR, sInc, sF, sFO, sAI, sAZ, sAO, sX, sXp, sIf, sCut, sSqs, sSw, sRt, sRz_g, is01_b, is01_0, is01_1, sRv, sBk, sCt, sCp, lset, lclr, lcut, lini, lx, Value.category, ixOf, b2i_0, b2i_1, T_PL, T_Acts, G_row, e16, ix80 (show 16 + n < 19 by omega) (by decide), e20]
    refine s_Acts_remember scr i4 hA.2.2.2.1.1 (show 16 + n < 19 by omega) v _ fun s1 g1 g2 => ⟨rfl, ?_⟩
    simp [T_PL, T34, G_row, ix80 (show 16 + n < 19 by omega) (by decide)]
    have gg : Fr (fun r k => r = 25 ∨ r = 26 ∨ (r = 24 ∧ k = 2) ∨ r = 20) s (up s1 20 (16 + n) v) := (g1.wk fun r k z => by omega).up _ (by omega)
    have w2 : mRw 20 (fset (aR A) (16 + n) v) (up s1 20 (16 + n) v) := mRw_up i3 fun k => by
      simp only [up_get, true_and]
      rw [g1.2 _ _ (by omega)]
    have m2 : mC (aP A) 6 (up s1 20 (16 + n) v) := mC_fr gg (by omega) (by omega) i2
    have a2 : mAc (pushH (aH A) (aR A)) (fset (aR A) (16 + n) v) (up s1 20 (16 + n) v) := mAc_fr (F := fun r _ => r = 20) (Fr.rf.up _ rfl) (by omega) (by omega) (by omega) g2
    generalize up s1 20 (16 + n) v = s2 at gg w2 m2 a2 ⊢
    refine t_choose scr hA.2.1 m2 okw w2 _ fun s3 k1 k2 => ⟨rfl, ?_⟩
    have g3 : Fr (fun r k => r = 25 ∨ r = 26 ∨ (r = 24 ∧ k = 2) ∨ r = 20 ∨ (35 ≤ r ∧ r ≤ 47)) s s3 := (gg.wk fun r k z => by omega).tr k1 fun r k z => by omega
    exact hQ s3 (g3.wk fun r k z => by omega) ⟨mTx_fr g3 (by omega) (by omega) i1, mC_fr g3 (by omega) (by omega) i2, mRw_fr k1 (by omega) w2, mAc_fr k1 (by omega) (by omega) (by omega) a2, mSc_fr g3 (by omega) (by omega) i5, mSg_fr g3 (by omega) (by omega) (by omega) i6, k2⟩
theorem r_set {A : AS} (hA : okA A) (scr : List Int32) {s : MS} (h : IR A s) (x v : Int32) (Q : Option Value → HV → Prop) (hQ : ∀ s', Fr Ft s s' → IR (f_set A x v).2 s' → Q (some (.int (f_set A x v).1)) (hp scr s')) : X_R_set [.ref 65, .int x, .int v] (hp scr s) Q := by
  unfold f_set at hQ
  simp [X_R_set, B_R_set, lini, lx, Value.category]
  rw [sSq_if (t := !(rng 0 2 x && mayS x.toNatClampNeg v)) ?h1]
  case h1 =>
    intro K
    have sm := fun Q => s_R_maySet scr s x v Q
    generalize (rng 0 2 x && mayS x.toNatClampNeg v) = u at sm ⊢
    simp [eV, eI, eL, eR, e1, e2, eDI, eDL, eFI, eFL, eFR, eAI, eAZ, eAR, eLen, aN, aC, xV, xS, eX, eIf, eC_b, cA, cO, cN, sSk, sSq, sI, sL, sR, sInc, sF, sFO, sAI, sAZ, sAO, sX, sXp, sIf, sCut, sSqs, sSw, sRt, sRz_g, is01_b, is01_0, is01_1, sRv, sBk, sCt, sCp, lset, lclr, lcut, lini, lx, Value.category, ixOf, b2i_0, b2i_1, sm, nb]
  cases hb : (rng 0 2 x && mayS x.toNatClampNeg v) with
  | false =>
    rw [hb] at hQ
    simp [eV, eI, eL, eR, e1, e2, eDI, eDL, eFI, eFL, eFR, eAI, eAZ, eAR, eLen, aN, aC, xV, xS, eX, eIf, eC_b, cA, cO, cN, sSk, sSq, sI, sL, sR, sInc, sF, sFO, sAI, sAZ, sAO, sX, sXp, sIf, sCut, sSqs, sSw, sRt, sRz_g, is01_b, is01_0, is01_1, sRv, sBk, sCt, sCp, lset, lclr, lcut, lini, lx, Value.category, ixOf, b2i_0, b2i_1]
    exact hQ s Fr.rf h
  | true =>
    rw [hb] at hQ
    rw [Bool.and_eq_true] at hb
    obtain ⟨n, hn, rfl⟩ := rng_n (N := 2) (by decide) hb.1
    rw [nI_clamp (by omega)] at hQ hb
    obtain ⟨i1, i2, i3, i4, i5, i6⟩ := h
    have e16 : (16 : Int32) + nI n = nI (16 + n) := nI_add 16 n
    simp [eV, eI, eL, eR, e1, e2, eDI, eDL, eFI, eFL, eFR, eAI, eAZ, eAR, eLen, aN, aC, xV, xS, eX, eIf, eC_b, cA, cO, cN, sSk, sSq, sI, sL, sR, sInc, sF, sFO, sAI, sAZ, sAO, sX, sXp, sIf, sCut, sSqs, sSw, sRt, sRz_g, is01_b, is01_0, is01_1, sRv, sBk, sCt, sCp, lset, lclr, lcut, lini, lx, Value.category, ixOf, b2i_0, b2i_1, T_R]
    refine s_R_note scr i4 hA.2.2.2.1.1 i3 _ fun s1 g1 g2 => ⟨rfl, ?_⟩
    have e70 : s1.1 71 (16 + n) = aR A (16 + n) := by rw [g1.2 _ _ (by omega)]; exact i3 _ (by omega)
    simp [T_R, G_R, e16, ix80 (show 16 + n < 19 by omega) (by decide), e70]
    have gg : Fr (fun r k => r = 73 ∨ (r = 65 ∧ (k = 10 ∨ k = 11)) ∨ r = 71) s (up s1 71 (16 + n) v) := (g1.wk fun r k z => by omega).up _ (by omega)
    refine hQ (up s1 71 (16 + n) v) (gg.wk fun r k z => by omega) ⟨mTx_fr gg (by omega) (by omega) i1, mR_fr gg (by omega) (by omega) i2, mRw_up i3 fun k => ?_, mAr_fr (F := fun r _ => r = 71) (Fr.rf.up _ rfl) (by omega) (by omega) (by omega) g2, mSr_fr gg (by omega) (by omega) i5, mSg_fr gg (by omega) (by omega) (by omega) i6⟩
    simp only [up_get, true_and]
    rw [g1.2 _ _ (by omega)]
theorem ok_set {A : AS} (hA : okA A) (x v : Int32) : okA (f_set A x v).2 := by
  unfold f_set
  split
  · next h =>
    rw [Bool.and_eq_true] at h
    obtain ⟨n, hn, rfl⟩ := rng_n (N := 2) (by decide) h.1
    obtain ⟨a1, a2, a3, a4, a5, a6, a7⟩ := hA
    rw [nI_clamp (by omega)] at h ⊢
    exact ⟨a1, a2, okRow_set hn h.2 a3, okH_push a4 a3, a5, a6, a7⟩
  · exact hA
