def f_undo (A : AS) : Int32 × AS := if (aH A).length = 0 then (-3, A) else (nI ((aH A).length - 1), wR A ((aH A).take ((aH A).length - 1)) ((aH A).getD ((aH A).length - 1) zR))
theorem getD_mem2 {H : List Row} {n : Nat} (h : n < H.length) : H.getD n zR ∈ H := by
  rw [List.getD_eq_getElem?_getD, List.getElem?_eq_getElem h]
  exact List.getElem_mem _
theorem getD_take {H : List Row} {n m : Nat} (h : m < n) : (H.take n).getD m zR = H.getD m zR := by
  rw [List.getD_eq_getElem?_getD, List.getD_eq_getElem?_getD, List.getElem?_take, if_pos h]
theorem s_Acts_takeBack (scr : List Int32) {s : MS} {H : List Row} {w : Row} (hA : mAc H w s) (hl : H.length ≤ 14) (h0 : 0 < H.length) (hw : mRw 20 w s) (Q : Option Value → HV → Prop)
    (h : ∀ s', Fr (fun r k => r = 20 ∨ (r = 24 ∧ k = 2)) s s' → mAc (H.take (H.length - 1)) (H.getD (H.length - 1) zR) s' → mRw 20 (H.getD (H.length - 1) zR) s' → Q none (hp scr s')) : X_Acts_takeBack [.ref 24, .ref 20] (hp scr s) Q := by
  obtain ⟨n, hN⟩ : ∃ n, H.length = n + 1 := ⟨H.length - 1, by omega⟩
  have x1 := hA.1
  obtain ⟨p, p1, p2, p3⟩ := hA.2 n (by omega)
  have nx : (H ++ [w]).getD (n + 1) zR = w := by rw [getD_apR (by omega), if_pos hN.symm]
  rw [nx] at p3
  rw [hN] at x1 h
  rw [Nat.add_sub_cancel] at h
  have em : nI (n + 1) - 1 = nI n := nI_pred n
  have lt0 : (0 < nI (n + 1)) = True := by rw [L_0lt (by omega)]; simp
  have lp : (nI p < 19) = True := by rw [show (19 : Int32) = nI 19 from rfl]; exact eq_true ((nI_ltI (by omega) (by decide)).mpr p1)
  simp [X_Acts_takeBack, B_Acts_takeBack, eV, eI, eL, eR, e1, e2, eDI, eDL, eFI, eFL, eFR, eAI, eAZ, eAR, eLen, aN, aC, xV, xS, eX, eIf, eC_b, cA, cO, cN, sSk, sSq, sI, sL, sR, sInc, sF, sFO, sAI, sAZ, sAO, sX, sXp, sIf, sCut, sSqs, sSw, sRt, sRz_g, is01_b, is01_0, is01_1, sRv, sBk, sCt, sCp, lset, lclr, lcut, lini, lx, Value.category, ixOf, b2i_0, b2i_1, T_Acts, U_Acts, G_Acts, G_row, x1, lt0, em, up_get, ix80 (show n < 14 by omega) (by decide), p2, L_0le (show p < 2 ^ 31 by omega), arr_hn A_20, show Int32.ofNat 19 = 19 from rfl, lp, ix80 p1 (by decide)]
  have g : Fr (fun r k => r = 20 ∨ (r = 24 ∧ k = 2)) s (up (up s 24 2 (nI n)) 20 p (s.1 26 n)) := (Fr.rf.up _ (by omega)).up _ (by omega)
  refine h _ g ⟨by simp [up_get, hN], fun m hm => ?_⟩ fun k hk => ?_
  · have hm2 : m < n := by simp [hN] at hm; exact hm
    obtain ⟨q, q1, q2, q3⟩ := hA.2 m (by omega)
    refine ⟨q, q1, by rw [g.2 _ _ (by omega)]; exact q2, fun k hk => ?_⟩
    have lt : (H.take n).length = n := by rw [List.length_take, Nat.min_eq_left (by omega)]
    have E1 : (H ++ [w]).getD (m + 1) zR = H.getD (m + 1) zR := by rw [getD_apR (by omega), if_neg (by omega)]
    have E2 : (H.take n ++ [H.getD n zR]).getD (m + 1) zR = H.getD (m + 1) zR := by
      rw [getD_apR (by omega), lt]
      by_cases c : m + 1 = n
      · rw [if_pos c, c]
      · rw [if_neg c, getD_take (by omega)]
    rw [getD_take hm2, E2, g.2 26 m (by omega), q3 k hk, E1]
  · rw [p3 k hk]
    simp only [up_get, true_and]
    split
    · rfl
    · rw [if_neg (by omega)]
      exact hw k hk
theorem c_undo {A : AS} (hA : okA A) (scr : List Int32) {s : MS} (h : IC A s) (Q : Option Value → HV → Prop) (hQ : ∀ s', Fr Fc s s' → IC (f_undo A).2 s' → Q (some (.int (f_undo A).1)) (hp scr s')) : X_PL_undo [.ref 2] (hp scr s) Q := by
  have l14 := hA.2.2.2.1.1
  unfold f_undo at hQ
  have h' := h
  obtain ⟨i1, i2, i3, i4, i5, i6, i7⟩ := h
  have x1 := i4.1
  simp [X_PL_undo, B_PL_undo, lini, lx, Value.category]
  rw [sSq_if (t := decide ((aH A).length = 0)) ?h1]
  case h1 =>
    intro K
    have : (nI (aH A).length = 0) = ((aH A).length = 0) := L_eq0 (by omega)
    simp only [eV, eI, eL, eR, e1, e2, eDI, eDL, eFI, eFL, eFR, eAI, eAZ, eAR, eLen, aN, aC, xV, xS, eX, eIf, eC_b, cA, cO, cN, sSk, sSq, sI, sL, sR, sInc, sF, sFO, sAI, sAZ, sAO, sX, sXp, sIf, sCut, sSqs, sSw, sRt, sRz_g, is01_b, is01_0, is01_1, sRv, sBk, sCt, sCp, lset, lclr, lcut, lini, lx, Value.category, ixOf, b2i_0, b2i_1, List.getElem?_cons_succ, List.getElem?_cons_zero]
    simp [T_PL, T_Acts, x1, this]
  by_cases c : (aH A).length = 0
  · rw [if_pos c] at hQ
    simp only [c, decide_true, if_true]
    simp [eV, eI, eL, eR, e1, e2, eDI, eDL, eFI, eFL, eFR, eAI, eAZ, eAR, eLen, aN, aC, xV, xS, eX, eIf, eC_b, cA, cO, cN, sSk, sSq, sI, sL, sR, sInc, sF, sFO, sAI, sAZ, sAO, sX, sXp, sIf, sCut, sSqs, sSw, sRt, sRz_g, is01_b, is01_0, is01_1, sRv, sBk, sCt, sCp, lset, lclr, lcut, lini, lx, Value.category, ixOf, b2i_0, b2i_1]
    exact hQ s Fr.rf h'
  · rw [if_neg c] at hQ
    simp only [c, decide_false, Bool.false_eq_true, if_false, sSk_eq]
    have okw : okRow ((aH A).getD ((aH A).length - 1) zR) := hA.2.2.2.1.2 _ (getD_mem2 (by omega))
    simp [eV, eI, eL, eR, e1, e2, eDI, eDL, eFI, eFL, eFR, eAI, eAZ, eAR, eLen, aN, aC, xV, xS, eX, eIf, eC_b, cA, cO, cN, sSk, sSq, sI, sL, sR, sInc, sF, sFO, sAI, sAZ, sAO, sX, sXp, sIf, sCut, sSqs, sSw, sRt, sRz_g, is01_b, is01_0, is01_1, sRv, sBk, sCt, sCp, lset, lclr, lcut, lini, lx, Value.category, ixOf, b2i_0, b2i_1, T_PL, T_Acts]
    refine s_Acts_takeBack scr i4 l14 (by omega) i3 _ fun s1 g1 g2 g3 => ⟨rfl, ?_⟩
    simp [T_PL, T34]
    refine t_choose scr hA.2.1 (mC_fr g1 (by omega) (by omega) i2) okw g3 _ fun s2 k1 k2 => ⟨rfl, ?_⟩
    have gg : Fr (fun r k => r = 20 ∨ (r = 24 ∧ k = 2) ∨ (35 ≤ r ∧ r ≤ 47)) s s2 := (g1.wk fun r k z => by omega).tr k1 fun r k z => by omega
    have a2 := mAc_fr k1 (by omega) (by omega) (by omega) g2
    have x2 := a2.1
    rw [List.length_take, Nat.min_eq_left (by omega)] at x2
    simp [T_PL, T_Acts, x2]
    exact hQ s2 (gg.wk fun r k z => by omega) ⟨mTx_fr gg (by omega) (by omega) i1, mC_fr gg (by omega) (by omega) i2, mRw_fr k1 (by omega) g3, a2, mSc_fr gg (by omega) (by omega) i5, mSg_fr gg (by omega) (by omega) (by omega) i6, k2⟩
theorem r_undo {A : AS} (hA : okA A) (scr : List Int32) {s : MS} (h : IR A s) (Q : Option Value → HV → Prop) (hQ : ∀ s', Fr Ft s s' → IR (f_undo A).2 s' → Q (some (.int (f_undo A).1)) (hp scr s')) : X_R_undo [.ref 65] (hp scr s) Q := by
  have l14 := hA.2.2.2.1.1
  unfold f_undo at hQ
  have h' := h
  obtain ⟨i1, i2, i3, i4, i5, i6⟩ := h
  obtain ⟨x1, nx, n14, x2, x3⟩ := i4
  simp [X_R_undo, B_R_undo, lini, lx, Value.category]
  rw [sSq_if (t := decide ((aH A).length = 0)) ?h1]
  case h1 =>
    intro K
    have : (nI (aH A).length = 0) = ((aH A).length = 0) := L_eq0 (by omega)
    simp only [eV, eI, eL, eR, e1, e2, eDI, eDL, eFI, eFL, eFR, eAI, eAZ, eAR, eLen, aN, aC, xV, xS, eX, eIf, eC_b, cA, cO, cN, sSk, sSq, sI, sL, sR, sInc, sF, sFO, sAI, sAZ, sAO, sX, sXp, sIf, sCut, sSqs, sSw, sRt, sRz_g, is01_b, is01_0, is01_1, sRv, sBk, sCt, sCp, lset, lclr, lcut, lini, lx, Value.category, ixOf, b2i_0, b2i_1, List.getElem?_cons_succ, List.getElem?_cons_zero]
    simp [T_R, x1, this]
  by_cases c : (aH A).length = 0
  · rw [if_pos c] at hQ
    simp only [c, decide_true, if_true]
    simp [eV, eI, eL, eR, e1, e2, eDI, eDL, eFI, eFL, eFR, eAI, eAZ, eAR, eLen, aN, aC, xV, xS, eX, eIf, eC_b, cA, cO, cN, sSk, sSq, sI, sL, sR, sInc, sF, sFO, sAI, sAZ, sAO, sX, sXp, sIf, sCut, sSqs, sSw, sRt, sRz_g, is01_b, is01_0, is01_1, sRv, sBk, sCt, sCp, lset, lclr, lcut, lini, lx, Value.category, ixOf, b2i_0, b2i_1]
    exact hQ s Fr.rf h'
  · rw [if_neg c] at hQ
    simp only [c, decide_false, Bool.false_eq_true, if_false, sSk_eq]
    obtain ⟨n, hn⟩ : ∃ n, (aH A).length = n + 1 := ⟨(aH A).length - 1, by omega⟩
    rw [hn, Nat.add_sub_cancel] at hQ
    have em : nI (n + 1) - 1 = nI n := nI_pred n
    have em2 : nI nx + 14 - 1 - (nI nx + 14 - 1) / 14 * 14 = nI ((nx + 13) % 14) := by
      rw [show (14 : Int32) = nI 14 from rfl, nI_add, show (1 : Int32) = nI 1 from rfl, nI_sub (by omega), show nx + 14 - 1 = nx + 13 by omega, pk_rem (by omega) (by decide) (by decide)]
    rw [hn] at x1
    simp [eV, eI, eL, eR, e1, e2, eDI, eDL, eFI, eFL, eFR, eAI, eAZ, eAR, eLen, aN, aC, xV, xS, eX, eIf, eC_b, cA, cO, cN, sSk, sSq, sI, sL, sR, sInc, sF, sFO, sAI, sAZ, sAO, sX, sXp, sIf, sCut, sSqs, sSw, sRt, sRz_g, is01_b, is01_0, is01_1, sRv, sBk, sCt, sCp, lset, lclr, lcut, lini, lx, Value.category, ixOf, b2i_0, b2i_1, T_R, U_R, x1, x2, em, em2, up_get]
    have p14 : (nx + 13) % 14 < 14 := Nat.mod_lt _ (by decide)
    have src : ∀ k, k < 19 → s.1 73 (19 * ((nx + 13) % 14) + k) = ((aH A).getD n zR) k := fun k hk => by
      have := x3 n (by omega) k hk
      rw [← this, hn, show (nx + 14 - (n + 1) + n) % 14 = (nx + 13) % 14 by omega]
    have hist : ∀ m, m < n → ∀ k, k < 19 → s.1 73 (19 * (((nx + 13) % 14 + 14 - n + m) % 14) + k) = ((aH A).getD m zR) k := fun m hm k hk => by
      have := x3 m (by omega) k hk
      rw [← this, hn, show ((nx + 13) % 14 + 14 - n + m) % 14 = (nx + 14 - (n + 1) + m) % 14 by omega]
    generalize (nx + 13) % 14 = py at p14 src hist ⊢
    refine lp_ind (fun z ls h => ∃ k s', z = 19 - k ∧ k ≤ 19 ∧ ls = [.ref 65, .int (nI k)] ∧ h = hp scr s' ∧ Fr (fun r k => r = 71 ∨ (r = 65 ∧ (k = 10 ∨ k = 11))) s s' ∧ s'.1 65 10 = nI n ∧ s'.1 65 11 = nI py ∧ (∀ b, b < k → s'.1 71 b = ((aH A).getD n zR) b)) ?_ ⟨0, _, rfl, by omega, rfl, rfl, (Fr.rf.up _ (by omega)).up _ (by omega), by simp [up_get], by simp [up_get], fun b hb => by omega⟩
    rintro z ls h' ⟨k, s1, hz, hk, rfl, rfl, g1, g2, g3, g4⟩ X hX
    refine cX (t := decide (k < 19)) (h' := hp scr s1) ?h2 ?h3
    case h2 =>
      intro K
      simp [eV, eI, eL, eR, e1, e2, eDI, eDL, eFI, eFL, eFR, eAI, eAZ, eAR, eLen, aN, aC, xV, xS, eX, eIf, eC_b, cA, cO, cN, sSk, sSq, sI, sL, sR, sInc, sF, sFO, sAI, sAZ, sAO, sX, sXp, sIf, sCut, sSqs, sSw, sRt, sRz_g, is01_b, is01_0, is01_1, sRv, sBk, sCt, sCp, lset, lclr, lcut, lini, lx, Value.category, ixOf, b2i_0, b2i_1]
      simp (disch := omega) only [LIT, L_0le, L_0lt, L_0eq, L_eq0, L_le0, L_lt0, L_1eq, L_eq1, L_1le, L_1lt, L_lt1, L_le1, L_p1, nI_ltI, nI_leI, nI_eq, nI_add, nI_clamp]
    case h3 =>
      by_cases hlt : k < 19
      · have e72 : s1.1 73 (19 * py + k) = ((aH A).getD n zR) k := by rw [g1.2 _ _ (by omega)]; exact src k hlt
        have ei : (19 : Int32) * nI py + nI k = nI (19 * py + k) := by rw [show (19 : Int32) = nI 19 from rfl, nI_mul, nI_add]
        simp only [hlt, decide_true, if_true]
        simp [eV, eI, eL, eR, e1, e2, eDI, eDL, eFI, eFL, eFR, eAI, eAZ, eAR, eLen, aN, aC, xV, xS, eX, eIf, eC_b, cA, cO, cN, sSk, sSq, sI, sL, sR, sInc, sF, sFO, sAI, sAZ, sAO, sX, sXp, sIf, sCut, sSqs, sSw, sRt, sRz_g, is01_b, is01_0, is01_1, sRv, sBk, sCt, sCp, lset, lclr, lcut, lini, lx, Value.category, ixOf, b2i_0, b2i_1, T_R, G_R, g3, ei, ix80 hlt (by decide), ix80 (show 19 * py + k < 266 by omega) (by decide), L_p1]
        rw [e72]
        refine hX _ _ _ (by rw [hz]; omega) ⟨k + 1, _, rfl, hlt, rfl, rfl, g1.up _ (by omega), by simp [up_get, g2], by simp [up_get, g3], fun b hb => ?_⟩
        by_cases c : b = k
        · subst c; simp [up_get]
        · simp only [up_get, true_and, if_neg c]; exact g4 b (by omega)
      · have : k = 19 := by omega
        subst this
        simp only [hlt, decide_false, Bool.false_eq_true, if_false]
        simp [eV, eI, eL, eR, e1, e2, eDI, eDL, eFI, eFL, eFR, eAI, eAZ, eAR, eLen, aN, aC, xV, xS, eX, eIf, eC_b, cA, cO, cN, sSk, sSq, sI, sL, sR, sInc, sF, sFO, sAI, sAZ, sAO, sX, sXp, sIf, sCut, sSqs, sSw, sRt, sRz_g, is01_b, is01_0, is01_1, sRv, sBk, sCt, sCp, lset, lclr, lcut, lini, lx, Value.category, ixOf, b2i_0, b2i_1, T_R, g2]
        refine hQ s1 (g1.wk fun r k z => by omega) ⟨mTx_fr g1 (by omega) (by omega) i1, mR_fr g1 (by omega) (by omega) i2, fun b hb => g4 b hb, ?_, mSr_fr g1 (by omega) (by omega) i5, mSg_fr g1 (by omega) (by omega) (by omega) i6⟩
        have lt : ((aH A).take n).length = n := by rw [List.length_take, Nat.min_eq_left (by omega)]
        refine ⟨by show _ = nI ((aH A).take n).length; rw [lt]; exact g2, py, p14, g3, fun m hm k hk => ?_⟩
        have hm : m < n := by have : m < ((aH A).take n).length := hm; omega
        show s1.1 73 (19 * ((py + 14 - ((aH A).take n).length + m) % 14) + k) = (((aH A).take n).getD m zR) k
        rw [lt, getD_take hm, g1.2 _ _ (by omega)]
        exact hist m hm k hk
theorem ok_undo {A : AS} (hA : okA A) : okA (f_undo A).2 := by
  unfold f_undo
  split
  · exact hA
  · next c =>
    obtain ⟨a1, a2, a3, a4, a5, a6, a7⟩ := hA
    refine ⟨a1, a2, a4.2 _ (getD_mem2 (by omega)), ⟨?_, fun w hw => a4.2 w (List.mem_of_mem_take hw)⟩, a5, a6, a7⟩
    show ((aH A).take _).length ≤ 14
    rw [List.length_take]
    have := a4.1
    omega
/-! keep, again -/
def wK (A : AS) (K : Nat → Option Row) : AS := (aT A, aP A, aR A, aH A, K, aS A, aX A)
def f_keep (A : AS) (x : Int32) : Int32 × AS := if rng 0 1 x then (aR A 18, wK A fun j => if j = x.toNatClampNeg then some (aR A) else aK A j) else (-1, A)
theorem c_keep {A : AS} (hA : okA A) (scr : List Int32) {s : MS} (h : IC A s) (x : Int32) (Q : Option Value → HV → Prop) (hQ : ∀ s', Fr Fc s s' → IC (f_keep A x).2 s' → Q (some (.int (f_keep A x).1)) (hp scr s')) : X_PL_keep [.ref 2, .int x] (hp scr s) Q := by
  unfold f_keep at hQ
  simp [X_PL_keep, B_PL_keep, lini, lx, Value.category]
  rw [sSq_if (t := !rng 0 1 x) (by intro K; simp [eV, eI, eL, eR, e1, e2, eDI, eDL, eFI, eFL, eFR, eAI, eAZ, eAR, eLen, aN, aC, xV, xS, eX, eIf, eC_b, cA, cO, cN, sSk, sSq, sI, sL, sR, sInc, sF, sFO, sAI, sAZ, sAO, sX, sXp, sIf, sCut, sSqs, sSw, sRt, sRz_g, is01_b, is01_0, is01_1, sRv, sBk, sCt, sCp, lset, lclr, lcut, lini, lx, Value.category, ixOf, b2i_0, b2i_1]; exact cO_rng2 (by decide))]
  cases hr : rng 0 1 x with
  | false =>
    rw [hr] at hQ
    simp [eV, eI, eL, eR, e1, e2, eDI, eDL, eFI, eFL, eFR, eAI, eAZ, eAR, eLen, aN, aC, xV, xS, eX, eIf, eC_b, cA, cO, cN, sSk, sSq, sI, sL, sR, sInc, sF, sFO, sAI, sAZ, sAO, sX, sXp, sIf, sCut, sSqs, sSw, sRt, sRz_g, is01_b, is01_0, is01_1, sRv, sBk, sCt, sCp, lset, lclr, lcut, lini, lx, Value.category, ixOf, b2i_0, b2i_1]
    exact hQ s Fr.rf h
  | true =>
    obtain ⟨n, hn, rfl⟩ := rng_n (N := 1) (by decide) hr
    rw [hr, nI_clamp (by omega)] at hQ
    obtain ⟨i1, i2, i3, i4, i5, i6, i7⟩ := h
    have n2 : n < 2 := by omega
    have an : arr (30 + n) 19 := by rcases (show n = 0 ∨ n = 1 by omega) with rfl | rfl <;> exact arr_of rfl rfl
    simp only [Bool.not_true, Bool.false_eq_true, if_false, sSk_eq]
    refine sSq_S1 (ls' := [.ref 2, .int (nI n)]) (scr := scr) (I := fun s' => Fr (fun r k => r = 30 + n ∨ r = 28) s s' ∧ (∀ k, k < 19 → s'.1 (30 + n) k = aR A k) ∧ ∀ j, s'.1 28 j = if j = n then 1 else s.1 28 j) ?h1 ?h2
    case h1 =>
      intro kn hkn
      simp [eV, eI, eL, eR, e1, e2, eDI, eDL, eFI, eFL, eFR, eAI, eAZ, eAR, eLen, aN, aC, xV, xS, eX, eIf, eC_b, cA, cO, cN, sSk, sSq, sI, sL, sR, sInc, sF, sFO, sAI, sAZ, sAO, sX, sXp, sIf, sCut, sSqs, sSw, sRt, sRz_g, is01_b, is01_0, is01_1, sRv, sBk, sCt, sCp, lset, lclr, lcut, lini, lx, Value.category, ixOf, b2i_0, b2i_1, T_PL, T_Slots]
      simp [X_Slots_fill, B_Slots_fill, lini, lx, Value.category]
      refine sSq_Cp (r := 20) (q := 30 + n) (n := 19) (n2 := 19) (sp := 0) (dp := 0) (N := 19) A_20 an (by omega) (by omega) (by omega) (by omega) ?_ (fun K hK => hK) ?_ (fun K hK => hK) (fun K hK => hK) ?_
      · intro K hK; simpa [eV, eI, eL, eR, e1, e2, eDI, eDL, eFI, eFL, eFR, eAI, eAZ, eAR, eLen, aN, aC, xV, xS, eX, eIf, eC_b, cA, cO, cN, sSk, sSq, sI, sL, sR, sInc, sF, sFO, sAI, sAZ, sAO, sX, sXp, sIf, sCut, sSqs, sSw, sRt, sRz_g, is01_b, is01_0, is01_1, sRv, sBk, sCt, sCp, lset, lclr, lcut, lini, lx, Value.category, ixOf, b2i_0, b2i_1] using hK
      · intro K hK; simpa [eV, eI, eL, eR, e1, e2, eDI, eDL, eFI, eFL, eFR, eAI, eAZ, eAR, eLen, aN, aC, xV, xS, eX, eIf, eC_b, cA, cO, cN, sSk, sSq, sI, sL, sR, sInc, sF, sFO, sAI, sAZ, sAO, sX, sXp, sIf, sCut, sSqs, sSw, sRt, sRz_g, is01_b, is01_0, is01_1, sRv, sBk, sCt, sCp, lset, lclr, lcut, lini, lx, Value.category, ixOf, b2i_0, b2i_1, T_Slots, ix80 n2 (by decide), Z27 scr s] using hK
      have c1 : Fr (fun r k => r = 30 + n ∨ r = 28) s (cpS s 20 (30 + n) 0 0 19) := cpS_fr.wk fun r k z => by omega
      have c2 : ∀ k, k < 19 → (cpS s 20 (30 + n) 0 0 19).1 (30 + n) k = aR A k := fun k hk => by rw [cpS_at hk]; exact i3 k hk
      have c3 : ∀ j, (cpS s 20 (30 + n) 0 0 19).1 28 j = s.1 28 j := fun j => by rw [cpS_val, if_neg (by omega)]
      generalize cpS s 20 (30 + n) 0 0 19 = s1 at c1 c2 c3 ⊢
      simp [eV, eI, eL, eR, e1, e2, eDI, eDL, eFI, eFL, eFR, eAI, eAZ, eAR, eLen, aN, aC, xV, xS, eX, eIf, eC_b, cA, cO, cN, sSk, sSq, sI, sL, sR, sInc, sF, sFO, sAI, sAZ, sAO, sX, sXp, sIf, sCut, sSqs, sSw, sRt, sRz_g, is01_b, is01_0, is01_1, sRv, sBk, sCt, sCp, lset, lclr, lcut, lini, lx, Value.category, ixOf, b2i_0, b2i_1, T_Slots, ix80 n2 (by decide), Z27 scr s1]
      exact hkn _ ⟨c1.up _ (by omega), fun k hk => by simp only [up_get]; rw [if_neg (by omega)]; exact c2 k hk, fun j => by simp only [up_get, true_and, c3]⟩
    case h2 =>
      rintro s1 ⟨g1, g2, g3⟩
      have e18 : s1.1 20 18 = aR A 18 := by rw [g1.2 _ _ (by omega)]; exact i3 18 (by omega)
      simp [eV, eI, eL, eR, e1, e2, eDI, eDL, eFI, eFL, eFR, eAI, eAZ, eAR, eLen, aN, aC, xV, xS, eX, eIf, eC_b, cA, cO, cN, sSk, sSq, sI, sL, sR, sInc, sF, sFO, sAI, sAZ, sAO, sX, sXp, sIf, sCut, sSqs, sSw, sRt, sRz_g, is01_b, is01_0, is01_1, sRv, sBk, sCt, sCp, lset, lclr, lcut, lini, lx, Value.category, ixOf, b2i_0, b2i_1, T_PL, G_row, show (18 : Int32).toNatClampNeg = 18 from rfl, e18]
      refine hQ s1 (g1.wk fun r k z => by omega) ⟨mTx_fr g1 (by omega) (by omega) i1, mC_fr g1 (by omega) (by omega) i2, mRw_fr g1 (by omega) i3, mAc_fr g1 (by omega) (by omega) (by omega) i4, fun j hj => ⟨?_, fun w hw k hk => ?_⟩, mSg_fr g1 (by omega) (by omega) (by omega) i6, mNow_fr g1 (by omega) i7⟩
      · show s1.1 28 j = b2i (if j = n then some (aR A) else aK A j).isSome
        rw [g3]
        split
        · rfl
        · exact (i5 j hj).1
      · have hw : (if j = n then some (aR A) else aK A j) = some w := hw
        by_cases c : j = n
        · rw [if_pos c] at hw
          cases hw
          rw [c]
          exact g2 k hk
        · rw [if_neg c] at hw
          rw [g1.2 _ _ (by omega)]
          exact (i5 j hj).2 w hw k hk
theorem r_keep {A : AS} (hA : okA A) (scr : List Int32) {s : MS} (h : IR A s) (x : Int32) (Q : Option Value → HV → Prop) (hQ : ∀ s', Fr Ft s s' → IR (f_keep A x).2 s' → Q (some (.int (f_keep A x).1)) (hp scr s')) : X_R_keep [.ref 65, .int x] (hp scr s) Q := by
  unfold f_keep at hQ
  simp [X_R_keep, B_R_keep, lini, lx, Value.category]
  rw [sSq_if (t := !rng 0 1 x) (by intro K; simp [eV, eI, eL, eR, e1, e2, eDI, eDL, eFI, eFL, eFR, eAI, eAZ, eAR, eLen, aN, aC, xV, xS, eX, eIf, eC_b, cA, cO, cN, sSk, sSq, sI, sL, sR, sInc, sF, sFO, sAI, sAZ, sAO, sX, sXp, sIf, sCut, sSqs, sSw, sRt, sRz_g, is01_b, is01_0, is01_1, sRv, sBk, sCt, sCp, lset, lclr, lcut, lini, lx, Value.category, ixOf, b2i_0, b2i_1, t_in scr s x 0 1 (A := 0) (B := 1) rfl rfl, nb])]
  cases hr : rng 0 1 x with
  | false =>
    rw [hr] at hQ
    simp [eV, eI, eL, eR, e1, e2, eDI, eDL, eFI, eFL, eFR, eAI, eAZ, eAR, eLen, aN, aC, xV, xS, eX, eIf, eC_b, cA, cO, cN, sSk, sSq, sI, sL, sR, sInc, sF, sFO, sAI, sAZ, sAO, sX, sXp, sIf, sCut, sSqs, sSw, sRt, sRz_g, is01_b, is01_0, is01_1, sRv, sBk, sCt, sCp, lset, lclr, lcut, lini, lx, Value.category, ixOf, b2i_0, b2i_1]
    exact hQ s Fr.rf h
  | true =>
    obtain ⟨n, hn, rfl⟩ := rng_n (N := 1) (by decide) hr
    rw [hr, nI_clamp (by omega)] at hQ
    obtain ⟨i1, i2, i3, i4, i5, i6⟩ := h
    have n2 : n < 2 := by omega
    simp [eV, eI, eL, eR, e1, e2, eDI, eDL, eFI, eFL, eFR, eAI, eAZ, eAR, eLen, aN, aC, xV, xS, eX, eIf, eC_b, cA, cO, cN, sSk, sSq, sI, sL, sR, sInc, sF, sFO, sAI, sAZ, sAO, sX, sXp, sIf, sCut, sSqs, sSw, sRt, sRz_g, is01_b, is01_0, is01_1, sRv, sBk, sCt, sCp, lset, lclr, lcut, lini, lx, Value.category, ixOf, b2i_0, b2i_1, T_R, ix80 n2 (by decide), Z27 scr s]
    refine lp_ind (fun z ls h => ∃ k s', z = 19 - k ∧ k ≤ 19 ∧ ls = [.ref 65, .int (nI n), .int (nI k)] ∧ h = hp scr s' ∧ Fr (fun r k => r = 74 ∨ r = 75) s s' ∧ (∀ j, s'.1 75 j = if j = n then 1 else s.1 75 j) ∧ (∀ b, b < k → s'.1 74 (19 * n + b) = aR A b) ∧ ∀ b, b < 19 * n ∨ 19 * n + k ≤ b → s'.1 74 b = s.1 74 b) ?_ ⟨0, _, rfl, by omega, rfl, rfl, Fr.rf.up _ (by omega), fun j => by simp [up_get], fun b hb => by omega, fun b _ => by simp [up_get]⟩
    rintro z ls h' ⟨k, s1, hz, hk, rfl, rfl, g1, g2, g3, g4⟩ X hX
    refine cX (t := decide (k < 19)) (h' := hp scr s1) ?h1 ?h2
    case h1 =>
      intro K
      simp [eV, eI, eL, eR, e1, e2, eDI, eDL, eFI, eFL, eFR, eAI, eAZ, eAR, eLen, aN, aC, xV, xS, eX, eIf, eC_b, cA, cO, cN, sSk, sSq, sI, sL, sR, sInc, sF, sFO, sAI, sAZ, sAO, sX, sXp, sIf, sCut, sSqs, sSw, sRt, sRz_g, is01_b, is01_0, is01_1, sRv, sBk, sCt, sCp, lset, lclr, lcut, lini, lx, Value.category, ixOf, b2i_0, b2i_1]
      simp (disch := omega) only [LIT, L_0le, L_0lt, L_0eq, L_eq0, L_le0, L_lt0, L_1eq, L_eq1, L_1le, L_1lt, L_lt1, L_le1, L_p1, nI_ltI, nI_leI, nI_eq, nI_add, nI_clamp]
    case h2 =>
      by_cases hlt : k < 19
      · have e70 : s1.1 71 k = aR A k := by rw [g1.2 _ _ (by omega)]; exact i3 k hlt
        have ei : (19 : Int32) * nI n + nI k = nI (19 * n + k) := by rw [show (19 : Int32) = nI 19 from rfl, nI_mul, nI_add]
        simp only [hlt, decide_true, if_true]
        simp [eV, eI, eL, eR, e1, e2, eDI, eDL, eFI, eFL, eFR, eAI, eAZ, eAR, eLen, aN, aC, xV, xS, eX, eIf, eC_b, cA, cO, cN, sSk, sSq, sI, sL, sR, sInc, sF, sFO, sAI, sAZ, sAO, sX, sXp, sIf, sCut, sSqs, sSw, sRt, sRz_g, is01_b, is01_0, is01_1, sRv, sBk, sCt, sCp, lset, lclr, lcut, lini, lx, Value.category, ixOf, b2i_0, b2i_1, T_R, G_R, ei, ix80 hlt (by decide), ix80 (show 19 * n + k < 38 by omega) (by decide), e70, L_p1]
        refine hX _ _ _ (by rw [hz]; omega) ⟨k + 1, _, rfl, hlt, rfl, rfl, g1.up _ (by omega), fun j => by simp [up_get, g2], fun b hb => ?_, fun b hb => ?_⟩
        · by_cases c : b = k
          · subst c; simp [up_get]
          · simp [up_get, c]; exact g3 b (by omega)
        · have c : b ≠ 19 * n + k := by omega
          simp [up_get, c]
          exact g4 b (by omega)
      · have : k = 19 := by omega
        subst this
        have e18 : s1.1 71 18 = aR A 18 := by rw [g1.2 _ _ (by omega)]; exact i3 18 (by omega)
        simp only [hlt, decide_false, Bool.false_eq_true, if_false]
        simp [eV, eI, eL, eR, e1, e2, eDI, eDL, eFI, eFL, eFR, eAI, eAZ, eAR, eLen, aN, aC, xV, xS, eX, eIf, eC_b, cA, cO, cN, sSk, sSq, sI, sL, sR, sInc, sF, sFO, sAI, sAZ, sAO, sX, sXp, sIf, sCut, sSqs, sSw, sRt, sRz_g, is01_b, is01_0, is01_1, sRv, sBk, sCt, sCp, lset, lclr, lcut, lini, lx, Value.category, ixOf, b2i_0, b2i_1, T_R, G_R, show (18 : Int32).toNatClampNeg = 18 from rfl, e18]
        refine hQ s1 (g1.wk fun r k z => by omega) ⟨mTx_fr g1 (by omega) (by omega) i1, mR_fr g1 (by omega) (by omega) i2, mRw_fr g1 (by omega) i3, mAr_fr g1 (by omega) (by omega) (by omega) i4, fun j hj => ⟨?_, fun w hw k hk => ?_⟩, mSg_fr g1 (by omega) (by omega) (by omega) i6⟩
        · show s1.1 75 j = b2i (if j = n then some (aR A) else aK A j).isSome
          rw [g2]
          split
          · rfl
          · exact (i5 j hj).1
        · have hw : (if j = n then some (aR A) else aK A j) = some w := hw
          by_cases c : j = n
          · rw [if_pos c] at hw
            cases hw
            rw [c]
            exact g3 k hk
          · rw [if_neg c] at hw
            rw [g4 _ (by omega)]
            exact (i5 j hj).2 w hw k hk
theorem ok_keep {A : AS} (hA : okA A) (x : Int32) : okA (f_keep A x).2 := by
  unfold f_keep
  split
  · obtain ⟨a1, a2, a3, a4, a5, a6, a7⟩ := hA
    refine ⟨a1, a2, a3, a4, fun j w hw => ?_, a6, a7⟩
    have hw : (if j = x.toNatClampNeg then some (aR A) else aK A j) = some w := hw
    split at hw
    · cases hw; exact a3
    · exact a5 j w hw
  · exact hA
def f_again (A : AS) (x : Int32) : Int32 × AS := if rng 0 1 x then (match aK A x.toNatClampNeg with | none => (-3, A) | some w => (w 18, wR A [] w)) else (-1, A)
theorem c_again {A : AS} (hA : okA A) (scr : List Int32) {s : MS} (h : IC A s) (x : Int32) (Q : Option Value → HV → Prop) (hQ : ∀ s', Fr Fc s s' → IC (f_again A x).2 s' → Q (some (.int (f_again A x).1)) (hp scr s')) : X_PL_again [.ref 2, .int x] (hp scr s) Q := by
  unfold f_again at hQ
  simp [X_PL_again, B_PL_again, lini, lx, Value.category]
  rw [sSq_if (t := !rng 0 1 x) (by intro K; simp [eV, eI, eL, eR, e1, e2, eDI, eDL, eFI, eFL, eFR, eAI, eAZ, eAR, eLen, aN, aC, xV, xS, eX, eIf, eC_b, cA, cO, cN, sSk, sSq, sI, sL, sR, sInc, sF, sFO, sAI, sAZ, sAO, sX, sXp, sIf, sCut, sSqs, sSw, sRt, sRz_g, is01_b, is01_0, is01_1, sRv, sBk, sCt, sCp, lset, lclr, lcut, lini, lx, Value.category, ixOf, b2i_0, b2i_1]; exact cO_rng2 (by decide))]
  cases hr : rng 0 1 x with
  | false =>
    rw [hr] at hQ
    simp [eV, eI, eL, eR, e1, e2, eDI, eDL, eFI, eFL, eFR, eAI, eAZ, eAR, eLen, aN, aC, xV, xS, eX, eIf, eC_b, cA, cO, cN, sSk, sSq, sI, sL, sR, sInc, sF, sFO, sAI, sAZ, sAO, sX, sXp, sIf, sCut, sSqs, sSw, sRt, sRz_g, is01_b, is01_0, is01_1, sRv, sBk, sCt, sCp, lset, lclr, lcut, lini, lx, Value.category, ixOf, b2i_0, b2i_1]
    exact hQ s Fr.rf h
  | true =>
    obtain ⟨n, hn, rfl⟩ := rng_n (N := 1) (by decide) hr
    rw [hr, nI_clamp (by omega)] at hQ
    have h' := h
    obtain ⟨i1, i2, i3, i4, i5, i6, i7⟩ := h
    have n2 : n < 2 := by omega
    have e27 := (i5 n n2).1
    have an : arr (30 + n) 19 := by rcases (show n = 0 ∨ n = 1 by omega) with rfl | rfl <;> exact arr_of rfl rfl
    simp only [Bool.not_true, Bool.false_eq_true, if_false, sSk_eq]
    rw [sSq_if (t := !(aK A n).isSome) (by intro K; simp [eV, eI, eL, eR, e1, e2, eDI, eDL, eFI, eFL, eFR, eAI, eAZ, eAR, eLen, aN, aC, xV, xS, eX, eIf, eC_b, cA, cO, cN, sSk, sSq, sI, sL, sR, sInc, sF, sFO, sAI, sAZ, sAO, sX, sXp, sIf, sCut, sSqs, sSw, sRt, sRz_g, is01_b, is01_0, is01_1, sRv, sBk, sCt, sCp, lset, lclr, lcut, lini, lx, Value.category, ixOf, b2i_0, b2i_1, T_PL, T_Slots, ix80 n2 (by decide), Z27 scr s, e27, nb]; cases aK A n <;> simp)]
    cases hK : aK A n with
    | none =>
      rw [hK] at hQ
      simp [eV, eI, eL, eR, e1, e2, eDI, eDL, eFI, eFL, eFR, eAI, eAZ, eAR, eLen, aN, aC, xV, xS, eX, eIf, eC_b, cA, cO, cN, sSk, sSq, sI, sL, sR, sInc, sF, sFO, sAI, sAZ, sAO, sX, sXp, sIf, sCut, sSqs, sSw, sRt, sRz_g, is01_b, is01_0, is01_1, sRv, sBk, sCt, sCp, lset, lclr, lcut, lini, lx, Value.category, ixOf, b2i_0, b2i_1]
      exact hQ s Fr.rf h'
    | some w =>
      rw [hK] at hQ
      have okw := hA.2.2.2.2.1 n w hK
      have src := (i5 n n2).2 w hK
      simp only [Option.isSome_some, Bool.not_true, Bool.false_eq_true, if_false, sSk_eq]
      refine sSq_S1 (ls' := [.ref 2, .int (nI n)]) (scr := scr) (I := fun s' => Fr (fun r k => r = 20) s s' ∧ mRw 20 w s') ?h1 ?h2
      case h1 =>
        intro kn hkn
        simp [eV, eI, eL, eR, e1, e2, eDI, eDL, eFI, eFL, eFR, eAI, eAZ, eAR, eLen, aN, aC, xV, xS, eX, eIf, eC_b, cA, cO, cN, sSk, sSq, sI, sL, sR, sInc, sF, sFO, sAI, sAZ, sAO, sX, sXp, sIf, sCut, sSqs, sSw, sRt, sRz_g, is01_b, is01_0, is01_1, sRv, sBk, sCt, sCp, lset, lclr, lcut, lini, lx, Value.category, ixOf, b2i_0, b2i_1, T_PL, T_Slots]
        simp [X_Slots_restore, B_Slots_restore, lini, lx, Value.category]
        refine sSq_Cp (r := 30 + n) (q := 20) (n := 19) (n2 := 19) (sp := 0) (dp := 0) (N := 19) an A_20 (by omega) (by omega) (by omega) (by omega) ?_ (fun K hK => hK) ?_ (fun K hK => hK) (fun K hK => hK) ?_
        · intro K hK; simpa [eV, eI, eL, eR, e1, e2, eDI, eDL, eFI, eFL, eFR, eAI, eAZ, eAR, eLen, aN, aC, xV, xS, eX, eIf, eC_b, cA, cO, cN, sSk, sSq, sI, sL, sR, sInc, sF, sFO, sAI, sAZ, sAO, sX, sXp, sIf, sCut, sSqs, sSw, sRt, sRz_g, is01_b, is01_0, is01_1, sRv, sBk, sCt, sCp, lset, lclr, lcut, lini, lx, Value.category, ixOf, b2i_0, b2i_1, T_Slots, ix80 n2 (by decide), Z27 scr s] using hK
        · intro K hK; simpa [eV, eI, eL, eR, e1, e2, eDI, eDL, eFI, eFL, eFR, eAI, eAZ, eAR, eLen, aN, aC, xV, xS, eX, eIf, eC_b, cA, cO, cN, sSk, sSq, sI, sL, sR, sInc, sF, sFO, sAI, sAZ, sAO, sX, sXp, sIf, sCut, sSqs, sSw, sRt, sRz_g, is01_b, is01_0, is01_1, sRv, sBk, sCt, sCp, lset, lclr, lcut, lini, lx, Value.category, ixOf, b2i_0, b2i_1] using hK
        have c1 : Fr (fun r k => r = 20) s (cpS s (30 + n) 20 0 0 19) := cpS_fr
        have c2 : mRw 20 w (cpS s (30 + n) 20 0 0 19) := fun k hk => by rw [cpS_at hk]; exact src k hk
        generalize cpS s (30 + n) 20 0 0 19 = s1 at c1 c2 ⊢
        simp [eV, eI, eL, eR, e1, e2, eDI, eDL, eFI, eFL, eFR, eAI, eAZ, eAR, eLen, aN, aC, xV, xS, eX, eIf, eC_b, cA, cO, cN, sSk, sSq, sI, sL, sR, sInc, sF, sFO, sAI, sAZ, sAO, sX, sXp, sIf, sCut, sSqs, sSw, sRt, sRz_g, is01_b, is01_0, is01_1, sRv, sBk, sCt, sCp, lset, lclr, lcut, lini, lx, Value.category, ixOf, b2i_0, b2i_1]
        exact hkn _ ⟨c1, c2⟩
      case h2 =>
        rintro s1 ⟨g1, g2⟩
        simp [eV, eI, eL, eR, e1, e2, eDI, eDL, eFI, eFL, eFR, eAI, eAZ, eAR, eLen, aN, aC, xV, xS, eX, eIf, eC_b, cA, cO, cN, sSk, sSq, sI, sL, sR, sInc, sF, sFO, sAI, sAZ, sAO, sX, sXp, sIf, sCut, sSqs, sSw, sRt, sRz_g, is01_b, is01_0, is01_1, sRv, sBk, sCt, sCp, lset, lclr, lcut, lini, lx, Value.category, ixOf, b2i_0, b2i_1, T_PL, T_Acts, U_Acts, X_Acts_clear, B_Acts_clear, T34]
        have f1 : Fr (fun r k => r = 20 ∨ (r = 24 ∧ k = 2)) s (up s1 24 2 0) := (g1.wk fun r k z => by omega).up _ (by omega)
        have f2 : mRw 20 w (up s1 24 2 0) := mRw_fr (F := fun r _ => r = 24) (Fr.rf.up _ rfl) (by omega) g2
        have f3 : (up s1 24 2 0).1 24 2 = 0 := by simp [up_get]
        generalize up s1 24 2 0 = s2 at f1 f2 f3 ⊢
        refine t_choose scr hA.2.1 (mC_fr f1 (by omega) (by omega) i2) okw f2 _ fun s3 k1 k2 => ⟨rfl, ?_⟩
        have gg : Fr (fun r k => r = 20 ∨ (r = 24 ∧ k = 2) ∨ (35 ≤ r ∧ r ≤ 47)) s s3 := (f1.wk fun r k z => by omega).tr k1 fun r k z => by omega
        have w3 : mRw 20 w s3 := mRw_fr k1 (by omega) f2
        simp [T_PL, G_row, show (18 : Int32).toNatClampNeg = 18 from rfl, w3 18 (by omega)]
        exact hQ s3 (gg.wk fun r k z => by omega) ⟨mTx_fr gg (by omega) (by omega) i1, mC_fr gg (by omega) (by omega) i2, w3, ⟨by rw [k1.2 _ _ (by omega)]; exact f3, fun m hm => absurd hm (Nat.not_lt_zero m)⟩, mSc_fr gg (by omega) (by omega) i5, mSg_fr gg (by omega) (by omega) (by omega) i6, k2⟩
theorem r_again {A : AS} (hA : okA A) (scr : List Int32) {s : MS} (h : IR A s) (x : Int32) (Q : Option Value → HV → Prop) (hQ : ∀ s', Fr Ft s s' → IR (f_again A x).2 s' → Q (some (.int (f_again A x).1)) (hp scr s')) : X_R_again [.ref 65, .int x] (hp scr s) Q := by
  unfold f_again at hQ
  simp [X_R_again, B_R_again, lini, lx, Value.category]
  rw [sSq_if (t := !rng 0 1 x) (by intro K; simp [eV, eI, eL, eR, e1, e2, eDI, eDL, eFI, eFL, eFR, eAI, eAZ, eAR, eLen, aN, aC, xV, xS, eX, eIf, eC_b, cA, cO, cN, sSk, sSq, sI, sL, sR, sInc, sF, sFO, sAI, sAZ, sAO, sX, sXp, sIf, sCut, sSqs, sSw, sRt, sRz_g, is01_b, is01_0, is01_1, sRv, sBk, sCt, sCp, lset, lclr, lcut, lini, lx, Value.category, ixOf, b2i_0, b2i_1, t_in scr s x 0 1 (A := 0) (B := 1) rfl rfl, nb])]
  cases hr : rng 0 1 x with
  | false =>
    rw [hr] at hQ
    simp [eV, eI, eL, eR, e1, e2, eDI, eDL, eFI, eFL, eFR, eAI, eAZ, eAR, eLen, aN, aC, xV, xS, eX, eIf, eC_b, cA, cO, cN, sSk, sSq, sI, sL, sR, sInc, sF, sFO, sAI, sAZ, sAO, sX, sXp, sIf, sCut, sSqs, sSw, sRt, sRz_g, is01_b, is01_0, is01_1, sRv, sBk, sCt, sCp, lset, lclr, lcut, lini, lx, Value.category, ixOf, b2i_0, b2i_1]
    exact hQ s Fr.rf h
  | true =>
    obtain ⟨n, hn, rfl⟩ := rng_n (N := 1) (by decide) hr
    rw [hr, nI_clamp (by omega)] at hQ
    have h' := h
    obtain ⟨i1, i2, i3, i4, i5, i6⟩ := h
    have n2 : n < 2 := by omega
    have e74 := (i5 n n2).1
    simp only [Bool.not_true, Bool.false_eq_true, if_false, sSk_eq]
    rw [sSq_if (t := !(aK A n).isSome) (by intro K; simp [eV, eI, eL, eR, e1, e2, eDI, eDL, eFI, eFL, eFR, eAI, eAZ, eAR, eLen, aN, aC, xV, xS, eX, eIf, eC_b, cA, cO, cN, sSk, sSq, sI, sL, sR, sInc, sF, sFO, sAI, sAZ, sAO, sX, sXp, sIf, sCut, sSqs, sSw, sRt, sRz_g, is01_b, is01_0, is01_1, sRv, sBk, sCt, sCp, lset, lclr, lcut, lini, lx, Value.category, ixOf, b2i_0, b2i_1, T_R, ix80 n2 (by decide), Z27 scr s, e74, nb]; cases aK A n <;> simp)]
    cases hK : aK A n with
    | none =>
      rw [hK] at hQ
      simp [eV, eI, eL, eR, e1, e2, eDI, eDL, eFI, eFL, eFR, eAI, eAZ, eAR, eLen, aN, aC, xV, xS, eX, eIf, eC_b, cA, cO, cN, sSk, sSq, sI, sL, sR, sInc, sF, sFO, sAI, sAZ, sAO, sX, sXp, sIf, sCut, sSqs, sSw, sRt, sRz_g, is01_b, is01_0, is01_1, sRv, sBk, sCt, sCp, lset, lclr, lcut, lini, lx, Value.category, ixOf, b2i_0, b2i_1]
      exact hQ s Fr.rf h'
    | some w =>
      rw [hK] at hQ
      have src := (i5 n n2).2 w hK
      simp only [Option.isSome_some, Bool.not_true, Bool.false_eq_true, if_false, sSk_eq]
      simp [eV, eI, eL, eR, e1, e2, eDI, eDL, eFI, eFL, eFR, eAI, eAZ, eAR, eLen, aN, aC, xV, xS, eX, eIf, eC_b, cA, cO, cN, sSk, sSq, sI, sL, sR, sInc, sF, sFO, sAI, sAZ, sAO, sX, sXp, sIf, sCut, sSqs, sSw, sRt, sRz_g, is01_b, is01_0, is01_1, sRv, sBk, sCt, sCp, lset, lclr, lcut, lini, lx, Value.category, ixOf, b2i_0, b2i_1]
      refine lp_ind (fun z ls h => ∃ k s', z = 19 - k ∧ k ≤ 19 ∧ ls = [.ref 65, .int (nI n), .int (nI k)] ∧ h = hp scr s' ∧ Fr (fun r k => r = 71) s s' ∧ (∀ b, b < k → s'.1 71 b = w b)) ?_ ⟨0, s, rfl, by omega, rfl, rfl, Fr.rf, fun b hb => by omega⟩
      rintro z ls h' ⟨k, s1, hz, hk, rfl, rfl, g1, g2⟩ X hX
      refine cX (t := decide (k < 19)) (h' := hp scr s1) ?h1 ?h2
      case h1 =>
        intro K
        simp [eV, eI, eL, eR, e1, e2, eDI, eDL, eFI, eFL, eFR, eAI, eAZ, eAR, eLen, aN, aC, xV, xS, eX, eIf, eC_b, cA, cO, cN, sSk, sSq, sI, sL, sR, sInc, sF, sFO, sAI, sAZ, sAO, sX, sXp, sIf, sCut, sSqs, sSw, sRt, sRz_g, is01_b, is01_0, is01_1, sRv, sBk, sCt, sCp, lset, lclr, lcut, lini, lx, Value.category, ixOf, b2i_0, b2i_1]
        simp (disch := omega) only [LIT, L_0le, L_0lt, L_0eq, L_eq0, L_le0, L_lt0, L_1eq, L_eq1, L_1le, L_1lt, L_lt1, L_le1, L_p1, nI_ltI, nI_leI, nI_eq, nI_add, nI_clamp]
      case h2 =>
        by_cases hlt : k < 19
        · have e73 : s1.1 74 (19 * n + k) = w k := by rw [g1.2 _ _ (by omega)]; exact src k hlt
          have ei : (19 : Int32) * nI n + nI k = nI (19 * n + k) := by rw [show (19 : Int32) = nI 19 from rfl, nI_mul, nI_add]
          simp only [hlt, decide_true, if_true]
          simp [eV, eI, eL, eR, e1, e2, eDI, eDL, eFI, eFL, eFR, eAI, eAZ, eAR, eLen, aN, aC, xV, xS, eX, eIf, eC_b, cA, cO, cN, sSk, sSq, sI, sL, sR, sInc, sF, sFO, sAI, sAZ, sAO, sX, sXp, sIf, sCut, sSqs, sSw, sRt, sRz_g, is01_b, is01_0, is01_1, sRv, sBk, sCt, sCp, lset, lclr, lcut, lini, lx, Value.category, ixOf, b2i_0, b2i_1, T_R, G_R, ei, ix80 hlt (by decide), ix80 (show 19 * n + k < 38 by omega) (by decide), e73, L_p1]
          refine hX _ _ _ (by rw [hz]; omega) ⟨k + 1, _, rfl, hlt, rfl, rfl, g1.up _ rfl, fun b hb => ?_⟩
          by_cases c : b = k
          · subst c; simp [up_get]
          · simp [up_get, c]; exact g2 b (by omega)
        · have : k = 19 := by omega
          subst this
          simp only [hlt, decide_false, Bool.false_eq_true, if_false]
          have gg : Fr (fun r k => r = 71 ∨ (r = 65 ∧ k = 10)) s (up s1 65 10 0) := (g1.wk fun r k z => by omega).up _ (by omega)
          simp [eV, eI, eL, eR, e1, e2, eDI, eDL, eFI, eFL, eFR, eAI, eAZ, eAR, eLen, aN, aC, xV, xS, eX, eIf, eC_b, cA, cO, cN, sSk, sSq, sI, sL, sR, sInc, sF, sFO, sAI, sAZ, sAO, sX, sXp, sIf, sCut, sSqs, sSw, sRt, sRz_g, is01_b, is01_0, is01_1, sRv, sBk, sCt, sCp, lset, lclr, lcut, lini, lx, Value.category, ixOf, b2i_0, b2i_1, T_R, U_R, G_R, show (18 : Int32).toNatClampNeg = 18 from rfl, up_get, g2 18 (by omega)]
          obtain ⟨y1, nx, y2, y3, y4⟩ := i4
          refine hQ (up s1 65 10 0) (gg.wk fun r k z => by omega) ⟨mTx_fr gg (by omega) (by omega) i1, mR_fr gg (by omega) (by omega) i2, fun b hb => by simp [up_get]; exact g2 b hb, ⟨by simp [up_get]; rfl, nx, y2, by rw [gg.2 _ _ (by omega)]; exact y3, fun m hm => absurd hm (Nat.not_lt_zero m)⟩, mSr_fr gg (by omega) (by omega) i5, mSg_fr gg (by omega) (by omega) (by omega) i6⟩
theorem ok_again {A : AS} (hA : okA A) (x : Int32) : okA (f_again A x).2 := by
  unfold f_again
  split
  · split
    · exact hA
    · next w hw =>
      obtain ⟨a1, a2, a3, a4, a5, a6, a7⟩ := hA
      exact ⟨a1, a2, a5 _ w hw, ⟨by simp [wR, aH], by simp [wR, aH]⟩, a5, a6, a7⟩
  · exact hA
