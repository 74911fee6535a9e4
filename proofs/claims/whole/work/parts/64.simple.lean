theorem ge_lt {a b x : Int32} (h : b.toInt = a.toInt + 1) : (b ≤ x) = (a < x) := by
  rw [Int32.le_iff_toInt_le, Int32.lt_iff_toInt_lt, h]
  apply propext
  omega
theorem cO_rng2 {a b c x : Int32} (hc : c.toInt = b.toInt + 1) {K : Bool → HV → Prop} {h : HV} : (if x < a then K true h else K (decide (c ≤ x)) h) ↔ K (!rng a b x) h := by
  simp only [ge_lt hc]
  exact cO_rng
theorem mTx_ap {r c k n : Nat} {t : List Nat} {s s' : MS} (h : mTx r c k t s) (h1 : s'.1 c k = nI (t.length + 1)) (h2 : ∀ q, s'.1 r q = if q = t.length then nI n else s.1 r q) : mTx r c k (t ++ [n]) s' := by
  refine ⟨by rw [h1]; simp, fun q hq => ?_⟩
  rw [h2, getD_app1 hq]
  split
  · rfl
  · rename_i c
    simp only [List.length_append, List.length_singleton] at hq
    exact h.2 q (by omega)
theorem getD_app2 {α : Type} {L : List α} {x d : α} {p : Nat} (h : p < (L ++ [x]).length) : (L ++ [x]).getD p d = if p = L.length then x else L.getD p d := by
  rw [List.getD_eq_getElem?_getD, List.getD_eq_getElem?_getD, List.getElem?_append]
  simp only [List.length_append, List.length_singleton] at h
  split
  · rw [if_neg (by omega)]
  · rw [if_pos (by omega), show p - L.length = 0 by omega]
    rfl
theorem mSg_ap {r1 r2 c k : Nat} {l : List (Nat × Int32)} {p : Nat × Int32} {s s' : MS} (h : mSg r1 r2 c k l s) (h1 : s'.1 c k = nI (l.length + 1)) (h2 : ∀ q, s'.1 r1 q = if q = l.length then nI p.1 else s.1 r1 q) (h3 : ∀ q, s'.1 r2 q = if q = l.length then p.2 else s.1 r2 q) : mSg r1 r2 c k (l ++ [p]) s' := by
  refine ⟨by rw [h1]; simp, fun q hq => ?_⟩
  rw [h2, h3, getD_app2 hq]
  by_cases e : q = l.length
  · simp [e]
  · simp only [if_neg e]
    simp only [List.length_append, List.length_singleton] at hq
    exact h.2 q (by omega)
theorem ngI : (-nI 2 = (-2 : Int32)) ∧ (-nI 3 = (-3 : Int32)) ∧ (-nI 4 = (-4 : Int32)) ∧ (-nI 9 = (-9 : Int32)) := ⟨rfl, rfl, rfl, rfl⟩
/-! write, wipe -/
def f_write (A : AS) (x : Int32) : Int32 × AS := if rng 0 255 x then (if (aT A).length < 80 then (nI ((aT A).length + 1), (aT A ++ [x.toNatClampNeg], A.2)) else (-4, A)) else (-2, A)
theorem c_write {A : AS} (hA : okA A) (scr : List Int32) {s : MS} (h : IC A s) (x : Int32) (Q : Option Value → HV → Prop) (hQ : ∀ s', Fr Fc s s' → IC (f_write A x).2 s' → Q (some (.int (f_write A x).1)) (hp scr s')) : X_PL_write [.ref 2, .int x] (hp scr s) Q := by
  obtain ⟨t80, t256⟩ := hA.1
  unfold f_write at hQ
  simp [X_PL_write, B_PL_write, lini, lx, Value.category]
  rw [sSq_if (t := !rng 0 255 x) (by intro K; simp [eV, eI, eL, eR, e1, e2, eDI, eDL, eFI, eFL, eFR, eAI, eAZ, eAR, eLen, aN, aC, xV, xS, eX, eIf, eC_b, cA, cO, cN, sSk, sSq, sI, sL, sR, sInc, sF, sFO, sAI, sAZ, sAO, sX, sXp, sIf, sCut, sSqs, sSw, sRt, sRz_g, is01_b, is01_0, is01_1, sRv, sBk, sCt, sCp, lset, lclr, lcut, lini, lx, Value.category, ixOf, b2i_0, b2i_1]; exact cO_rng)]
  cases hr : rng 0 255 x with
  | false =>
    rw [hr] at hQ
    simp [eV, eI, eL, eR, e1, e2, eDI, eDL, eFI, eFL, eFR, eAI, eAZ, eAR, eLen, aN, aC, xV, xS, eX, eIf, eC_b, cA, cO, cN, sSk, sSq, sI, sL, sR, sInc, sF, sFO, sAI, sAZ, sAO, sX, sXp, sIf, sCut, sSqs, sSw, sRt, sRz_g, is01_b, is01_0, is01_1, sRv, sBk, sCt, sCp, lset, lclr, lcut, lini, lx, Value.category, ixOf, b2i_0, b2i_1]
    exact hQ s Fr.rf h
  | true =>
    obtain ⟨n, hn, rfl⟩ := rng_n (N := 255) (by decide) hr
    rw [hr, nI_clamp (by omega)] at hQ
    have h1 := h.1
    have e1 := h1.1
    simp [eV, eI, eL, eR, e1, e2, eDI, eDL, eFI, eFL, eFR, eAI, eAZ, eAR, eLen, aN, aC, xV, xS, eX, eIf, eC_b, cA, cO, cN, sSk, sSq, sI, sL, sR, sInc, sF, sFO, sAI, sAZ, sAO, sX, sXp, sIf, sCut, sSqs, sSw, sRt, sRz_g, is01_b, is01_0, is01_1, sRv, sBk, sCt, sCp, lset, lclr, lcut, lini, lx, Value.category, ixOf, b2i_0, b2i_1, T_PL, X_Src_append, B_Src_append, T_Src, U_Src, G_Src, e1]
    simp (disch := omega) only [LIT, L_0le, L_0lt, L_0eq, L_eq0, L_le0, L_lt0, L_1eq, L_eq1, L_1le, L_1lt, L_lt1, L_le1, L_p1, nI_ltI, nI_leI, nI_eq, nI_add, nI_clamp]
    simp only [ngI]
    by_cases c : 80 ≤ (aT A).length
    · have c2 : ¬ (aT A).length < 80 := by omega
      rw [if_pos c]
      have hQ := hQ s Fr.rf (by simp [c2]; exact h)
      simpa [c2] using hQ
    · have c2 : (aT A).length < 80 := by omega
      rw [if_neg c]
      simp [ix80 c2 (by decide), G_Src, c2, T_Src, U_Src, up_get, e1, L_p1]
      have hQ := hQ (up (up s 4 (aT A).length (nI n)) 3 2 (nI ((aT A).length + 1))) ((Fr.rf.up _ (by omega)).up _ (by omega)) (by
        simp [c2]
        obtain ⟨i1, i2, i3, i4, i5, i6, i7⟩ := h
        have g : Fr (fun r k => r = 4 ∨ (r = 3 ∧ k = 2)) s (up (up s 4 (aT A).length (nI n)) 3 2 (nI ((aT A).length + 1))) := (Fr.rf.up _ (by omega)).up _ (by omega)
        exact ⟨mTx_ap h1 (by simp [up_get]) (fun q => by simp [up_get]), mC_fr g (by omega) (by omega) i2, mRw_fr g (by omega) i3, mAc_fr g (by omega) (by omega) (by omega) i4, mSc_fr g (by omega) (by omega) i5, mSg_fr g (by omega) (by omega) (by omega) i6, mNow_fr g (by omega) i7⟩)
      simpa [c2] using hQ
theorem r_write {A : AS} (hA : okA A) (scr : List Int32) {s : MS} (h : IR A s) (x : Int32) (Q : Option Value → HV → Prop) (hQ : ∀ s', Fr Ft s s' → IR (f_write A x).2 s' → Q (some (.int (f_write A x).1)) (hp scr s')) : X_R_write [.ref 65, .int x] (hp scr s) Q := by
  obtain ⟨t80, t256⟩ := hA.1
  unfold f_write at hQ
  simp [X_R_write, B_R_write, lini, lx, Value.category]
  rw [sSq_if (t := !rng 0 255 x) (by intro K; simp [eV, eI, eL, eR, e1, e2, eDI, eDL, eFI, eFL, eFR, eAI, eAZ, eAR, eLen, aN, aC, xV, xS, eX, eIf, eC_b, cA, cO, cN, sSk, sSq, sI, sL, sR, sInc, sF, sFO, sAI, sAZ, sAO, sX, sXp, sIf, sCut, sSqs, sSw, sRt, sRz_g, is01_b, is01_0, is01_1, sRv, sBk, sCt, sCp, lset, lclr, lcut, lini, lx, Value.category, ixOf, b2i_0, b2i_1, t_in scr s x 0 255 (A := 0) (B := 255) rfl rfl, nb])]
  cases hr : rng 0 255 x with
  | false =>
    rw [hr] at hQ
    simp [eV, eI, eL, eR, e1, e2, eDI, eDL, eFI, eFL, eFR, eAI, eAZ, eAR, eLen, aN, aC, xV, xS, eX, eIf, eC_b, cA, cO, cN, sSk, sSq, sI, sL, sR, sInc, sF, sFO, sAI, sAZ, sAO, sX, sXp, sIf, sCut, sSqs, sSw, sRt, sRz_g, is01_b, is01_0, is01_1, sRv, sBk, sCt, sCp, lset, lclr, lcut, lini, lx, Value.category, ixOf, b2i_0, b2i_1]
    exact hQ s Fr.rf h
  | true =>
    obtain ⟨n, hn, rfl⟩ := rng_n (N := 255) (by decide) hr
    rw [hr, nI_clamp (by omega)] at hQ
    have h1 := h.1
    have e1 := h1.1
    simp [eV, eI, eL, eR, e1, e2, eDI, eDL, eFI, eFL, eFR, eAI, eAZ, eAR, eLen, aN, aC, xV, xS, eX, eIf, eC_b, cA, cO, cN, sSk, sSq, sI, sL, sR, sInc, sF, sFO, sAI, sAZ, sAO, sX, sXp, sIf, sCut, sSqs, sSw, sRt, sRz_g, is01_b, is01_0, is01_1, sRv, sBk, sCt, sCp, lset, lclr, lcut, lini, lx, Value.category, ixOf, b2i_0, b2i_1, T_R, U_R, G_R, e1]
    simp (disch := omega) only [LIT, L_0le, L_0lt, L_0eq, L_eq0, L_le0, L_lt0, L_1eq, L_eq1, L_1le, L_1lt, L_lt1, L_le1, L_p1, nI_ltI, nI_leI, nI_eq, nI_add, nI_clamp]
    simp only [ngI]
    by_cases c : (aT A).length = 80
    · have c2 : ¬ (aT A).length < 80 := by omega
      rw [if_pos c]
      have hQ := hQ s Fr.rf (by simp [c2]; exact h)
      simpa [c2] using hQ
    · have c2 : (aT A).length < 80 := by omega
      rw [if_neg c]
      simp [ix80 c2 (by decide), G_R, c2, T_R, U_R, up_get, e1, L_p1]
      have hQ := hQ (up (up s 66 (aT A).length (nI n)) 65 1 (nI ((aT A).length + 1))) ((Fr.rf.up _ (by omega)).up _ (by omega)) (by
        simp [c2]
        obtain ⟨i1, i2, i3, i4, i5, i6⟩ := h
        have g : Fr (fun r k => r = 66 ∨ (r = 65 ∧ k = 1)) s (up (up s 66 (aT A).length (nI n)) 65 1 (nI ((aT A).length + 1))) := (Fr.rf.up _ (by omega)).up _ (by omega)
        exact ⟨mTx_ap h1 (by simp [up_get]) (fun q => by simp [up_get]), mR_fr g (by omega) (by omega) i2, mRw_fr g (by omega) i3, mAr_fr g (by omega) (by omega) (by omega) i4, mSr_fr g (by omega) (by omega) i5, mSg_fr g (by omega) (by omega) (by omega) i6⟩)
      simpa [c2] using hQ
theorem ok_write {A : AS} (hA : okA A) (x : Int32) : okA (f_write A x).2 := by
  unfold f_write
  split
  · next h =>
    obtain ⟨n, hn, rfl⟩ := rng_n (N := 255) (by decide) h
    split
    · next c =>
      obtain ⟨⟨a1, a2⟩, a3⟩ := hA
      refine ⟨⟨by simp [aT] at c ⊢; omega, fun y hy => ?_⟩, a3⟩
      rcases List.mem_append.mp hy with q | q
      · exact a2 y q
      · rw [List.mem_singleton.mp q, nI_clamp (by omega)]; omega
    · exact hA
  · exact hA
def f_wipe (A : AS) : Int32 × AS := (nI (aT A).length, ([], A.2))
theorem c_wipe {A : AS} (scr : List Int32) {s : MS} (h : IC A s) (Q : Option Value → HV → Prop) (hQ : ∀ s', Fr Fc s s' → IC (f_wipe A).2 s' → Q (some (.int (f_wipe A).1)) (hp scr s')) : X_PL_wipe [.ref 2] (hp scr s) Q := by
  obtain ⟨i1, i2, i3, i4, i5, i6, i7⟩ := h
  have e1 := i1.1
  simp [X_PL_wipe, B_PL_wipe, eV, eI, eL, eR, e1, e2, eDI, eDL, eFI, eFL, eFR, eAI, eAZ, eAR, eLen, aN, aC, xV, xS, eX, eIf, eC_b, cA, cO, cN, sSk, sSq, sI, sL, sR, sInc, sF, sFO, sAI, sAZ, sAO, sX, sXp, sIf, sCut, sSqs, sSw, sRt, sRz_g, is01_b, is01_0, is01_1, sRv, sBk, sCt, sCp, lset, lclr, lcut, lini, lx, Value.category, ixOf, b2i_0, b2i_1, T_PL, X_Src_clear, B_Src_clear, T_Src, U_Src, e1]
  have g : Fr (fun r k => r = 3 ∧ k = 2) s (up s 3 2 0) := Fr.rf.up _ (by omega)
  exact hQ _ (g.wk fun r k z => by omega) ⟨⟨by simp [up_get]; rfl, fun q hq => absurd hq (Nat.not_lt_zero q)⟩, mC_fr g (by omega) (by omega) i2, mRw_fr g (by omega) i3, mAc_fr g (by omega) (by omega) (by omega) i4, mSc_fr g (by omega) (by omega) i5, mSg_fr g (by omega) (by omega) (by omega) i6, mNow_fr g (by omega) i7⟩
theorem r_wipe {A : AS} (scr : List Int32) {s : MS} (h : IR A s) (Q : Option Value → HV → Prop) (hQ : ∀ s', Fr Ft s s' → IR (f_wipe A).2 s' → Q (some (.int (f_wipe A).1)) (hp scr s')) : X_R_wipe [.ref 65] (hp scr s) Q := by
  obtain ⟨i1, i2, i3, i4, i5, i6⟩ := h
  have e1 := i1.1
  simp [X_R_wipe, B_R_wipe, eV, eI, eL, eR, e1, e2, eDI, eDL, eFI, eFL, eFR, eAI, eAZ, eAR, eLen, aN, aC, xV, xS, eX, eIf, eC_b, cA, cO, cN, sSk, sSq, sI, sL, sR, sInc, sF, sFO, sAI, sAZ, sAO, sX, sXp, sIf, sCut, sSqs, sSw, sRt, sRz_g, is01_b, is01_0, is01_1, sRv, sBk, sCt, sCp, lset, lclr, lcut, lini, lx, Value.category, ixOf, b2i_0, b2i_1, T_R, U_R, e1]
  have g : Fr (fun r k => r = 65 ∧ k = 1) s (up s 65 1 0) := Fr.rf.up _ (by omega)
  exact hQ _ (g.wk fun r k z => by omega) ⟨⟨by simp [up_get]; rfl, fun q hq => absurd hq (Nat.not_lt_zero q)⟩, mR_fr g (by omega) (by omega) i2, mRw_fr g (by omega) i3, mAr_fr g (by omega) (by omega) (by omega) i4, mSr_fr g (by omega) (by omega) i5, mSg_fr g (by omega) (by omega) (by omega) i6⟩
theorem ok_wipe {A : AS} (hA : okA A) : okA (f_wipe A).2 := ⟨⟨by simp [f_wipe, aT], by simp [f_wipe, aT]⟩, hA.2⟩
/-! see, unsee -/
def wS (A : AS) (l : List (Nat × Int32)) : AS := (aT A, aP A, aR A, aH A, aK A, l, aX A)
def f_see (A : AS) (x v : Int32) : Int32 × AS := if rng 0 15 x then (if (aS A).length < 6 then (nI ((aS A).length + 1), wS A (aS A ++ [(x.toNatClampNeg, v)])) else (-4, A)) else (-1, A)
theorem c_see {A : AS} (hA : okA A) (scr : List Int32) {s : MS} (h : IC A s) (x v : Int32) (Q : Option Value → HV → Prop) (hQ : ∀ s', Fr Fc s s' → IC (f_see A x v).2 s' → Q (some (.int (f_see A x v).1)) (hp scr s')) : X_PL_see [.ref 2, .int x, .int v] (hp scr s) Q := by
  have l6 := hA.2.2.2.2.2.1
  unfold f_see at hQ
  simp [X_PL_see, B_PL_see, lini, lx, Value.category]
  rw [sSq_if (t := !rng 0 15 x) (by intro K; simp [eV, eI, eL, eR, e1, e2, eDI, eDL, eFI, eFL, eFR, eAI, eAZ, eAR, eLen, aN, aC, xV, xS, eX, eIf, eC_b, cA, cO, cN, sSk, sSq, sI, sL, sR, sInc, sF, sFO, sAI, sAZ, sAO, sX, sXp, sIf, sCut, sSqs, sSw, sRt, sRz_g, is01_b, is01_0, is01_1, sRv, sBk, sCt, sCp, lset, lclr, lcut, lini, lx, Value.category, ixOf, b2i_0, b2i_1]; exact cO_rng2 (by decide))]
  cases hr : rng 0 15 x with
  | false =>
    rw [hr] at hQ
    simp [eV, eI, eL, eR, e1, e2, eDI, eDL, eFI, eFL, eFR, eAI, eAZ, eAR, eLen, aN, aC, xV, xS, eX, eIf, eC_b, cA, cO, cN, sSk, sSq, sI, sL, sR, sInc, sF, sFO, sAI, sAZ, sAO, sX, sXp, sIf, sCut, sSqs, sSw, sRt, sRz_g, is01_b, is01_0, is01_1, sRv, sBk, sCt, sCp, lset, lclr, lcut, lini, lx, Value.category, ixOf, b2i_0, b2i_1]
    exact hQ s Fr.rf h
  | true =>
    obtain ⟨n, hn, rfl⟩ := rng_n (N := 15) (by decide) hr
    rw [hr, nI_clamp (by omega)] at hQ
    have h1 := h.2.2.2.2.2.1
    have e1 := h1.1
    simp [eV, eI, eL, eR, e1, e2, eDI, eDL, eFI, eFL, eFR, eAI, eAZ, eAR, eLen, aN, aC, xV, xS, eX, eIf, eC_b, cA, cO, cN, sSk, sSq, sI, sL, sR, sInc, sF, sFO, sAI, sAZ, sAO, sX, sXp, sIf, sCut, sSqs, sSw, sRt, sRz_g, is01_b, is01_0, is01_1, sRv, sBk, sCt, sCp, lset, lclr, lcut, lini, lx, Value.category, ixOf, b2i_0, b2i_1, T_PL, X_Sights_add, B_Sights_add, T_Sights, U_Sights, G_Sights, e1]
    simp (disch := omega) only [LIT, L_0le, L_0lt, L_0eq, L_eq0, L_le0, L_lt0, L_1eq, L_eq1, L_1le, L_1lt, L_lt1, L_le1, L_p1, nI_ltI, nI_leI, nI_eq, nI_add, nI_clamp]
    simp only [ngI]
    by_cases c : 6 ≤ (aS A).length
    · have c2 : ¬ (aS A).length < 6 := by omega
      rw [if_pos c]
      have hQ := hQ s Fr.rf (by simp [c2]; exact h)
      simpa [c2] using hQ
    · have c2 : (aS A).length < 6 := by omega
      rw [if_neg c]
      simp [ix80 c2 (by decide), G_Sights, c2, T_Sights, U_Sights, up_get, e1, L_p1]
      have hQ := hQ (up (up (up s 33 (aS A).length (nI n)) 34 (aS A).length v) 32 2 (nI ((aS A).length + 1))) (((Fr.rf.up _ (by omega)).up _ (by omega)).up _ (by omega)) (by
        simp [c2]
        obtain ⟨i1, i2, i3, i4, i5, i6, i7⟩ := h
        have g : Fr (fun r k => r = 33 ∨ r = 34 ∨ (r = 32 ∧ k = 2)) s (up (up (up s 33 (aS A).length (nI n)) 34 (aS A).length v) 32 2 (nI ((aS A).length + 1))) := ((Fr.rf.up _ (by omega)).up _ (by omega)).up _ (by omega)
        exact ⟨mTx_fr g (by omega) (by omega) i1, mC_fr g (by omega) (by omega) i2, mRw_fr g (by omega) i3, mAc_fr g (by omega) (by omega) (by omega) i4, mSc_fr g (by omega) (by omega) i5, mSg_ap h1 (by simp [up_get]) (fun q => by simp [up_get]) (fun q => by simp [up_get]), mNow_fr g (by omega) i7⟩)
      simpa [c2] using hQ
theorem r_see {A : AS} (hA : okA A) (scr : List Int32) {s : MS} (h : IR A s) (x v : Int32) (Q : Option Value → HV → Prop) (hQ : ∀ s', Fr Ft s s' → IR (f_see A x v).2 s' → Q (some (.int (f_see A x v).1)) (hp scr s')) : X_R_see [.ref 65, .int x, .int v] (hp scr s) Q := by
  have l6 := hA.2.2.2.2.2.1
  unfold f_see at hQ
  simp [X_R_see, B_R_see, lini, lx, Value.category]
  rw [sSq_if (t := !rng 0 15 x) (by intro K; simp [eV, eI, eL, eR, e1, e2, eDI, eDL, eFI, eFL, eFR, eAI, eAZ, eAR, eLen, aN, aC, xV, xS, eX, eIf, eC_b, cA, cO, cN, sSk, sSq, sI, sL, sR, sInc, sF, sFO, sAI, sAZ, sAO, sX, sXp, sIf, sCut, sSqs, sSw, sRt, sRz_g, is01_b, is01_0, is01_1, sRv, sBk, sCt, sCp, lset, lclr, lcut, lini, lx, Value.category, ixOf, b2i_0, b2i_1, s_R_isAddress, nb])]
  cases hr : rng 0 15 x with
  | false =>
    rw [hr] at hQ
    simp [eV, eI, eL, eR, e1, e2, eDI, eDL, eFI, eFL, eFR, eAI, eAZ, eAR, eLen, aN, aC, xV, xS, eX, eIf, eC_b, cA, cO, cN, sSk, sSq, sI, sL, sR, sInc, sF, sFO, sAI, sAZ, sAO, sX, sXp, sIf, sCut, sSqs, sSw, sRt, sRz_g, is01_b, is01_0, is01_1, sRv, sBk, sCt, sCp, lset, lclr, lcut, lini, lx, Value.category, ixOf, b2i_0, b2i_1]
    exact hQ s Fr.rf h
  | true =>
    obtain ⟨n, hn, rfl⟩ := rng_n (N := 15) (by decide) hr
    rw [hr, nI_clamp (by omega)] at hQ
    have h1 := h.2.2.2.2.2
    have e1 := h1.1
    simp [eV, eI, eL, eR, e1, e2, eDI, eDL, eFI, eFL, eFR, eAI, eAZ, eAR, eLen, aN, aC, xV, xS, eX, eIf, eC_b, cA, cO, cN, sSk, sSq, sI, sL, sR, sInc, sF, sFO, sAI, sAZ, sAO, sX, sXp, sIf, sCut, sSqs, sSw, sRt, sRz_g, is01_b, is01_0, is01_1, sRv, sBk, sCt, sCp, lset, lclr, lcut, lini, lx, Value.category, ixOf, b2i_0, b2i_1, T_R, U_R, G_R, e1]
    simp (disch := omega) only [LIT, L_0le, L_0lt, L_0eq, L_eq0, L_le0, L_lt0, L_1eq, L_eq1, L_1le, L_1lt, L_lt1, L_le1, L_p1, nI_ltI, nI_leI, nI_eq, nI_add, nI_clamp]
    simp only [ngI]
    by_cases c : (aS A).length = 6
    · have c2 : ¬ (aS A).length < 6 := by omega
      rw [if_pos c]
      have hQ := hQ s Fr.rf (by simp [c2]; exact h)
      simpa [c2] using hQ
    · have c2 : (aS A).length < 6 := by omega
      rw [if_neg c]
      simp [ix80 c2 (by decide), G_R, c2, T_R, U_R, up_get, e1, L_p1]
      have hQ := hQ (up (up (up s 76 (aS A).length (nI n)) 77 (aS A).length v) 65 16 (nI ((aS A).length + 1))) (((Fr.rf.up _ (by omega)).up _ (by omega)).up _ (by omega)) (by
        simp [c2]
        obtain ⟨i1, i2, i3, i4, i5, i6⟩ := h
        have g : Fr (fun r k => r = 76 ∨ r = 77 ∨ (r = 65 ∧ k = 16)) s (up (up (up s 76 (aS A).length (nI n)) 77 (aS A).length v) 65 16 (nI ((aS A).length + 1))) := ((Fr.rf.up _ (by omega)).up _ (by omega)).up _ (by omega)
        exact ⟨mTx_fr g (by omega) (by omega) i1, mR_fr g (by omega) (by omega) i2, mRw_fr g (by omega) i3, mAr_fr g (by omega) (by omega) (by omega) i4, mSr_fr g (by omega) (by omega) i5, mSg_ap h1 (by simp [up_get]) (fun q => by simp [up_get]) (fun q => by simp [up_get])⟩)
      simpa [c2] using hQ
theorem ok_see {A : AS} (hA : okA A) (x v : Int32) : okA (f_see A x v).2 := by
  unfold f_see
  split
  · next h =>
    obtain ⟨n, hn, rfl⟩ := rng_n (N := 15) (by decide) h
    split
    · next c =>
      obtain ⟨a1, a2, a3, a4, a5, a6, a7⟩ := hA
      refine ⟨a1, a2, a3, a4, a5, by simp [wS, aS] at c ⊢; omega, fun y hy => ?_⟩
      rcases List.mem_append.mp hy with q | q
      · exact a7 y q
      · rw [List.mem_singleton.mp q]
        show (nI n).toNatClampNeg < 16
        rw [nI_clamp (by omega)]; omega
    · exact hA
  · exact hA
def f_unsee (A : AS) : Int32 × AS := (nI (aS A).length, wS A [])
theorem c_unsee {A : AS} (scr : List Int32) {s : MS} (h : IC A s) (Q : Option Value → HV → Prop) (hQ : ∀ s', Fr Fc s s' → IC (f_unsee A).2 s' → Q (some (.int (f_unsee A).1)) (hp scr s')) : X_PL_unsee [.ref 2] (hp scr s) Q := by
  obtain ⟨i1, i2, i3, i4, i5, i6, i7⟩ := h
  have e1 := i6.1
  simp [X_PL_unsee, B_PL_unsee, eV, eI, eL, eR, e1, e2, eDI, eDL, eFI, eFL, eFR, eAI, eAZ, eAR, eLen, aN, aC, xV, xS, eX, eIf, eC_b, cA, cO, cN, sSk, sSq, sI, sL, sR, sInc, sF, sFO, sAI, sAZ, sAO, sX, sXp, sIf, sCut, sSqs, sSw, sRt, sRz_g, is01_b, is01_0, is01_1, sRv, sBk, sCt, sCp, lset, lclr, lcut, lini, lx, Value.category, ixOf, b2i_0, b2i_1, T_PL, X_Sights_clear, B_Sights_clear, T_Sights, U_Sights, e1]
  have g : Fr (fun r k => r = 32 ∧ k = 2) s (up s 32 2 0) := Fr.rf.up _ (by omega)
  exact hQ _ (g.wk fun r k z => by omega) ⟨mTx_fr g (by omega) (by omega) i1, mC_fr g (by omega) (by omega) i2, mRw_fr g (by omega) i3, mAc_fr g (by omega) (by omega) (by omega) i4, mSc_fr g (by omega) (by omega) i5, ⟨by simp [up_get]; rfl, fun q hq => absurd hq (Nat.not_lt_zero q)⟩, mNow_fr g (by omega) i7⟩
theorem r_unsee {A : AS} (scr : List Int32) {s : MS} (h : IR A s) (Q : Option Value → HV → Prop) (hQ : ∀ s', Fr Ft s s' → IR (f_unsee A).2 s' → Q (some (.int (f_unsee A).1)) (hp scr s')) : X_R_unsee [.ref 65] (hp scr s) Q := by
  obtain ⟨i1, i2, i3, i4, i5, i6⟩ := h
  have e1 := i6.1
  simp [X_R_unsee, B_R_unsee, eV, eI, eL, eR, e1, e2, eDI, eDL, eFI, eFL, eFR, eAI, eAZ, eAR, eLen, aN, aC, xV, xS, eX, eIf, eC_b, cA, cO, cN, sSk, sSq, sI, sL, sR, sInc, sF, sFO, sAI, sAZ, sAO, sX, sXp, sIf, sCut, sSqs, sSw, sRt, sRz_g, is01_b, is01_0, is01_1, sRv, sBk, sCt, sCp, lset, lclr, lcut, lini, lx, Value.category, ixOf, b2i_0, b2i_1, T_R, U_R, e1]
  have g : Fr (fun r k => r = 65 ∧ k = 16) s (up s 65 16 0) := Fr.rf.up _ (by omega)
  exact hQ _ (g.wk fun r k z => by omega) ⟨mTx_fr g (by omega) (by omega) i1, mR_fr g (by omega) (by omega) i2, mRw_fr g (by omega) i3, mAr_fr g (by omega) (by omega) (by omega) i4, mSr_fr g (by omega) (by omega) i5, ⟨by simp [up_get]; rfl, fun q hq => absurd hq (Nat.not_lt_zero q)⟩⟩
theorem ok_unsee {A : AS} (hA : okA A) : okA (f_unsee A).2 := by
  obtain ⟨a1, a2, a3, a4, a5, a6, a7⟩ := hA
  exact ⟨a1, a2, a3, a4, a5, by simp [f_unsee, wS, aS], by simp [f_unsee, wS, aS]⟩
