/-- all below n -/
def allB (p : Nat → Bool) : Nat → Bool
  | 0 => true
  | n + 1 => allB p n && p n
theorem allB_iff (p : Nat → Bool) : ∀ n, (allB p n = true) = ∀ k, k < n → p k = true
  | 0 => by simp [allB]
  | n + 1 => by
    rw [allB, Bool.and_eq_true, allB_iff p n]
    apply propext
    constructor
    · rintro ⟨a, b⟩ k hk
      rcases Nat.lt_succ_iff_lt_or_eq.mp hk with q | q
      · exact a k q
      · rw [q]; exact b
    · intro h
      exact ⟨fun k hk => h k (by omega), h n (by omega)⟩
theorem allB_no {p : Nat → Bool} {k n : Nat} (h : allB p k = false) (hk : k ≤ n) : allB p n = false := by
  cases e : allB p n with
  | false => rfl
  | true =>
    rw [allB_iff] at e
    have : allB p k = true := by rw [allB_iff]; intro i hi; exact e i (by omega)
    rw [h] at this
    exact absurd this (by simp)
/-! what makes a bundle a pack -/
def pOv (d : Nat → Nat → Bool) (b : List Nat) (k l : Nat) : Bool := decide (ln b l ≠ ln b k) && !d (ln b l) (ln b k) && !d (ln b k) (ln b l)
def pLn (P : PC) (d : Nat → Nat → Bool) (b : List Nat) (k : Nat) : Bool := decide (pK P (ln b k) = pK P (ln b 0)) && allB (pOv d b k) k && (!pMem P (ln b k) || decide (pa P (ln b k) = pa P (ln b 0)) && decide (pb P (ln b k) = pb P (ln b 0) + k))
def pHd (P : PC) (b : List Nat) : Bool := decide (pK P (ln b 0) ≠ 1) && decide (pK P (ln b 0) ≠ 5)
def pPk (P : PC) (d : Nat → Nat → Bool) (w : Nat) (b : List Nat) : Bool := pHd P b && allB (pLn P d b) w
def wfP (P : PC) (w : Nat) (b : List Nat) : Prop := b.length = w ∧ ∀ x, x ∈ b → x < P.1
theorem wfP_ln {P : PC} {w : Nat} {b : List Nat} (h : wfP P w b) {k : Nat} (hk : k < w) : ln b k < P.1 := by
  refine h.2 _ ?_
  unfold ln
  rw [List.getD_eq_getElem?_getD, List.getElem?_eq_getElem (by rw [h.1]; exact hk)]
  exact List.getElem_mem _
def mB (w a : Nat) (b : List Nat) (s : MS) : Prop := ∀ k, k < w → s.1 84 (a + k) = nI (ln b k)
theorem ix80 {i n : Nat} (h : i < n) (hn : n ≤ 2 ^ 31) : i < n ∧ (nI i).toNatClampNeg = i ∧ 0 ≤ nI i := ⟨h, nI_clamp (by omega), nI_pos' (by omega)⟩
theorem pLn_0 (P : PC) (d : Nat → Nat → Bool) (b : List Nat) : pLn P d b 0 = true := by simp [pLn, allB]
theorem s_R_isPack {P : PC} (scr : List Int32) {s : MS} (hP : okP P) (hm : mR P s) {f : Nat → Nat → Bool} (hf : mFD f 78 79 P.1 s) {w : Nat} (hw : w = 2 ∨ w = 4) (hwd : s.1 65 19 = nI w) {b : List Nat} (hb : wfP P w b) {a : Nat} (ha : a + 4 ≤ 80) (hB : mB w a b s) (Q : Option Value → HV → Prop)
    (h : Q (some (.int (b2i (pPk P (pDep f) w b)))) (hp scr s)) : X_R_isPack [.ref 65, .int (nI a)] (hp scr s) Q := by
  have h16 := hP.1
  have L0 := wfP_ln hb (show 0 < w by omega)
  have k0 := (hP.2 _ L0).1
  have B0 := hB 0 (by omega)
  rw [Nat.add_zero] at B0
  simp [X_R_isPack, B_R_isPack, lini, lx, Value.category]
  rw [sSq_I (v := nI (ln b 0)) (h' := hp scr s) ?h1 (by simp)]
  case h1 =>
    intro K
    simp [eV, eI, eL, eR, e1, e2, eDI, eDL, eFI, eFL, eFR, eAI, eAZ, eAR, eLen, aN, aC, xV, xS, eX, eIf, eC_b, cA, cO, cN, sSk, sSq, sI, sL, sR, sInc, sF, sFO, sAI, sAZ, sAO, sX, sXp, sIf, sCut, sSqs, sSw, sRt, sRz_g, is01_b, is01_0, is01_1, sRv, sBk, sCt, sCp, lset, lclr, lcut, lini, lx, Value.category, ixOf, b2i_0, b2i_1, T_R, G_R, ix80 (show a < 80 by omega) (by decide), B0]
  simp only [lset]
  rw [sSq_C (t := pHd P b) ?h2 (by simp [lset])]
  case h2 =>
    intro K
    simp [eV, eI, eL, eR, e1, e2, eDI, eDL, eFI, eFL, eFR, eAI, eAZ, eAR, eLen, aN, aC, xV, xS, eX, eIf, eC_b, cA, cO, cN, sSk, sSq, sI, sL, sR, sInc, sF, sFO, sAI, sAZ, sAO, sX, sXp, sIf, sCut, sSqs, sSw, sRt, sRz_g, is01_b, is01_0, is01_1, sRv, sBk, sCt, sCp, lset, lclr, lcut, lini, lx, Value.category, ixOf, b2i_0, b2i_1, T_R, G_R, ixf hP.1 L0, hm.2 _ L0]
    simp (disch := omega) only [LIT, L_0le, L_0lt, L_0eq, L_eq0, L_le0, L_lt0, L_1eq, L_eq1, L_1le, L_1lt, L_lt1, L_le1, L_p1, nI_ltI, nI_leI, nI_eq, nI_add, nI_clamp]
    unfold pHd
    by_cases c1 : pK P (ln b 0) = 1 <;> by_cases c2 : pK P (ln b 0) = 5 <;> simp_all
  simp [eV, eI, eL, eR, e1, e2, eDI, eDL, eFI, eFL, eFR, eAI, eAZ, eAR, eLen, aN, aC, xV, xS, eX, eIf, eC_b, cA, cO, cN, sSk, sSq, sI, sL, sR, sInc, sF, sFO, sAI, sAZ, sAO, sX, sXp, sIf, sCut, sSqs, sSw, sRt, sRz_g, is01_b, is01_0, is01_1, sRv, sBk, sCt, sCp, lset, lclr, lcut, lini, lx, Value.category, ixOf, b2i_0, b2i_1, lset]
  refine lp_ind (fun z ls h => ∃ k, z = w - k ∧ 1 ≤ k ∧ k ≤ w ∧ ls = [.ref 65, .int (nI a), .int (nI (ln b 0)), .int (b2i (pHd P b && allB (pLn P (pDep f) b) k)), .int (nI k), .null, .null, .null] ∧ h = hp scr s) ?_ ⟨1, rfl, by omega, by omega, by simp [allB, pLn_0]; rfl, rfl⟩
  rintro z ls h' ⟨k, hz, hk1, hk, rfl, rfl⟩ X hX
  simp [eV, eI, eL, eR, e1, e2, eDI, eDL, eFI, eFL, eFR, eAI, eAZ, eAR, eLen, aN, aC, xV, xS, eX, eIf, eC_b, cA, cO, cN, sSk, sSq, sI, sL, sR, sInc, sF, sFO, sAI, sAZ, sAO, sX, sXp, sIf, sCut, sSqs, sSw, sRt, sRz_g, is01_b, is01_0, is01_1, sRv, sBk, sCt, sCp, lset, lclr, lcut, lini, lx, Value.category, ixOf, b2i_0, b2i_1, T_R, hwd]
  simp (disch := omega) only [LIT, L_0le, L_0lt, L_0eq, L_eq0, L_le0, L_lt0, L_1eq, L_eq1, L_1le, L_1lt, L_lt1, L_le1, L_p1, nI_ltI, nI_leI, nI_eq, nI_add, nI_clamp]
  split
  · next hlt =>
    have Lk := wfP_ln hb hlt
    split
    · next hG =>
      rw [show (pHd P b && allB (pLn P (pDep f) b) k) = pPk P (pDep f) w b from ?e]
      · exact h
      case e =>
        unfold pPk
        cases e1' : pHd P b with
        | false => rfl
        | true => rw [hG e1', allB_no (hG e1') hk]
    · next hG =>
      have hG1 : pHd P b = true := by
        cases e1' : pHd P b with
        | true => rfl
        | false => exact absurd (fun q => absurd (e1'.symm.trans q) (by simp)) hG
      have hG2 : allB (pLn P (pDep f) b) k = true := by
        cases e1' : allB (pLn P (pDep f) b) k with
        | true => rfl
        | false => exact absurd (fun _ => e1') hG
      have kk := (hP.2 _ Lk).1
      simp [hB k hlt, G_R, T_R, ix80 (show a + k < 80 by omega) (by decide), ixf hP.1 Lk, ixf hP.1 L0, hm.2 _ Lk, hm.2 _ L0, nI_pos']
      simp (disch := omega) only [LIT, L_0le, L_0lt, L_0eq, L_eq0, L_le0, L_lt0, L_1eq, L_eq1, L_1le, L_1lt, L_lt1, L_le1, L_p1, nI_ltI, nI_leI, nI_eq, nI_add, nI_clamp]
      refine lp_ind (fun z ls h => ∃ l, z = k - l ∧ l ≤ k ∧ ls = [.ref 65, .int (nI a), .int (nI (ln b 0)), .int (b2i (decide (pK P (ln b k) = pK P (ln b 0)) && allB (pOv (pDep f) b k) l)), .int (nI k), .int (nI (ln b k)), .int (nI l), .null] ∧ h = hp scr s) ?_ ⟨0, rfl, by omega, by simp [allB]; rfl, rfl⟩
      rintro z2 ls h' ⟨l, hz2, hl, rfl, rfl⟩ X2 hX2
      have fin : ∀ t : Bool, t = (decide (pK P (ln b k) = pK P (ln b 0)) && allB (pOv (pDep f) b k) k) → (if t = false then X [.ref 65, .int (nI a), .int (nI (ln b 0)), .int (b2i t), .int (nI (k + 1)), .null, .null, .null] (hp scr s) else if pMem P (ln b k) = false then X [.ref 65, .int (nI a), .int (nI (ln b 0)), .int (b2i t), .int (nI (k + 1)), .null, .null, .null] (hp scr s) else X [.ref 65, .int (nI a), .int (nI (ln b 0)), .int (b2i (decide (pa P (ln b k) = pa P (ln b 0)) && decide (pb P (ln b k) = pb P (ln b 0) + k))), .int (nI (k + 1)), .null, .null, .null] (hp scr s)) := by
        intro t ht
        have hE : (pHd P b && allB (pLn P (pDep f) b) (k + 1)) = (t && (!pMem P (ln b k) || decide (pa P (ln b k) = pa P (ln b 0)) && decide (pb P (ln b k) = pb P (ln b 0) + k))) := by
          rw [allB, hG1, hG2, ht]
          simp [pLn]
        have go := fun (x : Bool) (hx : (pHd P b && allB (pLn P (pDep f) b) (k + 1)) = x) => hX (w - (k + 1)) [.ref 65, .int (nI a), .int (nI (ln b 0)), .int (b2i x), .int (nI (k + 1)), .null, .null, .null] (hp scr s) (by omega) ⟨k + 1, rfl, by omega, by omega, by rw [hx], rfl⟩
        split
        · next q => exact go _ (by rw [hE, q]; rfl)
        · next q =>
          simp only [Bool.not_eq_false] at q
          split
          · next r => exact go _ (by rw [hE, r, q]; rfl)
          · next r =>
            simp only [Bool.not_eq_false] at r
            exact go _ (by rw [hE, r, q]; rfl)
      have hl0 : ∀ u : Bool, (decide (pK P (ln b k) = pK P (ln b 0)) && allB (pOv (pDep f) b k) l) = u → u = false → (decide (pK P (ln b k) = pK P (ln b 0)) && allB (pOv (pDep f) b k) k) = false := by
        rintro u h1 rfl
        rw [Bool.and_eq_false_iff] at h1 ⊢
        exact h1.imp id fun q => allB_no q hl
      have hl1 : ∀ u : Bool, (decide (pK P (ln b k) = pK P (ln b 0)) && allB (pOv (pDep f) b k) l) = u → (decide (pK P (ln b k) = pK P (ln b 0)) && allB (pOv (pDep f) b k) (l + 1)) = (u && pOv (pDep f) b k l) := by
        rintro u rfl
        rw [allB, Bool.and_assoc]
      have hl2 : ∀ u : Bool, (decide (pK P (ln b k) = pK P (ln b 0)) && allB (pOv (pDep f) b k) l) = u → u = true → pK P (ln b k) = pK P (ln b 0) := by
        rintro u rfl h1
        simp at h1
        exact h1.1
      have hl3 : ∀ u : Bool, (decide (pK P (ln b k) = pK P (ln b 0)) && allB (pOv (pDep f) b k) l) = u → l = k → u = (decide (pK P (ln b k) = pK P (ln b 0)) && allB (pOv (pDep f) b k) k) := by
        rintro u rfl h1
        rw [h1]
      generalize (decide (pK P (ln b k) = pK P (ln b 0)) && allB (pOv (pDep f) b k) l) = u at hl0 hl1 hl2 hl3 ⊢
      have hl3 := hl3 u rfl
      have hl0 := hl0 u rfl
      have hl1 := hl1 u rfl
      have hl2 := hl2 u rfl
      have fin := fin u
      have lk : u = true → pMem P (ln b k) = true → (pa P (ln b k) < 2 ∧ pb P (ln b k) < 8) ∧ (pa P (ln b 0) < 2 ∧ pb P (ln b 0) < 8) ∧ s.1 69 (ln b k) = nI (pb P (ln b k)) ∧ s.1 69 (ln b 0) = nI (pb P (ln b 0)) := by
        intro q1 q2
        have q3 : pMem P (ln b 0) = true := by
          unfold pMem at q2 ⊢
          rw [← hl2 q1]
          exact q2
        obtain ⟨n1, n2⟩ := memf hP Lk q2
        obtain ⟨n3, n4⟩ := memf hP L0 q3
        exact ⟨n2, n4, (hm.2 _ Lk).2.2.1 n1, (hm.2 _ L0).2.2.1 n3⟩
      simp [eV, eI, eL, eR, e1, e2, eDI, eDL, eFI, eFL, eFR, eAI, eAZ, eAR, eLen, aN, aC, xV, xS, eX, eIf, eC_b, cA, cO, cN, sSk, sSq, sI, sL, sR, sInc, sF, sFO, sAI, sAZ, sAO, sX, sXp, sIf, sCut, sSqs, sSw, sRt, sRz_g, is01_b, is01_0, is01_1, sRv, sBk, sCt, sCp, lset, lclr, lcut, lini, lx, Value.category, ixOf, b2i_0, b2i_1, T_R, s_R_isMemory scr hP hm Lk, b2i_0, G_R, ixf hP.1 Lk, ixf hP.1 L0, (hm.2 _ Lk).2.1, (hm.2 _ L0).2.1]
      simp (disch := omega) only [LIT, L_0le, L_0lt, L_0eq, L_eq0, L_le0, L_lt0, L_1eq, L_eq1, L_1le, L_1lt, L_lt1, L_le1, L_p1, nI_ltI, nI_leI, nI_eq, nI_add, nI_clamp]
      have fe : u = (decide (pK P (ln b k) = pK P (ln b 0)) && allB (pOv (pDep f) b k) k) → (if u = false then X [.ref 65, .int (nI a), .int (nI (ln b 0)), .int (b2i u), .int (nI (k + 1)), .null, .null, .null] (hp scr s) else if pMem P (ln b k) = false then X [.ref 65, .int (nI a), .int (nI (ln b 0)), .int (b2i u), .int (nI (k + 1)), .null, .null, .null] (hp scr s) else X [.ref 65, .int (nI a), .int (nI (ln b 0)), .int (b2i (decide (pa P (ln b k) = pa P (ln b 0)) && decide (pb P (ln b k) = pb P (ln b 0) + k))), .int (nI (k + 1)), .null, .null, .null] (hp scr s)) := fin
      split
      · next hlt2 =>
        split
        · next q =>
          have Ll := wfP_ln hb (show l < w by omega)
          have d1 := fun Q => t_has scr s (s.1 79 (ln b k)) (show ln b l < 32 by omega) Q
          have d2 := fun Q => t_has scr s (s.1 79 (ln b l)) (show ln b k < 32 by omega) Q
          rw [(hf _ Lk _ (by omega)).2] at d1
          rw [(hf _ Ll _ (by omega)).2] at d2
          have go := fun (x : Bool) (hx : pOv (pDep f) b k l = x) => hX2 (k - (l + 1)) [.ref 65, .int (nI a), .int (nI (ln b 0)), .int (b2i x), .int (nI k), .int (nI (ln b k)), .int (nI (l + 1)), .null] (hp scr s) (by omega) ⟨l + 1, rfl, by omega, by rw [hl1, q, hx, Bool.true_and], rfl⟩
          unfold pOv at go
          simp [hB l (by omega), G_R, T_R, ix80 (show a + l < 80 by omega) (by decide), ixf hP.1 Lk, ixf hP.1 Ll, nI_pos', d1, d2, b2i_0]
          simp (disch := omega) only [LIT, L_0le, L_0lt, L_0eq, L_eq0, L_le0, L_lt0, L_1eq, L_eq1, L_1le, L_1lt, L_lt1, L_le1, L_p1, nI_ltI, nI_leI, nI_eq, nI_add, nI_clamp]
          split
          · next r => exact go false (by simp [r])
          · next r =>
            split
            · next r2 => exact go false (by simp [r2])
            · next r2 =>
              simp only [Bool.not_eq_true] at r2
              have := go (!pDep f (ln b k) (ln b l)) (by simp [r, r2])
              cases e1' : pDep f (ln b k) (ln b l) <;> rw [e1'] at this <;> exact this
        · next q =>
          simp only [Bool.not_eq_true] at q
          rw [if_pos q] at fe
          exact fe (by rw [hl0 q, q])
      · next hge =>
        have : l = k := by omega
        have fe := fe (hl3 this)
        subst this
        cases u with
        | false => simpa using fe
        | true =>
          cases hmm : pMem P (ln b l) with
          | false =>
            rw [hmm] at fe
            simpa using fe
          | true =>
            obtain ⟨⟨x1, x2⟩, ⟨x3, x4⟩, x5, x6⟩ := lk rfl hmm
            rw [hmm] at fe
            simp at fe
            simp only [x5, x6, nI_add, if_true]
            simp (disch := omega) only [LIT, L_0le, L_0lt, L_0eq, L_eq0, L_le0, L_lt0, L_1eq, L_eq1, L_1le, L_1lt, L_lt1, L_le1, L_p1, nI_ltI, nI_leI, nI_eq, nI_add, nI_clamp]
            by_cases c1 : pa P (ln b l) = pa P (ln b 0)
            · simpa [c1] using fe
            · simpa [c1] using fe
  · have : k = w := by omega
    subst this
    exact h
