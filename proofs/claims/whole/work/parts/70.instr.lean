theorem LRu {P : PC} {w c : Nat} {K : List (List Nat)} {s : MS} (hP : okP P) (hK : ∀ B, B ∈ K → wfP P w B) (hn : K.flatten.Nodup) {i : Nat} : K.flatten.contains i = true → ∃ p k, p < K.length ∧ k < w ∧ ln (K.getD p []) k = i ∧ lstO (fun p => (K.getD p []).contains i) K.length = some p ∧ lstO (fun k => decide (ln (K.getD p []) k = i)) w = some k := by
  intro hc
  obtain ⟨p, k, hp1, hk, e⟩ := (in_flat hP hK).mp hc
  have hB := hK _ (getD_mem hp1)
  have hBn := flat_nd hn _ (getD_mem hp1)
  have im : i ∈ K.getD p [] := by rw [← e]; exact ln_mem (wfP_B hP hB) hk
  refine ⟨p, k, hp1, hk, e, lstO_eq ⟨Nat.zero_le _, hp1, by simpa using im, fun q _ hq => ?_⟩, lstO_eq ⟨Nat.zero_le _, hk, by simpa using e, fun j _ hj => ?_⟩⟩
  · rw [Bool.eq_false_iff]
    intro z
    have := flat_ix hn q p (by omega) hp1 i (by simpa using z) im
    omega
  · rw [Bool.eq_false_iff]
    intro z
    have z : ln (K.getD p []) j = i := by simpa using z
    have := ln_inj hB.1 hBn (by omega) hk (z.trans e.symm)
    omega
def nmK (K : List (List Nat)) (i : Nat) : Int32 := vO (lstO (fun p => (K.getD p []).contains i) K.length)
def laK (K : List (List Nat)) (w i : Nat) : Int32 := match lstO (fun p => (K.getD p []).contains i) K.length with
  | some p => vO (lstO (fun k => decide (ln (K.getD p []) k = i)) w)
  | none => -9
theorem no_ix {K : List (List Nat)} {i : Nat} (hc : K.flatten.contains i = false) : lstO (fun p => (K.getD p []).contains i) K.length = none := by
  refine lstO_eq (o := none) fun p _ hp1 => ?_
  rw [Bool.eq_false_iff] at hc ⊢
  intro z
  exact hc (by rw [List.contains_iff_mem]; exact List.mem_flatten.mpr ⟨_, getD_mem hp1, by simpa using z⟩)
theorem NR_val {P : PC} {w c : Nat} {K : List (List Nat)} {s : MS} (hP : okP P) (hK : ∀ B, B ∈ K → wfP P w B) (hn : K.flatten.Nodup) (h : NR P w c K s) {i : Nat} (hi : i < P.1) : s.1 c i = nmK K i := by
  unfold nmK
  cases hc : K.flatten.contains i with
  | false => rw [no_ix hc, h.1 i hi hc]; rfl
  | true =>
    obtain ⟨p, k, h1, h2, e, h3, h4⟩ := LRu (s := s) (c := c) hP hK hn hc
    rw [h3, ← e]
    exact h.2 p h1 k h2
theorem LR_val {P : PC} {w c : Nat} {K : List (List Nat)} {s : MS} (hP : okP P) (hK : ∀ B, B ∈ K → wfP P w B) (hn : K.flatten.Nodup) (h : LR P w c K s) {i : Nat} (hi : i < P.1) : s.1 c i = laK K w i := by
  unfold laK
  cases hc : K.flatten.contains i with
  | false => rw [no_ix hc, h.1 i hi hc]
  | true =>
    obtain ⟨p, k, h1, h2, e, h3, h4⟩ := LRu (s := s) (c := c) hP hK hn hc
    rw [h3]
    dsimp only
    rw [h4, ← e]
    exact h.2 p h1 k h2
theorem okc_of {P : PC} {w : Row} (hP : okP P) (ok : okRow w) : okC P no (rW w) (chs P w no).1 := (cAt_ok (P := P) (f := fol P w no) (out := no) hP ok.1.2.2 (by simp [no]) (2 * (9 - rW w))).1
/-- how many an instruction depends on -/
def dpn (P : PC) (w : Row) (i : Nat) : Nat := cnt (fun k => pDep (fol P w no) k i) 16
theorem mk_setN {x : Int32} {D : Nat → Bool} (h : mk x D) (hD : ∀ k, D k = true → k < 16) : x = nI (setN (fl D 16)) ∧ setN (fl D 16) < 65536 := by
  refine ⟨mk_eq h fun i hi => ?_, setN_lt fun x hx => (mem_fl.mp hx).1⟩
  rw [bt_nI, setN_bit, decide_eq_true hi, Bool.true_and, Bool.eq_iff_iff, List.contains_iff_mem, mem_fl]
  exact ⟨fun z => z.2, fun z => ⟨hD i z, z⟩⟩
theorem cnt_setN {D : Nat → Bool} : cnt (fun i => (setN (fl D 16)).testBit i) 16 = cnt D 16 := cnt_cong fun k hk => by
  rw [setN_bit, Bool.eq_iff_iff, List.contains_iff_mem, mem_fl]
  exact ⟨fun z => z.2, fun z => ⟨hk, z⟩⟩
def inA (A : AS) (x y : Int32) : Int32 := if isI (aP A) x then
    (if y = 0 then nI (pK (aP A) x.toNatClampNeg) else if y = 1 then nmK (chs (aP A) (aR A) no).1 x.toNatClampNeg else if y = 2 then laK (chs (aP A) (aR A) no).1 (rW (aR A)) x.toNatClampNeg else if y = 3 then nI ((ord (aP A) (aR A)).2.2.1 x.toNatClampNeg) else if y = 4 then nI (dpn (aP A) (aR A) x.toNatClampNeg) else if y = 5 then (rnA (aP A) (aR A)).2.1 x.toNatClampNeg else -2) else -1
theorem c_instr {A : AS} (hA : okA A) (scr : List Int32) {s : MS} (h : IC A s) (x y : Int32) (Q : Option Value → HV → Prop) (hQ : ∀ s', Fr Fc s s' → IC A s' → Q (some (.int (inA A x y))) (hp scr s')) : X_PL_instruction [.ref 2, .int x, .int y] (hp scr s) Q := by
  have h' := h
  have h0 := hQ s Fr.rf h
  have fm := fun s' (g : Fr FM s s') => hQ s' (g.wk fun r k z => by omega) (IC_fr g (by omega) h')
  have okw := hA.2.2.1
  have hP := hA.2.1
  have h16 := hP.1
  obtain ⟨i1, i2, i3, i4, i5, i6, i7⟩ := h
  have okc := okc_of hP okw
  have T3 := T_Pack p34 scr s
  have G3 := G_Pack p34
  unfold inA at h0 fm
  simp [X_PL_instruction, B_PL_instruction, lini, lx, Value.category]
  rw [sSq_if (t := !isI (aP A) x) (by intro K; simp [eV, eI, eL, eR, e1, e2, eDI, eDL, eFI, eFL, eFR, eAI, eAZ, eAR, eLen, aN, aC, xV, xS, eX, eIf, eC_b, cA, cO, cN, sSk, sSq, sI, sL, sR, sInc, sF, sFO, sAI, sAZ, sAO, sX, sXp, sIf, sCut, sSqs, sSw, sRt, sRz_g, is01_b, is01_0, is01_1, sRv, sBk, sCt, sCp, lset, lclr, lcut, lini, lx, Value.category, ixOf, b2i_0, b2i_1, T_PL, T_Code c6, t_Code_has scr hP i2, nb])]
  cases hr : isI (aP A) x with
  | false =>
    rw [hr] at h0
    simp [eV, eI, eL, eR, e1, e2, eDI, eDL, eFI, eFL, eFR, eAI, eAZ, eAR, eLen, aN, aC, xV, xS, eX, eIf, eC_b, cA, cO, cN, sSk, sSq, sI, sL, sR, sInc, sF, sFO, sAI, sAZ, sAO, sX, sXp, sIf, sCut, sSqs, sSw, sRt, sRz_g, is01_b, is01_0, is01_1, sRv, sBk, sCt, sCp, lset, lclr, lcut, lini, lx, Value.category, ixOf, b2i_0, b2i_1]
    simpa using h0
  | true =>
    obtain ⟨i, hi, rfl⟩ := isI_n hP hr
    rw [hr, nI_clamp (by omega)] at h0 fm
    have v1 := NR_val hP okc.1 okc.2.1 i7.2.1.2.2.2.2.2.2.1 hi
    have v2 := LR_val hP okc.1 okc.2.1 i7.2.1.2.2.2.2.2.2.2 hi
    have v3 := i7.2.2.2 i hi
    have v4 : mk (s.1 43 i) (fun k => pDep (fol (aP A) (aR A) no) k i) := fun k hk => (i7.1 i hi k hk).2
    obtain ⟨v5, v6⟩ := mk_setN v4 fun k hk => by have := pDep_lt _ _ hk; omega
    have v7 : s.1 7 i = nI (pK (aP A) i) := (mC6 i2 hi).1
    simp only [Bool.not_true, Bool.false_eq_true, if_false, sSk_eq]
    by_cases y0 : y = 0
    · subst y0
      simp [eV, eI, eL, eR, e1, e2, eDI, eDL, eFI, eFL, eFR, eAI, eAZ, eAR, eLen, aN, aC, xV, xS, eX, eIf, eC_b, cA, cO, cN, sSk, sSq, sI, sL, sR, sInc, sF, sFO, sAI, sAZ, sAO, sX, sXp, sIf, sCut, sSqs, sSw, sRt, sRz_g, is01_b, is01_0, is01_1, sRv, sBk, sCt, sCp, lset, lclr, lcut, lini, lx, Value.category, ixOf, b2i_0, b2i_1, T_PL, T_Code c6, G6, ixf hP.1 hi, v7]
      simpa using h0
    by_cases y1 : y = 1
    · subst y1
      simp [eV, eI, eL, eR, e1, e2, eDI, eDL, eFI, eFL, eFR, eAI, eAZ, eAR, eLen, aN, aC, xV, xS, eX, eIf, eC_b, cA, cO, cN, sSk, sSq, sI, sL, sR, sInc, sF, sFO, sAI, sAZ, sAO, sX, sXp, sIf, sCut, sSqs, sSw, sRt, sRz_g, is01_b, is01_0, is01_1, sRv, sBk, sCt, sCp, lset, lclr, lcut, lini, lx, Value.category, ixOf, b2i_0, b2i_1, T_PL, T3, G3, ixf hP.1 hi, v1]
      simpa using h0
    by_cases y2 : y = 2
    · subst y2
      simp [eV, eI, eL, eR, e1, e2, eDI, eDL, eFI, eFL, eFR, eAI, eAZ, eAR, eLen, aN, aC, xV, xS, eX, eIf, eC_b, cA, cO, cN, sSk, sSq, sI, sL, sR, sInc, sF, sFO, sAI, sAZ, sAO, sX, sXp, sIf, sCut, sSqs, sSw, sRt, sRz_g, is01_b, is01_0, is01_1, sRv, sBk, sCt, sCp, lset, lclr, lcut, lini, lx, Value.category, ixOf, b2i_0, b2i_1, T_PL, T3, G3, ixf hP.1 hi, v2]
      simpa using h0
    by_cases y3 : y = 3
    · subst y3
      simp [eV, eI, eL, eR, e1, e2, eDI, eDL, eFI, eFL, eFR, eAI, eAZ, eAR, eLen, aN, aC, xV, xS, eX, eIf, eC_b, cA, cO, cN, sSk, sSq, sI, sL, sR, sInc, sF, sFO, sAI, sAZ, sAO, sX, sXp, sIf, sCut, sSqs, sSw, sRt, sRz_g, is01_b, is01_0, is01_1, sRv, sBk, sCt, sCp, lset, lclr, lcut, lini, lx, Value.category, ixOf, b2i_0, b2i_1, T_PL, T3, G3, ixf hP.1 hi, v3]
      simpa using h0
    by_cases y4 : y = 4
    · subst y4
      simp [eV, eI, eL, eR, e1, e2, eDI, eDL, eFI, eFL, eFR, eAI, eAZ, eAR, eLen, aN, aC, xV, xS, eX, eIf, eC_b, cA, cO, cN, sSk, sSq, sI, sL, sR, sInc, sF, sFO, sAI, sAZ, sAO, sX, sXp, sIf, sCut, sSqs, sSw, sRt, sRz_g, is01_b, is01_0, is01_1, sRv, sBk, sCt, sCp, lset, lclr, lcut, lini, lx, Value.category, ixOf, b2i_0, b2i_1, T_PL, T3, G3, ixf hP.1 hi]
      rw [v5, s_bitCount scr s v6, cnt_setN]
      simpa [dpn] using h0
    by_cases y5 : y = 5
    · subst y5
      simp [eV, eI, eL, eR, e1, e2, eDI, eDL, eFI, eFL, eFR, eAI, eAZ, eAR, eLen, aN, aC, xV, xS, eX, eIf, eC_b, cA, cO, cN, sSk, sSq, sI, sL, sR, sInc, sF, sFO, sAI, sAZ, sAO, sX, sXp, sIf, sCut, sSqs, sSw, sRt, sRz_g, is01_b, is01_0, is01_1, sRv, sBk, sCt, sCp, lset, lclr, lcut, lini, lx, Value.category, ixOf, b2i_0, b2i_1, T_PL, T_Mach]
      refine c_runA hA scr h' _ fun s1 g1 g2 => ⟨rfl, ?_⟩
      simp [T_PL, T_Mach, G_Mach, ixf hP.1 hi, g2.2.1 i (by omega)]
      simpa using fm s1 g1
    simp [eV, eI, eL, eR, e1, e2, eDI, eDL, eFI, eFL, eFR, eAI, eAZ, eAR, eLen, aN, aC, xV, xS, eX, eIf, eC_b, cA, cO, cN, sSk, sSq, sI, sL, sR, sInc, sF, sFO, sAI, sAZ, sAO, sX, sXp, sIf, sCut, sSqs, sSw, sRt, sRz_g, is01_b, is01_0, is01_1, sRv, sBk, sCt, sCp, lset, lclr, lcut, lini, lx, Value.category, ixOf, b2i_0, b2i_1, y0, y1, y2, y3, y4, y5]
    simpa [y0, y1, y2, y3, y4, y5] using h0
theorem r_instr {A : AS} (hA : okA A) (scr : List Int32) {s : MS} (h : IR A s) (x y : Int32) (Q : Option Value → HV → Prop) (hQ : ∀ s', Fr Ft s s' → IR A s' → Q (some (.int (inA A x y))) (hp scr s')) : X_R_instruction [.ref 65, .int x, .int y] (hp scr s) Q := by
  have h' := h
  have h0 := hQ s Fr.rf h
  have fz := fun s' (g : Fr Fz s s') => hQ s' (IR_z g (fun _ _ z => z) h').1 (IR_z g (fun _ _ z => z) h').2
  have okw := hA.2.2.1
  have hP := hA.2.1
  have h16 := hP.1
  obtain ⟨i1, i2, i3, i4, i5, i6⟩ := h
  have okc := okc_of hP okw
  have z0 : mk (0 : Int32) no := fun k hk => b_0 k
  unfold inA at h0 fz
  simp [X_R_instruction, B_R_instruction, lini, lx, Value.category]
  have it : ∀ Q, X_R_isThere [.ref 65, .int x] (hp scr s) Q ↔ Q (some (.int (b2i (isI (aP A) x)))) (hp scr s) := fun Q => s_R_isThere scr hP i2 x Q
  rw [sSq_if (t := !isI (aP A) x) (by intro K; simp [eV, eI, eL, eR, e1, e2, eDI, eDL, eFI, eFL, eFR, eAI, eAZ, eAR, eLen, aN, aC, xV, xS, eX, eIf, eC_b, cA, cO, cN, sSk, sSq, sI, sL, sR, sInc, sF, sFO, sAI, sAZ, sAO, sX, sXp, sIf, sCut, sSqs, sSw, sRt, sRz_g, is01_b, is01_0, is01_1, sRv, sBk, sCt, sCp, lset, lclr, lcut, lini, lx, Value.category, ixOf, b2i_0, b2i_1, T_R, it, nb])]
  cases hr : isI (aP A) x with
  | false =>
    rw [hr] at h0
    simp [eV, eI, eL, eR, e1, e2, eDI, eDL, eFI, eFL, eFR, eAI, eAZ, eAR, eLen, aN, aC, xV, xS, eX, eIf, eC_b, cA, cO, cN, sSk, sSq, sI, sL, sR, sInc, sF, sFO, sAI, sAZ, sAO, sX, sXp, sIf, sCut, sSqs, sSw, sRt, sRz_g, is01_b, is01_0, is01_1, sRv, sBk, sCt, sCp, lset, lclr, lcut, lini, lx, Value.category, ixOf, b2i_0, b2i_1]
    simpa using h0
  | true =>
    obtain ⟨i, hi, rfl⟩ := isI_n hP hr
    rw [hr, nI_clamp (by omega)] at fz
    simp only [Bool.not_true, Bool.false_eq_true, if_false, sSk_eq]
    refine sSq_S1 (ls' := [.ref 65, .int (nI i), .int y]) (scr := scr) (I := fun s1 => Fr FQ s s1 ∧ mFD (fol (aP A) (aR A) no) 78 79 (aP A).1 s1 ∧ mPR (aP A) (rW (aR A)) (chs (aP A) (aR A) no) s1 ∧ ∀ j, j < (aP A).1 → s1.1 85 j = nI ((ord (aP A) (aR A)).2.2.1 j)) ?h1 ?h2
    case h1 =>
      intro kn hkn
      simp [eV, eI, eL, eR, e1, e2, eDI, eDL, eFI, eFL, eFR, eAI, eAZ, eAR, eLen, aN, aC, xV, xS, eX, eIf, eC_b, cA, cO, cN, sSk, sSq, sI, sL, sR, sInc, sF, sFO, sAI, sAZ, sAO, sX, sXp, sIf, sCut, sSqs, sSw, sRt, sRz_g, is01_b, is01_0, is01_1, sRv, sBk, sCt, sCp, lset, lclr, lcut, lini, lx, Value.category, ixOf, b2i_0, b2i_1, T_R]
      exact t_Rpack scr hP i2 (Or.inl rfl) okw i3 z0 (by simp [no]) _ fun s1 g1 g2 g3 g4 => ⟨rfl, hkn s1 ⟨g1, g2, g3, g4 rfl⟩⟩
    case h2 =>
      rintro s1 ⟨g1, g2, g3, g4⟩
      have h0 := fz s1 (g1.wk fun r k z => by omega)
      have n2 : mR (aP A) s1 := mR_fr g1 (by omega) (by omega) i2
      have v1 := NR_val hP okc.1 okc.2.1 g3.2.2.2.2.1 hi
      have v2 := LR_val hP okc.1 okc.2.1 g3.2.2.2.2.2 hi
      have v3 := g4 i hi
      have v4 : mk (s1.1 79 i) (fun k => pDep (fol (aP A) (aR A) no) k i) := fun k hk => (g2 i hi k hk).2
      have v7 : s1.1 67 i = nI (pK (aP A) i) := (n2.2 i hi).1
      by_cases y0 : y = 0
      · subst y0
        simp [eV, eI, eL, eR, e1, e2, eDI, eDL, eFI, eFL, eFR, eAI, eAZ, eAR, eLen, aN, aC, xV, xS, eX, eIf, eC_b, cA, cO, cN, sSk, sSq, sI, sL, sR, sInc, sF, sFO, sAI, sAZ, sAO, sX, sXp, sIf, sCut, sSqs, sSw, sRt, sRz_g, is01_b, is01_0, is01_1, sRv, sBk, sCt, sCp, lset, lclr, lcut, lini, lx, Value.category, ixOf, b2i_0, b2i_1, T_R, G_R, ixf hP.1 hi, v7]
        simpa using h0
      by_cases y1 : y = 1
      · subst y1
        simp [eV, eI, eL, eR, e1, e2, eDI, eDL, eFI, eFL, eFR, eAI, eAZ, eAR, eLen, aN, aC, xV, xS, eX, eIf, eC_b, cA, cO, cN, sSk, sSq, sI, sL, sR, sInc, sF, sFO, sAI, sAZ, sAO, sX, sXp, sIf, sCut, sSqs, sSw, sRt, sRz_g, is01_b, is01_0, is01_1, sRv, sBk, sCt, sCp, lset, lclr, lcut, lini, lx, Value.category, ixOf, b2i_0, b2i_1, T_R, G_R, ixf hP.1 hi, v1]
        simpa using h0
      by_cases y2 : y = 2
      · subst y2
        simp [eV, eI, eL, eR, e1, e2, eDI, eDL, eFI, eFL, eFR, eAI, eAZ, eAR, eLen, aN, aC, xV, xS, eX, eIf, eC_b, cA, cO, cN, sSk, sSq, sI, sL, sR, sInc, sF, sFO, sAI, sAZ, sAO, sX, sXp, sIf, sCut, sSqs, sSw, sRt, sRz_g, is01_b, is01_0, is01_1, sRv, sBk, sCt, sCp, lset, lclr, lcut, lini, lx, Value.category, ixOf, b2i_0, b2i_1, T_R, G_R, ixf hP.1 hi, v2]
        simpa using h0
      by_cases y3 : y = 3
      · subst y3
        simp [eV, eI, eL, eR, e1, e2, eDI, eDL, eFI, eFL, eFR, eAI, eAZ, eAR, eLen, aN, aC, xV, xS, eX, eIf, eC_b, cA, cO, cN, sSk, sSq, sI, sL, sR, sInc, sF, sFO, sAI, sAZ, sAO, sX, sXp, sIf, sCut, sSqs, sSw, sRt, sRz_g, is01_b, is01_0, is01_1, sRv, sBk, sCt, sCp, lset, lclr, lcut, lini, lx, Value.category, ixOf, b2i_0, b2i_1, T_R, G_R, ixf hP.1 hi, v3]
        simpa using h0
      by_cases y4 : y = 4
      · subst y4
        simp [eV, eI, eL, eR, e1, e2, eDI, eDL, eFI, eFL, eFR, eAI, eAZ, eAR, eLen, aN, aC, xV, xS, eX, eIf, eC_b, cA, cO, cN, sSk, sSq, sI, sL, sR, sInc, sF, sFO, sAI, sAZ, sAO, sX, sXp, sIf, sCut, sSqs, sSw, sRt, sRz_g, is01_b, is01_0, is01_1, sRv, sBk, sCt, sCp, lset, lclr, lcut, lini, lx, Value.category, ixOf, b2i_0, b2i_1, T_R, G_R, ixf hP.1 hi]
        refine s_R_ones scr s1 _ _ ⟨_, rfl, ?_⟩
        have e : cnt (bt (s1.1 79 i)) 16 = dpn (aP A) (aR A) i := cnt_cong fun k hk => v4 k (by omega)
        rw [e]
        simpa using h0
      by_cases y5 : y = 5
      · subst y5
        simp [eV, eI, eL, eR, e1, e2, eDI, eDL, eFI, eFL, eFR, eAI, eAZ, eAR, eLen, aN, aC, xV, xS, eX, eIf, eC_b, cA, cO, cN, sSk, sSq, sI, sL, sR, sInc, sF, sFO, sAI, sAZ, sAO, sX, sXp, sIf, sCut, sSqs, sSw, sRt, sRz_g, is01_b, is01_0, is01_1, sRv, sBk, sCt, sCp, lset, lclr, lcut, lini, lx, Value.category, ixOf, b2i_0, b2i_1, T_R]
        refine r_runA hA scr (IR_z g1 (fun r k z => by omega) h').2 _ fun s2 f1 f2 => ⟨rfl, ?_⟩
        simp [T_R, G_R, ixf hP.1 hi, f2.2.1 i (by omega)]
        simpa using fz s2 ((g1.wk fun r k z => by omega).tr f1 fun r k z => by omega)
      simp [eV, eI, eL, eR, e1, e2, eDI, eDL, eFI, eFL, eFR, eAI, eAZ, eAR, eLen, aN, aC, xV, xS, eX, eIf, eC_b, cA, cO, cN, sSk, sSq, sI, sL, sR, sInc, sF, sFO, sAI, sAZ, sAO, sX, sXp, sIf, sCut, sSqs, sSw, sRt, sRz_g, is01_b, is01_0, is01_1, sRv, sBk, sCt, sCp, lset, lclr, lcut, lini, lx, Value.category, ixOf, b2i_0, b2i_1, y0, y1, y2, y3, y4, y5]
      simpa [y0, y1, y2, y3, y4, y5] using h0
/-! address -/
def adA (A : AS) (x y : Int32) : Int32 := if rng 0 15 x then
    (if y = 0 then aR A x.toNatClampNeg + 100 else if y = 1 then (rnA (aP A) (aR A)).1 x.toNatClampNeg else if y = 2 then (rnP (aP A) (aR A)).1 x.toNatClampNeg else -2) else -1
theorem c_addr {A : AS} (hA : okA A) (scr : List Int32) {s : MS} (h : IC A s) (x y : Int32) (Q : Option Value → HV → Prop) (hQ : ∀ s', Fr Fc s s' → IC A s' → Q (some (.int (adA A x y))) (hp scr s')) : X_PL_address [.ref 2, .int x, .int y] (hp scr s) Q := by
  have h' := h
  have h0 := hQ s Fr.rf h
  have fm := fun s' (g : Fr FM s s') => hQ s' (g.wk fun r k z => by omega) (IC_fr g (by omega) h')
  obtain ⟨i1, i2, i3, i4, i5, i6, i7⟩ := h
  unfold adA at h0 fm
  simp [X_PL_address, B_PL_address, lini, lx, Value.category]
  rw [sSq_if (t := !rng 0 15 x) (by intro K; simp [eV, eI, eL, eR, e1, e2, eDI, eDL, eFI, eFL, eFR, eAI, eAZ, eAR, eLen, aN, aC, xV, xS, eX, eIf, eC_b, cA, cO, cN, sSk, sSq, sI, sL, sR, sInc, sF, sFO, sAI, sAZ, sAO, sX, sXp, sIf, sCut, sSqs, sSw, sRt, sRz_g, is01_b, is01_0, is01_1, sRv, sBk, sCt, sCp, lset, lclr, lcut, lini, lx, Value.category, ixOf, b2i_0, b2i_1]; exact cO_rng2 (by decide))]
  cases hr : rng 0 15 x with
  | false =>
    rw [hr] at h0
    simp [eV, eI, eL, eR, e1, e2, eDI, eDL, eFI, eFL, eFR, eAI, eAZ, eAR, eLen, aN, aC, xV, xS, eX, eIf, eC_b, cA, cO, cN, sSk, sSq, sI, sL, sR, sInc, sF, sFO, sAI, sAZ, sAO, sX, sXp, sIf, sCut, sSqs, sSw, sRt, sRz_g, is01_b, is01_0, is01_1, sRv, sBk, sCt, sCp, lset, lclr, lcut, lini, lx, Value.category, ixOf, b2i_0, b2i_1]
    simpa using h0
  | true =>
    obtain ⟨n, hn, rfl⟩ := rng_n (N := 15) (by decide) hr
    rw [hr, nI_clamp (by omega)] at h0 fm
    simp only [Bool.not_true, Bool.false_eq_true, if_false, sSk_eq]
    by_cases y0 : y = 0
    · subst y0
      simp [eV, eI, eL, eR, e1, e2, eDI, eDL, eFI, eFL, eFR, eAI, eAZ, eAR, eLen, aN, aC, xV, xS, eX, eIf, eC_b, cA, cO, cN, sSk, sSq, sI, sL, sR, sInc, sF, sFO, sAI, sAZ, sAO, sX, sXp, sIf, sCut, sSqs, sSw, sRt, sRz_g, is01_b, is01_0, is01_1, sRv, sBk, sCt, sCp, lset, lclr, lcut, lini, lx, Value.category, ixOf, b2i_0, b2i_1, T_PL, G_row, ix80 (show n < 19 by omega) (by decide), i3 n (by omega)]
      simpa using h0
    by_cases y1 : y = 1
    · subst y1
      simp [eV, eI, eL, eR, e1, e2, eDI, eDL, eFI, eFL, eFR, eAI, eAZ, eAR, eLen, aN, aC, xV, xS, eX, eIf, eC_b, cA, cO, cN, sSk, sSq, sI, sL, sR, sInc, sF, sFO, sAI, sAZ, sAO, sX, sXp, sIf, sCut, sSqs, sSw, sRt, sRz_g, is01_b, is01_0, is01_1, sRv, sBk, sCt, sCp, lset, lclr, lcut, lini, lx, Value.category, ixOf, b2i_0, b2i_1, T_PL, T_Mach]
      refine c_runA hA scr h' _ fun s1 g1 g2 => ⟨rfl, ?_⟩
      simp [T_PL, T_Mach, G_Mach, ix80 (show n < 16 by omega) (by decide), g2.1 n (by omega)]
      simpa using fm s1 g1
    by_cases y2 : y = 2
    · subst y2
      simp [eV, eI, eL, eR, e1, e2, eDI, eDL, eFI, eFL, eFR, eAI, eAZ, eAR, eLen, aN, aC, xV, xS, eX, eIf, eC_b, cA, cO, cN, sSk, sSq, sI, sL, sR, sInc, sF, sFO, sAI, sAZ, sAO, sX, sXp, sIf, sCut, sSqs, sSw, sRt, sRz_g, is01_b, is01_0, is01_1, sRv, sBk, sCt, sCp, lset, lclr, lcut, lini, lx, Value.category, ixOf, b2i_0, b2i_1, T_PL, T_Mach]
      refine c_runP hA scr h' _ fun s1 g1 g2 => ⟨rfl, ?_⟩
      simp [T_PL, T_Mach, G_Mach, ix80 (show n < 16 by omega) (by decide), g2.1 n (by omega)]
      simpa using fm s1 g1
    simp [eV, eI, eL, eR, e1, e2, eDI, eDL, eFI, eFL, eFR, eAI, eAZ, eAR, eLen, aN, aC, xV, xS, eX, eIf, eC_b, cA, cO, cN, sSk, sSq, sI, sL, sR, sInc, sF, sFO, sAI, sAZ, sAO, sX, sXp, sIf, sCut, sSqs, sSw, sRt, sRz_g, is01_b, is01_0, is01_1, sRv, sBk, sCt, sCp, lset, lclr, lcut, lini, lx, Value.category, ixOf, b2i_0, b2i_1, y0, y1, y2]
    simpa [y0, y1, y2] using h0
theorem r_addr {A : AS} (hA : okA A) (scr : List Int32) {s : MS} (h : IR A s) (x y : Int32) (Q : Option Value → HV → Prop) (hQ : ∀ s', Fr Ft s s' → IR A s' → Q (some (.int (adA A x y))) (hp scr s')) : X_R_address [.ref 65, .int x, .int y] (hp scr s) Q := by
  have h' := h
  have h0 := hQ s Fr.rf h
  have fz := fun s' (g : Fr Fz s s') => hQ s' (IR_z g (fun _ _ z => z) h').1 (IR_z g (fun _ _ z => z) h').2
  obtain ⟨i1, i2, i3, i4, i5, i6⟩ := h
  unfold adA at h0 fz
  simp [X_R_address, B_R_address, lini, lx, Value.category]
  rw [sSq_if (t := !rng 0 15 x) (by intro K; simp [eV, eI, eL, eR, e1, e2, eDI, eDL, eFI, eFL, eFR, eAI, eAZ, eAR, eLen, aN, aC, xV, xS, eX, eIf, eC_b, cA, cO, cN, sSk, sSq, sI, sL, sR, sInc, sF, sFO, sAI, sAZ, sAO, sX, sXp, sIf, sCut, sSqs, sSw, sRt, sRz_g, is01_b, is01_0, is01_1, sRv, sBk, sCt, sCp, lset, lclr, lcut, lini, lx, Value.category, ixOf, b2i_0, b2i_1, s_R_isAddress, nb])]
  cases hr : rng 0 15 x with
  | false =>
    rw [hr] at h0
    simp [eV, eI, eL, eR, e1, e2, eDI, eDL, eFI, eFL, eFR, eAI, eAZ, eAR, eLen, aN, aC, xV, xS, eX, eIf, eC_b, cA, cO, cN, sSk, sSq, sI, sL, sR, sInc, sF, sFO, sAI, sAZ, sAO, sX, sXp, sIf, sCut, sSqs, sSw, sRt, sRz_g, is01_b, is01_0, is01_1, sRv, sBk, sCt, sCp, lset, lclr, lcut, lini, lx, Value.category, ixOf, b2i_0, b2i_1]
    simpa using h0
  | true =>
    obtain ⟨n, hn, rfl⟩ := rng_n (N := 15) (by decide) hr
    rw [hr, nI_clamp (by omega)] at h0 fz
    simp only [Bool.not_true, Bool.false_eq_true, if_false, sSk_eq]
    by_cases y0 : y = 0
    · subst y0
      simp [eV, eI, eL, eR, e1, e2, eDI, eDL, eFI, eFL, eFR, eAI, eAZ, eAR, eLen, aN, aC, xV, xS, eX, eIf, eC_b, cA, cO, cN, sSk, sSq, sI, sL, sR, sInc, sF, sFO, sAI, sAZ, sAO, sX, sXp, sIf, sCut, sSqs, sSw, sRt, sRz_g, is01_b, is01_0, is01_1, sRv, sBk, sCt, sCp, lset, lclr, lcut, lini, lx, Value.category, ixOf, b2i_0, b2i_1, T_R, G_R, ix80 (show n < 19 by omega) (by decide), i3 n (by omega)]
      simpa using h0
    by_cases y1 : y = 1
    · subst y1
      simp [eV, eI, eL, eR, e1, e2, eDI, eDL, eFI, eFL, eFR, eAI, eAZ, eAR, eLen, aN, aC, xV, xS, eX, eIf, eC_b, cA, cO, cN, sSk, sSq, sI, sL, sR, sInc, sF, sFO, sAI, sAZ, sAO, sX, sXp, sIf, sCut, sSqs, sSw, sRt, sRz_g, is01_b, is01_0, is01_1, sRv, sBk, sCt, sCp, lset, lclr, lcut, lini, lx, Value.category, ixOf, b2i_0, b2i_1, T_R]
      refine r_runA hA scr h' _ fun s1 g1 g2 => ⟨rfl, ?_⟩
      simp [T_R, G_R, ix80 (show n < 16 by omega) (by decide), g2.1 n (by omega)]
      simpa using fz s1 (g1.wk fun r k z => by omega)
    by_cases y2 : y = 2
    · subst y2
      simp [eV, eI, eL, eR, e1, e2, eDI, eDL, eFI, eFL, eFR, eAI, eAZ, eAR, eLen, aN, aC, xV, xS, eX, eIf, eC_b, cA, cO, cN, sSk, sSq, sI, sL, sR, sInc, sF, sFO, sAI, sAZ, sAO, sX, sXp, sIf, sCut, sSqs, sSw, sRt, sRz_g, is01_b, is01_0, is01_1, sRv, sBk, sCt, sCp, lset, lclr, lcut, lini, lx, Value.category, ixOf, b2i_0, b2i_1, T_R]
      refine r_runP hA scr h' _ fun s1 g1 g2 => ⟨rfl, ?_⟩
      simp [T_R, G_R, ix80 (show n < 16 by omega) (by decide), g2.1 n (by omega)]
      simpa using fz s1 (g1.wk fun r k z => by omega)
    simp [eV, eI, eL, eR, e1, e2, eDI, eDL, eFI, eFL, eFR, eAI, eAZ, eAR, eLen, aN, aC, xV, xS, eX, eIf, eC_b, cA, cO, cN, sSk, sSq, sI, sL, sR, sInc, sF, sFO, sAI, sAZ, sAO, sX, sXp, sIf, sCut, sSqs, sSw, sRt, sRz_g, is01_b, is01_0, is01_1, sRv, sBk, sCt, sCp, lset, lclr, lcut, lini, lx, Value.category, ixOf, b2i_0, b2i_1, y0, y1, y2]
    simpa [y0, y1, y2] using h0
/-! depends -/
def deA (A : AS) (x y : Int32) : Int32 := if isI (aP A) x && isI (aP A) y then b2i (pDep (fol (aP A) (aR A) no) x.toNatClampNeg y.toNatClampNeg) else -1
theorem c_dep {A : AS} (hA : okA A) (scr : List Int32) {s : MS} (h : IC A s) (x y : Int32) (Q : Option Value → HV → Prop) (hQ : ∀ s', Fr Fc s s' → IC A s' → Q (some (.int (deA A x y))) (hp scr s')) : X_PL_depends [.ref 2, .int x, .int y] (hp scr s) Q := by
  have h0 := hQ s Fr.rf h
  have hP := hA.2.1
  have h16 := hP.1
  obtain ⟨i1, i2, i3, i4, i5, i6, i7⟩ := h
  have T3 := T_Pack p34 scr s
  have G3 := G_Pack p34
  unfold deA at h0
  simp [X_PL_depends, B_PL_depends, lini, lx, Value.category]
  rw [sSq_if (t := !(isI (aP A) x && isI (aP A) y)) (by
    intro K
    simp [eV, eI, eL, eR, e1, e2, eDI, eDL, eFI, eFL, eFR, eAI, eAZ, eAR, eLen, aN, aC, xV, xS, eX, eIf, eC_b, cA, cO, cN, sSk, sSq, sI, sL, sR, sInc, sF, sFO, sAI, sAZ, sAO, sX, sXp, sIf, sCut, sSqs, sSw, sRt, sRz_g, is01_b, is01_0, is01_1, sRv, sBk, sCt, sCp, lset, lclr, lcut, lini, lx, Value.category, ixOf, b2i_0, b2i_1, T_PL, T_Code c6, t_Code_has scr hP i2, nb]
    cases isI (aP A) x <;> cases isI (aP A) y <;> simp)]
  cases hx : isI (aP A) x with
  | false =>
    rw [hx] at h0
    simp [eV, eI, eL, eR, e1, e2, eDI, eDL, eFI, eFL, eFR, eAI, eAZ, eAR, eLen, aN, aC, xV, xS, eX, eIf, eC_b, cA, cO, cN, sSk, sSq, sI, sL, sR, sInc, sF, sFO, sAI, sAZ, sAO, sX, sXp, sIf, sCut, sSqs, sSw, sRt, sRz_g, is01_b, is01_0, is01_1, sRv, sBk, sCt, sCp, lset, lclr, lcut, lini, lx, Value.category, ixOf, b2i_0, b2i_1]
    simpa using h0
  | true =>
    cases hy : isI (aP A) y with
    | false =>
      rw [hx, hy] at h0
      simp [eV, eI, eL, eR, e1, e2, eDI, eDL, eFI, eFL, eFR, eAI, eAZ, eAR, eLen, aN, aC, xV, xS, eX, eIf, eC_b, cA, cO, cN, sSk, sSq, sI, sL, sR, sInc, sF, sFO, sAI, sAZ, sAO, sX, sXp, sIf, sCut, sSqs, sSw, sRt, sRz_g, is01_b, is01_0, is01_1, sRv, sBk, sCt, sCp, lset, lclr, lcut, lini, lx, Value.category, ixOf, b2i_0, b2i_1]
      simpa using h0
    | true =>
      obtain ⟨i, hi, rfl⟩ := isI_n hP hx
      obtain ⟨j, hj, rfl⟩ := isI_n hP hy
      rw [hx, hy, nI_clamp (by omega), nI_clamp (by omega)] at h0
      have v4 := (i7.1 j hj i (by omega)).2
      have th := fun Q => t_holds scr s (s.1 43 j) (show i < 32 by omega) Q
      rw [v4] at th
      simp [eV, eI, eL, eR, e1, e2, eDI, eDL, eFI, eFL, eFR, eAI, eAZ, eAR, eLen, aN, aC, xV, xS, eX, eIf, eC_b, cA, cO, cN, sSk, sSq, sI, sL, sR, sInc, sF, sFO, sAI, sAZ, sAO, sX, sXp, sIf, sCut, sSqs, sSw, sRt, sRz_g, is01_b, is01_0, is01_1, sRv, sBk, sCt, sCp, lset, lclr, lcut, lini, lx, Value.category, ixOf, b2i_0, b2i_1, T_PL, T3, G3, ixf hP.1 hj, th]
      cases hd : pDep (fol (aP A) (aR A) no) i j with
      | false => rw [hd] at h0; simpa [b2i] using h0
      | true => rw [hd] at h0; simpa [b2i] using h0
theorem r_dep {A : AS} (hA : okA A) (scr : List Int32) {s : MS} (h : IR A s) (x y : Int32) (Q : Option Value → HV → Prop) (hQ : ∀ s', Fr Ft s s' → IR A s' → Q (some (.int (deA A x y))) (hp scr s')) : X_R_depends [.ref 65, .int x, .int y] (hp scr s) Q := by
  have h' := h
  have h0 := hQ s Fr.rf h
  have fz := fun s' (g : Fr Fz s s') => hQ s' (IR_z g (fun _ _ z => z) h').1 (IR_z g (fun _ _ z => z) h').2
  have hP := hA.2.1
  have h16 := hP.1
  have okw := hA.2.2.1
  obtain ⟨i1, i2, i3, i4, i5, i6⟩ := h
  unfold deA at h0 fz
  have it : ∀ x Q, X_R_isThere [.ref 65, .int x] (hp scr s) Q ↔ Q (some (.int (b2i (isI (aP A) x)))) (hp scr s) := fun x Q => s_R_isThere scr hP i2 x Q
  simp [X_R_depends, B_R_depends, lini, lx, Value.category]
  rw [sSq_if (t := !(isI (aP A) x && isI (aP A) y)) (by
    intro K
    simp [eV, eI, eL, eR, e1, e2, eDI, eDL, eFI, eFL, eFR, eAI, eAZ, eAR, eLen, aN, aC, xV, xS, eX, eIf, eC_b, cA, cO, cN, sSk, sSq, sI, sL, sR, sInc, sF, sFO, sAI, sAZ, sAO, sX, sXp, sIf, sCut, sSqs, sSw, sRt, sRz_g, is01_b, is01_0, is01_1, sRv, sBk, sCt, sCp, lset, lclr, lcut, lini, lx, Value.category, ixOf, b2i_0, b2i_1, T_R, it, nb]
    cases isI (aP A) x <;> cases isI (aP A) y <;> simp)]
  cases hx : isI (aP A) x with
  | false =>
    rw [hx] at h0
    simp [eV, eI, eL, eR, e1, e2, eDI, eDL, eFI, eFL, eFR, eAI, eAZ, eAR, eLen, aN, aC, xV, xS, eX, eIf, eC_b, cA, cO, cN, sSk, sSq, sI, sL, sR, sInc, sF, sFO, sAI, sAZ, sAO, sX, sXp, sIf, sCut, sSqs, sSw, sRt, sRz_g, is01_b, is01_0, is01_1, sRv, sBk, sCt, sCp, lset, lclr, lcut, lini, lx, Value.category, ixOf, b2i_0, b2i_1]
    simpa using h0
  | true =>
    cases hy : isI (aP A) y with
    | false =>
      rw [hx, hy] at h0
      simp [eV, eI, eL, eR, e1, e2, eDI, eDL, eFI, eFL, eFR, eAI, eAZ, eAR, eLen, aN, aC, xV, xS, eX, eIf, eC_b, cA, cO, cN, sSk, sSq, sI, sL, sR, sInc, sF, sFO, sAI, sAZ, sAO, sX, sXp, sIf, sCut, sSqs, sSw, sRt, sRz_g, is01_b, is01_0, is01_1, sRv, sBk, sCt, sCp, lset, lclr, lcut, lini, lx, Value.category, ixOf, b2i_0, b2i_1]
      simpa using h0
    | true =>
      obtain ⟨i, hi, rfl⟩ := isI_n hP hx
      obtain ⟨j, hj, rfl⟩ := isI_n hP hy
      rw [hx, hy, nI_clamp (by omega), nI_clamp (by omega)] at fz
      simp [eV, eI, eL, eR, e1, e2, eDI, eDL, eFI, eFL, eFR, eAI, eAZ, eAR, eLen, aN, aC, xV, xS, eX, eIf, eC_b, cA, cO, cN, sSk, sSq, sI, sL, sR, sInc, sF, sFO, sAI, sAZ, sAO, sX, sXp, sIf, sCut, sSqs, sSw, sRt, sRz_g, is01_b, is01_0, is01_1, sRv, sBk, sCt, sCp, lset, lclr, lcut, lini, lx, Value.category, ixOf, b2i_0, b2i_1, T_R]
      refine s_R_nothingKept scr hP i2 (Or.inl rfl) (mRow_of i3 okw) okw.1 (om := 0) (out := no) (fun k hk => b_0 k) _ fun s1 g1 g2 g3 g4 g5 g6 g7 g8 => ⟨rfl, ?_⟩
      have v4 : bt (s1.1 79 j) i = pDep (fol (aP A) (aR A) no) i j := (g4 j hj i (by omega)).2
      have th := fun Q => t_has scr s1 (s1.1 79 j) (show i < 32 by omega) Q
      rw [v4] at th
      simp [T_R, G_R, ixf hP.1 hj, th]
      have h0 := fz s1 (g1.wk fun r k z => by omega)
      cases hd : pDep (fol (aP A) (aR A) no) i j with
      | false => rw [hd] at h0; simpa [b2i] using h0
      | true => rw [hd] at h0; simpa [b2i] using h0
