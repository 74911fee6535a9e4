theorem U2L (scr : List Int32) (s : MS) (x : Int64) : hs (hp scr s) 2 14 (.long x) = hp scr (upL s 2 x) := hs_hpL (by decide) rfl fun b hb => by
  rcases Nat.lt_or_ge b 15 with q | q
  · exact (by decide : ∀ b, b < 15 → sd 2 b = some 1 → b = 14) b q hb
  · have e : sd 2 b = ([5, 8, 15, 22, 23, 24, 25, 26, 29, 34, 37, 50, 63, 66, 1] : List Nat)[b]? := rfl
    rw [e, List.getElem?_eq_none (by simpa using q)] at hb
    cases hb
theorem U64L (scr : List Int32) (s : MS) (x : Int64) : hs (hp scr s) 65 17 (.long x) = hp scr (upL s 65 x) := hs_hpL (by decide) rfl fun b hb => by
  rcases Nat.lt_or_ge b 50 with q | q
  · exact (by decide : ∀ b, b < 50 → sd 65 b = some 1 → b = 17) b q hb
  · have e : sd 65 b = ([68, 0, 0, 69, 70, 71, 72, 73, 74, 75, 0, 0, 76, 77, 78, 79, 0, 1, 0, 0, 80, 81, 82, 83, 0, 0, 0, 84, 85, 0, 86, 0, 0, 0, 87, 88, 89, 0, 90, 91, 0, 0, 0, 0, 92, 93, 94, 95, 0, 0] : List Nat)[b]? := rfl
    rw [e, List.getElem?_eq_none (by simpa using q)] at hb
    cases hb
/-- what may have changed, with a long -/
def Fl (c : Nat) (F : Nat → Nat → Prop) (s s' : MS) : Prop := (∀ a, a ≠ c → s'.2 a = s.2 a) ∧ ∀ r k, ¬ F r k → s'.1 r k = s.1 r k
theorem Fl.fr {c : Nat} {F : Nat → Nat → Prop} {s s' : MS} (h : Fl c F s s') : Fr F s (s'.1, s.2) := ⟨rfl, h.2⟩
theorem Fl.tr {c : Nat} {F G : Nat → Nat → Prop} {s t u : MS} (h : Fl c F s t) (g : Fr G t u) (hG : ∀ r k, G r k → F r k) : Fl c F s u := ⟨fun a ha => by rw [g.1]; exact h.1 a ha, fun a b q => (g.2 a b fun z => q (hG a b z)).trans (h.2 a b q)⟩
theorem Fl.upL {c : Nat} {F : Nat → Nat → Prop} {s t : MS} (h : Fl c F s t) (x : Int64) : Fl c F s (upL t c x) := ⟨fun a ha => by rw [upL_get, if_neg ha]; exact h.1 a ha, h.2⟩
theorem Fl.rf {c : Nat} {F : Nat → Nat → Prop} {s : MS} : Fl c F s s := ⟨fun _ _ => rfl, fun _ _ _ => rfl⟩
theorem IC_L {A : AS} {F : Nat → Nat → Prop} {c : Nat} {s s' : MS} (h : Fl c F s s') (a : ∀ r k, (r = 3 ∧ k = 2) ∨ r = 4 ∨ (6 ≤ r ∧ r ≤ 12) ∨ r = 20 ∨ (24 ≤ r ∧ r ≤ 43) → ¬ F r k) (hm : IC A s) : IC A s' := (IC_fr h.fr a hm : IC A (s'.1, s.2))
theorem IR_L {A : AS} {F : Nat → Nat → Prop} {c : Nat} {s s' : MS} (h : Fl c F s s') (a : ∀ r k, (r = 65 ∧ (k = 1 ∨ k = 2 ∨ k = 10 ∨ k = 11 ∨ k = 16)) ∨ (66 ≤ r ∧ r ≤ 71) ∨ (73 ≤ r ∧ r ≤ 77) → ¬ F r k) (hm : IR A s) : IR A s' := (IR_fr h.fr a hm : IR A (s'.1, s.2))
def wX (A : AS) (x : Int64) : AS := (aT A, aP A, aR A, aH A, aK A, aS A, x)
theorem c_seed {A : AS} (scr : List Int32) {s : MS} (v : Int64) (Q : Option Value → HV → Prop) (hQ : Q (some (.long (s.2 2))) (hp scr (upL s 2 v))) : X_PL_seed [.ref 2, .long v] (hp scr s) Q := by
  simp [X_PL_seed, B_PL_seed, eV, eI, eL, eR, e1, e2, eDI, eDL, eFI, eFL, eFR, eAI, eAZ, eAR, eLen, aN, aC, xV, xS, eX, eIf, eC_b, cA, cO, cN, sSk, sSq, sI, sL, sR, sInc, sF, sFO, sAI, sAZ, sAO, sX, sXp, sIf, sCut, sSqs, sSw, sRt, sRz_g, is01_b, is01_0, is01_1, sRv, sBk, sCt, sCp, lset, lclr, lcut, lini, lx, Value.category, ixOf, b2i_0, b2i_1, T_PL, U2L]
  exact hQ
theorem r_seed {A : AS} (scr : List Int32) {s : MS} (v : Int64) (Q : Option Value → HV → Prop) (hQ : Q (some (.long (s.2 65))) (hp scr (upL s 65 v))) : X_R_seed [.ref 65, .long v] (hp scr s) Q := by
  simp [X_R_seed, B_R_seed, eV, eI, eL, eR, e1, e2, eDI, eDL, eFI, eFL, eFR, eAI, eAZ, eAR, eLen, aN, aC, xV, xS, eX, eIf, eC_b, cA, cO, cN, sSk, sSq, sI, sL, sR, sInc, sF, sFO, sAI, sAZ, sAO, sX, sXp, sIf, sCut, sSqs, sSw, sRt, sRz_g, is01_b, is01_0, is01_1, sRv, sBk, sCt, sCp, lset, lclr, lcut, lini, lx, Value.category, ixOf, b2i_0, b2i_1, T_R, U64L]
  exact hQ
def rx (x : Int64) : Int64 := x * 6364136223846793005 + 1442695040888963407
def rv (x : Int64) : Int32 := ((x.toUInt64 >>> ((33 : Int32).toInt64.toUInt64 &&& Int64.toUInt64 63)).toInt64).toInt32
def rwx (x : Int64) : Row := fun k => (rv x >>> (nI k &&& 31) &&& 15) - 4
def dnC (P : PC) (base : Nat) (w : Row) : Nat := cnt (fun a => decide ((pRun P base w (allL P)).1 a ≠ w a)) 16
def dAt (P : PC) (base : Nat) (x : Int64) : Nat → Nat × Int64
  | 0 => (0, x)
  | m + 1 => ((dAt P base x m).1 + dnC P base (rwx (rx (dAt P base x m).2)), rx (dAt P base x m).2)
def f_drawn (A : AS) (m : Int32) : Int32 × AS := if rng 1 10 m then (nI (dAt (aP A) (rB (aR A)) (aX A) m.toNatClampNeg).1, wX A (dAt (aP A) (rB (aR A)) (aX A) m.toNatClampNeg).2) else (-2, A)
theorem rng_1n {x : Int32} {N : Nat} (hN : N < 2 ^ 31) (h : rng 1 (nI N) x = true) : ∃ j, 1 ≤ j ∧ j ≤ N ∧ x = nI j := by
  unfold rng at h
  simp only [Bool.and_eq_true, Bool.not_eq_true', decide_eq_false_iff_not] at h
  have p0 : ¬ x < 0 := fun q => h.1 (Int32.lt_trans q (by decide))
  obtain ⟨j, h1, rfl⟩ := nI_of2 (M := nI N) (nI_toInt hN) p0 (Int32.not_lt.mp h.2)
  have h5 := h.1
  rw [show (1 : Int32) = nI 1 from rfl, nI_ltI (by omega) (by decide)] at h5
  exact ⟨j, by omega, h1, rfl⟩
abbrev FD : Nat → Nat → Prop := fun r _ => r = 21 ∨ r = 61 ∨ r = 62 ∨ r = 63
theorem s_PL_drawStartValues (scr : List Int32) {s : MS} (Q : Option Value → HV → Prop) (h : ∀ s', Fl 2 (fun r k => r = 21 ∧ k < 16) s s' → s'.2 2 = rx (s.2 2) → (∀ k, k < 16 → s'.1 21 k = rwx (rx (s.2 2)) k) → Q none (hp scr s')) : X_PL_drawStartValues [.ref 2] (hp scr s) Q := by
  have e : ∀ x : Int64, ((x.toUInt64 >>> ((33 : Int32).toInt64.toUInt64 &&& Int64.toUInt64 63)).toInt64).toInt32 = rv x := fun _ => rfl
  have er : s.2 2 * 6364136223846793005 + 1442695040888963407 = rx (s.2 2) := rfl
  simp [X_PL_drawStartValues, B_PL_drawStartValues, lini, lx, Value.category]
  refine sSq_S1 (ls' := [.ref 2, .null, .null]) (scr := scr) (I := fun s2 => s2 = upL s 2 (rx (s.2 2))) ?h5 ?h6
  case h5 =>
    intro kn hkn
    simp only [eV, eI, eL, eR, e1, e2, eDI, eDL, eFI, eFL, eFR, eAI, eAZ, eAR, eLen, aN, aC, xV, xS, eX, eIf, eC_b, cA, cO, cN, sSk, sSq, sI, sL, sR, sInc, sF, sFO, sAI, sAZ, sAO, sX, sXp, sIf, sCut, sSqs, sSw, sRt, sRz_g, is01_b, is01_0, is01_1, sRv, sBk, sCt, sCp, lset, lclr, lcut, lini, lx, Value.category, ixOf, b2i_0, b2i_1]
    simp [T_PL, U2L, er]
    exact hkn _ rfl
  rintro s2 rfl
  refine sSq_I1 (v := rv (rx (s.2 2))) (h' := hp scr (upL s 2 (rx (s.2 2)))) ?h7 (by simp) ?h8
  case h7 =>
    intro K hK
    simp only [eV, eI, eL, eR, e1, e2, eDI, eDL, eFI, eFL, eFR, eAI, eAZ, eAR, eLen, aN, aC, xV, xS, eX, eIf, eC_b, cA, cO, cN, sSk, sSq, sI, sL, sR, sInc, sF, sFO, sAI, sAZ, sAO, sX, sXp, sIf, sCut, sSqs, sSw, sRt, sRz_g, is01_b, is01_0, is01_1, sRv, sBk, sCt, sCp, lset, lclr, lcut, lini, lx, Value.category, ixOf, b2i_0, b2i_1]
    simp [T_PL, upL_get]
    exact hK
  simp [eV, eI, eL, eR, e1, e2, eDI, eDL, eFI, eFL, eFR, eAI, eAZ, eAR, eLen, aN, aC, xV, xS, eX, eIf, eC_b, cA, cO, cN, sSk, sSq, sI, sL, sR, sInc, sF, sFO, sAI, sAZ, sAO, sX, sXp, sIf, sCut, sSqs, sSw, sRt, sRz_g, is01_b, is01_0, is01_1, sRv, sBk, sCt, sCp, lset, lclr, lcut, lini, lx, Value.category, ixOf, b2i_0, b2i_1]
  refine lp_ind (fun z ls h => ∃ k s', z = 16 - k ∧ k ≤ 16 ∧ ls = [.ref 2, .int (rv (rx (s.2 2))), .int (nI k)] ∧ h = hp scr s' ∧ Fl 2 (fun r k => r = 21 ∧ k < 16) s s' ∧ s'.2 2 = rx (s.2 2) ∧ ∀ b, b < k → s'.1 21 b = rwx (rx (s.2 2)) b) ?_ ⟨0, upL s 2 (rx (s.2 2)), rfl, by omega, rfl, rfl, Fl.rf.upL _, by simp [upL_get], fun b hb => by omega⟩
  rintro z ls h' ⟨k, s1, hz, hk, rfl, rfl, g1, g2, g3⟩ X hX
  refine cX (t := decide (k < 16)) (h' := hp scr s1) ?h1 ?h2
  case h1 =>
    intro K
    simp [eV, eI, eL, eR, e1, e2, eDI, eDL, eFI, eFL, eFR, eAI, eAZ, eAR, eLen, aN, aC, xV, xS, eX, eIf, eC_b, cA, cO, cN, sSk, sSq, sI, sL, sR, sInc, sF, sFO, sAI, sAZ, sAO, sX, sXp, sIf, sCut, sSqs, sSw, sRt, sRz_g, is01_b, is01_0, is01_1, sRv, sBk, sCt, sCp, lset, lclr, lcut, lini, lx, Value.category, ixOf, b2i_0, b2i_1]
    simp (disch := omega) only [LIT, L_0le, L_0lt, L_0eq, L_eq0, L_le0, L_lt0, L_1eq, L_eq1, L_1le, L_1lt, L_lt1, L_le1, L_p1, nI_ltI, nI_leI, nI_eq, nI_add, nI_clamp]
  case h2 =>
    by_cases hlt : k < 16
    · simp only [hlt, decide_true, if_true]
      simp [eV, eI, eL, eR, e1, e2, eDI, eDL, eFI, eFL, eFR, eAI, eAZ, eAR, eLen, aN, aC, xV, xS, eX, eIf, eC_b, cA, cO, cN, sSk, sSq, sI, sL, sR, sInc, sF, sFO, sAI, sAZ, sAO, sX, sXp, sIf, sCut, sSqs, sSw, sRt, sRz_g, is01_b, is01_0, is01_1, sRv, sBk, sCt, sCp, lset, lclr, lcut, lini, lx, Value.category, ixOf, b2i_0, b2i_1, T_PL, G_row, ix80 (show k < 19 by omega) (by decide), L_p1]
      refine hX _ _ _ (by rw [hz]; omega) ⟨k + 1, _, rfl, hlt, rfl, rfl, g1.tr (Fr.rf.up (F := fun r k => r = 21 ∧ k < 16) _ ⟨rfl, hlt⟩) fun _ _ z => z, g2, fun b hb => ?_⟩
      by_cases c : b = k
      · subst c; simp [up_get, rwx]
      · simp [up_get, c]; exact g3 b (by omega)
    · have : k = 16 := by omega
      subst this
      simp only [hlt, decide_false, Bool.false_eq_true, if_false]
      exact h s1 g1 g2 g3
theorem c_drawn {A : AS} (hA : okA A) (scr : List Int32) {s : MS} (h : IC A s) (hx : s.2 2 = aX A) (m : Int32) (Q : Option Value → HV → Prop) (hQ : ∀ s', Fl 2 Fc s s' → IC (f_drawn A m).2 s' → s'.2 2 = aX (f_drawn A m).2 → Q (some (.int (f_drawn A m).1)) (hp scr s')) : X_PL_drawn [.ref 2, .int m] (hp scr s) Q := by
  have hP := hA.2.1
  have h16 := hP.1
  have okw := hA.2.2.1
  unfold f_drawn at hQ
  simp [X_PL_drawn, B_PL_drawn, lini, lx, Value.category]
  rw [sSq_if (t := !rng 1 10 m) (by intro K; simp [eV, eI, eL, eR, e1, e2, eDI, eDL, eFI, eFL, eFR, eAI, eAZ, eAR, eLen, aN, aC, xV, xS, eX, eIf, eC_b, cA, cO, cN, sSk, sSq, sI, sL, sR, sInc, sF, sFO, sAI, sAZ, sAO, sX, sXp, sIf, sCut, sSqs, sSw, sRt, sRz_g, is01_b, is01_0, is01_1, sRv, sBk, sCt, sCp, lset, lclr, lcut, lini, lx, Value.category, ixOf, b2i_0, b2i_1]; exact cO_rng)]
  cases hr : rng 1 10 m with
  | false =>
    rw [hr] at hQ
    simp [eV, eI, eL, eR, e1, e2, eDI, eDL, eFI, eFL, eFR, eAI, eAZ, eAR, eLen, aN, aC, xV, xS, eX, eIf, eC_b, cA, cO, cN, sSk, sSq, sI, sL, sR, sInc, sF, sFO, sAI, sAZ, sAO, sX, sXp, sIf, sCut, sSqs, sSw, sRt, sRz_g, is01_b, is01_0, is01_1, sRv, sBk, sCt, sCp, lset, lclr, lcut, lini, lx, Value.category, ixOf, b2i_0, b2i_1]
    exact hQ s Fl.rf h hx
  | true =>
    obtain ⟨n, hn1, hn, rfl⟩ := rng_1n (N := 10) (by decide) hr
    rw [hr, nI_clamp (by omega)] at hQ
    simp only [Bool.not_true, Bool.false_eq_true, if_false, sSk_eq]
    have e16 : s.1 20 16 = nI (rB (aR A)) := by rw [h.2.2.1 16 (by omega)]; exact okw.2.1
    simp [eV, eI, eL, eR, e1, e2, eDI, eDL, eFI, eFL, eFR, eAI, eAZ, eAR, eLen, aN, aC, xV, xS, eX, eIf, eC_b, cA, cO, cN, sSk, sSq, sI, sL, sR, sInc, sF, sFO, sAI, sAZ, sAO, sX, sXp, sIf, sCut, sSqs, sSw, sRt, sRz_g, is01_b, is01_0, is01_1, sRv, sBk, sCt, sCp, lset, lclr, lcut, lini, lx, Value.category, ixOf, b2i_0, b2i_1, T_PL, G_row, show (16 : Int32).toNatClampNeg = 16 from rfl, e16]
    refine lp_ind (fun z ls h => ∃ j s', z = n - j ∧ j ≤ n ∧ ls = [.ref 2, .int (nI n), .int (nI (dAt (aP A) (rB (aR A)) (aX A) j).1), .int (nI j), .null] ∧ h = hp scr s' ∧ Fl 2 FD s s' ∧ s'.2 2 = (dAt (aP A) (rB (aR A)) (aX A) j).2 ∧ s'.1 21 16 = nI (rB (aR A))) ?_ ⟨0, _, rfl, by omega, rfl, rfl, Fl.rf.tr (Fr.rf.up (F := FD) _ (by omega)) fun _ _ z => z, hx, by simp [up_get]⟩
    rintro z ls h' ⟨j, s1, hz, hj, rfl, rfl, g1, g2, g3⟩ X hX
    refine cX (t := decide (j < n)) (h' := hp scr s1) ?h1 ?h2
    case h1 =>
      intro K
      simp [eV, eI, eL, eR, e1, e2, eDI, eDL, eFI, eFL, eFR, eAI, eAZ, eAR, eLen, aN, aC, xV, xS, eX, eIf, eC_b, cA, cO, cN, sSk, sSq, sI, sL, sR, sInc, sF, sFO, sAI, sAZ, sAO, sX, sXp, sIf, sCut, sSqs, sSw, sRt, sRz_g, is01_b, is01_0, is01_1, sRv, sBk, sCt, sCp, lset, lclr, lcut, lini, lx, Value.category, ixOf, b2i_0, b2i_1]
      simp (disch := omega) only [LIT, L_0le, L_0lt, L_0eq, L_eq0, L_le0, L_lt0, L_1eq, L_eq1, L_1le, L_1lt, L_lt1, L_le1, L_p1, nI_ltI, nI_leI, nI_eq, nI_add, nI_clamp]
    case h2 =>
      by_cases hlt : j < n
      · simp only [hlt, decide_true, if_true]
        simp [eV, eI, eL, eR, e1, e2, eDI, eDL, eFI, eFL, eFR, eAI, eAZ, eAR, eLen, aN, aC, xV, xS, eX, eIf, eC_b, cA, cO, cN, sSk, sSq, sI, sL, sR, sInc, sF, sFO, sAI, sAZ, sAO, sX, sXp, sIf, sCut, sSqs, sSw, sRt, sRz_g, is01_b, is01_0, is01_1, sRv, sBk, sCt, sCp, lset, lclr, lcut, lini, lx, Value.category, ixOf, b2i_0, b2i_1, T_PL]
        refine s_PL_drawStartValues scr _ fun s2 f1 f2 f3 => ⟨rfl, ?_⟩
        have g12 : Fl 2 FD s s2 := ⟨fun a ha => (f1.1 a ha).trans (g1.1 a ha), fun r k q => (f1.2 r k (by omega)).trans (g1.2 r k q)⟩
        have c2 : IC A s2 := IC_L g12 (by omega) h
        rw [g2] at f2 f3
        have e21 : s2.1 21 16 = nI (rB (aR A)) := by rw [f1.2 _ _ (by omega)]; exact g3
        have nx : dAt (aP A) (rB (aR A)) (aX A) (j + 1) = ((dAt (aP A) (rB (aR A)) (aX A) j).1 + dnC (aP A) (rB (aR A)) (rwx (rx (dAt (aP A) (rB (aR A)) (aX A) j).2)), rx (dAt (aP A) (rB (aR A)) (aX A) j).2) := rfl
        generalize rx (dAt (aP A) (rB (aR A)) (aX A) j).2 = x' at *
        simp [T_PL, T_Mach]
        refine s_Mach_runInOrder scr hP c2.2.1 (Or.inr rfl) okw.1.1 e21 (row := rwx x') f3 (-9) _ fun s3 k1 k2 => ⟨rfl, ?_⟩
        have g13 : Fl 2 FD s s3 := g12.tr k1 fun r k z => by omega
        have k2' : mMa (rB (aR A)) (pRun (aP A) (rB (aR A)) (rwx x') (allL (aP A))) s3 := k2
        unfold dnC at nx
        generalize pRun (aP A) (rB (aR A)) (rwx x') (allL (aP A)) = M at nx k2'
        refine lp_ind (fun z ls h => ∃ a, z = 16 - a ∧ a ≤ 16 ∧ ls = [.ref 2, .int (nI n), .int (nI ((dAt (aP A) (rB (aR A)) (aX A) j).1 + cnt (fun a => decide (M.1 a ≠ rwx x' a)) a)), .int (nI j), .int (nI a)] ∧ h = hp scr s3) ?_ ⟨0, rfl, by omega, rfl, rfl⟩
        rintro z2 ls h' ⟨a, hz2, ha, rfl, rfl⟩ X2 hX2
        refine cX (t := decide (a < 16)) (h' := hp scr s3) ?h3 ?h4
        case h3 =>
          intro K
          simp [eV, eI, eL, eR, e1, e2, eDI, eDL, eFI, eFL, eFR, eAI, eAZ, eAR, eLen, aN, aC, xV, xS, eX, eIf, eC_b, cA, cO, cN, sSk, sSq, sI, sL, sR, sInc, sF, sFO, sAI, sAZ, sAO, sX, sXp, sIf, sCut, sSqs, sSw, sRt, sRz_g, is01_b, is01_0, is01_1, sRv, sBk, sCt, sCp, lset, lclr, lcut, lini, lx, Value.category, ixOf, b2i_0, b2i_1]
          simp (disch := omega) only [LIT, L_0le, L_0lt, L_0eq, L_eq0, L_le0, L_lt0, L_1eq, L_eq1, L_1le, L_1lt, L_lt1, L_le1, L_p1, nI_ltI, nI_leI, nI_eq, nI_add, nI_clamp]
        case h4 =>
          by_cases hlt2 : a < 16
          · have e61 := k2'.1 a hlt2
            have e21b : s3.1 21 a = rwx x' a := by rw [k1.2 _ _ (by omega)]; exact f3 a hlt2
            have go := fun v (hv : v = nI ((dAt (aP A) (rB (aR A)) (aX A) j).1 + cnt (fun a => decide (M.1 a ≠ rwx x' a)) (a + 1))) => hX2 (16 - (a + 1)) [.ref 2, .int (nI n), .int v, .int (nI j), .int (nI (a + 1))] (hp scr s3) (by rw [hz2]; omega) ⟨a + 1, rfl, hlt2, by rw [hv], rfl⟩
            simp only [hlt2, decide_true, if_true]
            simp [eV, eI, eL, eR, e1, e2, eDI, eDL, eFI, eFL, eFR, eAI, eAZ, eAR, eLen, aN, aC, xV, xS, eX, eIf, eC_b, cA, cO, cN, sSk, sSq, sI, sL, sR, sInc, sF, sFO, sAI, sAZ, sAO, sX, sXp, sIf, sCut, sSqs, sSw, sRt, sRz_g, is01_b, is01_0, is01_1, sRv, sBk, sCt, sCp, lset, lclr, lcut, lini, lx, Value.category, ixOf, b2i_0, b2i_1, T_PL, T_Mach, G_Mach, G_row, ix80 hlt2 (by decide), ix80 (show a < 19 by omega) (by decide), e61, e21b]
            by_cases c : M.1 a = rwx x' a
            · simp [c, L_p1]
              exact go _ (by simp [cnt, c])
            · simp [c, L_p1]
              exact go _ (by simp [cnt, c, ← Nat.add_assoc])
          · have : a = 16 := by omega
            subst this
            simp only [hlt2, decide_false, Bool.false_eq_true, if_false]
            simp [eV, eI, eL, eR, e1, e2, eDI, eDL, eFI, eFL, eFR, eAI, eAZ, eAR, eLen, aN, aC, xV, xS, eX, eIf, eC_b, cA, cO, cN, sSk, sSq, sI, sL, sR, sInc, sF, sFO, sAI, sAZ, sAO, sX, sXp, sIf, sCut, sSqs, sSw, sRt, sRz_g, is01_b, is01_0, is01_1, sRv, sBk, sCt, sCp, lset, lclr, lcut, lini, lx, Value.category, ixOf, b2i_0, b2i_1, L_p1]
            refine hX _ _ _ (by rw [hz]; omega) ⟨j + 1, s3, rfl, hlt, by rw [nx]; simp, rfl, g13, by rw [nx, k1.1]; exact f2, by rw [k1.2 _ _ (by omega)]; exact e21⟩
      · have : j = n := by omega
        subst this
        simp only [hlt, decide_false, Bool.false_eq_true, if_false]
        simp [eV, eI, eL, eR, e1, e2, eDI, eDL, eFI, eFL, eFR, eAI, eAZ, eAR, eLen, aN, aC, xV, xS, eX, eIf, eC_b, cA, cO, cN, sSk, sSq, sI, sL, sR, sInc, sF, sFO, sAI, sAZ, sAO, sX, sXp, sIf, sCut, sSqs, sSw, sRt, sRz_g, is01_b, is01_0, is01_1, sRv, sBk, sCt, sCp, lset, lclr, lcut, lini, lx, Value.category, ixOf, b2i_0, b2i_1]
        exact hQ s1 ⟨g1.1, fun r k q => g1.2 r k (by omega)⟩ (IC_L g1 (by omega) h) g2
theorem r_drawn {A : AS} (hA : okA A) (scr : List Int32) {s : MS} (h : IR A s) (hx : s.2 65 = aX A) (m : Int32) (Q : Option Value → HV → Prop) (hQ : ∀ s', Fl 65 Ft s s' → IR (f_drawn A m).2 s' → s'.2 65 = aX (f_drawn A m).2 → Q (some (.int (f_drawn A m).1)) (hp scr s')) : X_R_drawn [.ref 65, .int m] (hp scr s) Q := by
  have hP := hA.2.1
  have h16 := hP.1
  have okw := hA.2.2.1
  unfold f_drawn at hQ
  simp [X_R_drawn, B_R_drawn, lini, lx, Value.category]
  rw [sSq_if (t := !rng 1 10 m) (by intro K; simp [eV, eI, eL, eR, e1, e2, eDI, eDL, eFI, eFL, eFR, eAI, eAZ, eAR, eLen, aN, aC, xV, xS, eX, eIf, eC_b, cA, cO, cN, sSk, sSq, sI, sL, sR, sInc, sF, sFO, sAI, sAZ, sAO, sX, sXp, sIf, sCut, sSqs, sSw, sRt, sRz_g, is01_b, is01_0, is01_1, sRv, sBk, sCt, sCp, lset, lclr, lcut, lini, lx, Value.category, ixOf, b2i_0, b2i_1, t_in scr s m 1 10 (A := 1) (B := 10) rfl rfl, nb])]
  cases hr : rng 1 10 m with
  | false =>
    rw [hr] at hQ
    simp [eV, eI, eL, eR, e1, e2, eDI, eDL, eFI, eFL, eFR, eAI, eAZ, eAR, eLen, aN, aC, xV, xS, eX, eIf, eC_b, cA, cO, cN, sSk, sSq, sI, sL, sR, sInc, sF, sFO, sAI, sAZ, sAO, sX, sXp, sIf, sCut, sSqs, sSw, sRt, sRz_g, is01_b, is01_0, is01_1, sRv, sBk, sCt, sCp, lset, lclr, lcut, lini, lx, Value.category, ixOf, b2i_0, b2i_1]
    exact hQ s Fl.rf h hx
  | true =>
    obtain ⟨n, hn1, hn, rfl⟩ := rng_1n (N := 10) (by decide) hr
    rw [hr, nI_clamp (by omega)] at hQ
    simp only [Bool.not_true, Bool.false_eq_true, if_false, sSk_eq]
    refine sSq_S1 (ls' := [.ref 65, .int (nI n), .null, .null, .null, .null]) (scr := scr) (I := fun s1 => Fr (fun r _ => r = 72) s s1 ∧ mRw 72 (aR A) s1) ?h1 ?h2
    case h1 =>
      intro kn hkn
      simp [eV, eI, eL, eR, e1, e2, eDI, eDL, eFI, eFL, eFR, eAI, eAZ, eAR, eLen, aN, aC, xV, xS, eX, eIf, eC_b, cA, cO, cN, sSk, sSq, sI, sL, sR, sInc, sF, sFO, sAI, sAZ, sAO, sX, sXp, sIf, sCut, sSqs, sSw, sRt, sRz_g, is01_b, is01_0, is01_1, sRv, sBk, sCt, sCp, lset, lclr, lcut, lini, lx, Value.category, ixOf, b2i_0, b2i_1, T_R]
      exact s_R_copy scr h.2.2.1 _ fun s1 g1 g2 => ⟨rfl, hkn s1 ⟨g1, g2⟩⟩
    case h2 =>
      rintro s0 ⟨p1, p2⟩
      simp [eV, eI, eL, eR, e1, e2, eDI, eDL, eFI, eFL, eFR, eAI, eAZ, eAR, eLen, aN, aC, xV, xS, eX, eIf, eC_b, cA, cO, cN, sSk, sSq, sI, sL, sR, sInc, sF, sFO, sAI, sAZ, sAO, sX, sXp, sIf, sCut, sSqs, sSw, sRt, sRz_g, is01_b, is01_0, is01_1, sRv, sBk, sCt, sCp, lset, lclr, lcut, lini, lx, Value.category, ixOf, b2i_0, b2i_1]
      refine lp_ind (fun z ls h => ∃ j s', z = n - j ∧ j ≤ n ∧ ls = [.ref 65, .int (nI n), .int (nI (dAt (aP A) (rB (aR A)) (aX A) j).1), .int (nI j), .null, .null] ∧ h = hp scr s' ∧ Fl 65 Fz s s' ∧ s'.2 65 = (dAt (aP A) (rB (aR A)) (aX A) j).2 ∧ s'.1 72 16 = nI (rB (aR A))) ?_ ⟨0, s0, rfl, by omega, rfl, rfl, Fl.rf.tr p1 fun r k z => by omega, by rw [p1.1]; exact hx, by rw [p2 16 (by omega)]; exact okw.2.1⟩
      rintro z ls h' ⟨j, s1, hz, hj, rfl, rfl, g1, g2, g3⟩ X hX
      refine cX (t := decide (j < n)) (h' := hp scr s1) ?h3 ?h4
      case h3 =>
        intro K
        simp [eV, eI, eL, eR, e1, e2, eDI, eDL, eFI, eFL, eFR, eAI, eAZ, eAR, eLen, aN, aC, xV, xS, eX, eIf, eC_b, cA, cO, cN, sSk, sSq, sI, sL, sR, sInc, sF, sFO, sAI, sAZ, sAO, sX, sXp, sIf, sCut, sSqs, sSw, sRt, sRz_g, is01_b, is01_0, is01_1, sRv, sBk, sCt, sCp, lset, lclr, lcut, lini, lx, Value.category, ixOf, b2i_0, b2i_1]
        simp (disch := omega) only [LIT, L_0le, L_0lt, L_0eq, L_eq0, L_le0, L_lt0, L_1eq, L_eq1, L_1le, L_1lt, L_lt1, L_le1, L_p1, nI_ltI, nI_leI, nI_eq, nI_add, nI_clamp]
      case h4 =>
        by_cases hlt : j < n
        · have er : s1.2 65 * 6364136223846793005 + 1442695040888963407 = rx (s1.2 65) := rfl
          have e : ∀ x : Int64, ((x.toUInt64 >>> ((33 : Int32).toInt64.toUInt64 &&& Int64.toUInt64 63)).toInt64).toInt32 = rv x := fun _ => rfl
          simp only [hlt, decide_true, if_true]
          refine sSq_S1 (ls' := [.ref 65, .int (nI n), .int (nI (dAt (aP A) (rB (aR A)) (aX A) j).1), .int (nI j), .null, .null]) (scr := scr) (I := fun s2 => s2 = upL s1 65 (rx (s1.2 65))) ?h5 ?h6
          case h5 =>
            intro kn hkn
            simp only [eV, eI, eL, eR, e1, e2, eDI, eDL, eFI, eFL, eFR, eAI, eAZ, eAR, eLen, aN, aC, xV, xS, eX, eIf, eC_b, cA, cO, cN, sSk, sSq, sI, sL, sR, sInc, sF, sFO, sAI, sAZ, sAO, sX, sXp, sIf, sCut, sSqs, sSw, sRt, sRz_g, is01_b, is01_0, is01_1, sRv, sBk, sCt, sCp, lset, lclr, lcut, lini, lx, Value.category, ixOf, b2i_0, b2i_1]
            simp [T_R, U64L, er]
            exact hkn _ rfl
          case h6 =>
            rintro s2 rfl
            have g12 : Fl 65 Fz s (upL s1 65 (rx (s1.2 65))) := g1.upL _
            have x2 : (upL s1 65 (rx (s1.2 65))).2 65 = rx (s1.2 65) := by simp [upL_get]
            have y2 : (upL s1 65 (rx (s1.2 65))).1 = s1.1 := rfl
            have nx : dAt (aP A) (rB (aR A)) (aX A) (j + 1) = ((dAt (aP A) (rB (aR A)) (aX A) j).1 + dnC (aP A) (rB (aR A)) (rwx (rx (dAt (aP A) (rB (aR A)) (aX A) j).2)), rx (dAt (aP A) (rB (aR A)) (aX A) j).2) := rfl
            rw [← g2] at nx
            generalize upL s1 65 (rx (s1.2 65)) = s2 at g12 x2 y2 ⊢
            generalize rx (s1.2 65) = x' at x2 nx
            refine sSq_I1 (v := rv x') (h' := hp scr s2) ?h7 (by simp) ?h8
            case h7 =>
              intro K hK
              simp only [eV, eI, eL, eR, e1, e2, eDI, eDL, eFI, eFL, eFR, eAI, eAZ, eAR, eLen, aN, aC, xV, xS, eX, eIf, eC_b, cA, cO, cN, sSk, sSq, sI, sL, sR, sInc, sF, sFO, sAI, sAZ, sAO, sX, sXp, sIf, sCut, sSqs, sSw, sRt, sRz_g, is01_b, is01_0, is01_1, sRv, sBk, sCt, sCp, lset, lclr, lcut, lini, lx, Value.category, ixOf, b2i_0, b2i_1]
              simp [T_R, x2]
              exact hK
            case h8 =>
              simp [eV, eI, eL, eR, e1, e2, eDI, eDL, eFI, eFL, eFR, eAI, eAZ, eAR, eLen, aN, aC, xV, xS, eX, eIf, eC_b, cA, cO, cN, sSk, sSq, sI, sL, sR, sInc, sF, sFO, sAI, sAZ, sAO, sX, sXp, sIf, sCut, sSqs, sSw, sRt, sRz_g, is01_b, is01_0, is01_1, sRv, sBk, sCt, sCp, lset, lclr, lcut, lini, lx, Value.category, ixOf, b2i_0, b2i_1]
              refine lp_ind (fun z ls h => ∃ k s', z = 16 - k ∧ k ≤ 16 ∧ ls = [.ref 65, .int (nI n), .int (nI (dAt (aP A) (rB (aR A)) (aX A) j).1), .int (nI j), .int (rv x'), .int (nI k)] ∧ h = hp scr s' ∧ Fr (fun r k => r = 72 ∧ k < 16) s2 s' ∧ ∀ b, b < k → s'.1 72 b = rwx x' b) ?_ ⟨0, s2, rfl, by omega, rfl, rfl, Fr.rf, fun b hb => by omega⟩
              rintro z2 ls h' ⟨k, s3, hz2, hk, rfl, rfl, f1, f2⟩ X2 hX2
              refine cX (t := decide (k < 16)) (h' := hp scr s3) ?h9 ?h10
              case h9 =>
                intro K
                simp [eV, eI, eL, eR, e1, e2, eDI, eDL, eFI, eFL, eFR, eAI, eAZ, eAR, eLen, aN, aC, xV, xS, eX, eIf, eC_b, cA, cO, cN, sSk, sSq, sI, sL, sR, sInc, sF, sFO, sAI, sAZ, sAO, sX, sXp, sIf, sCut, sSqs, sSw, sRt, sRz_g, is01_b, is01_0, is01_1, sRv, sBk, sCt, sCp, lset, lclr, lcut, lini, lx, Value.category, ixOf, b2i_0, b2i_1]
                simp (disch := omega) only [LIT, L_0le, L_0lt, L_0eq, L_eq0, L_le0, L_lt0, L_1eq, L_eq1, L_1le, L_1lt, L_lt1, L_le1, L_p1, nI_ltI, nI_leI, nI_eq, nI_add, nI_clamp]
              case h10 =>
                by_cases hlt2 : k < 16
                · simp only [hlt2, decide_true, if_true]
                  simp [eV, eI, eL, eR, e1, e2, eDI, eDL, eFI, eFL, eFR, eAI, eAZ, eAR, eLen, aN, aC, xV, xS, eX, eIf, eC_b, cA, cO, cN, sSk, sSq, sI, sL, sR, sInc, sF, sFO, sAI, sAZ, sAO, sX, sXp, sIf, sCut, sSqs, sSw, sRt, sRz_g, is01_b, is01_0, is01_1, sRv, sBk, sCt, sCp, lset, lclr, lcut, lini, lx, Value.category, ixOf, b2i_0, b2i_1, T_R, G_R, ix80 (show k < 19 by omega) (by decide), L_p1]
                  refine hX2 _ _ _ (by rw [hz2]; omega) ⟨k + 1, _, rfl, hlt2, rfl, rfl, f1.up _ ⟨rfl, hlt2⟩, fun b hb => ?_⟩
                  by_cases c : b = k
                  · subst c; simp [up_get, rwx]
                  · simp [up_get, c]; exact f2 b (by omega)
                · have : k = 16 := by omega
                  subst this
                  simp only [hlt2, decide_false, Bool.false_eq_true, if_false]
                  have g13 : Fl 65 Fz s s3 := g12.tr f1 fun r k z => by omega
                  have c3 : IR A s3 := IR_L g13 (fun r k q => by omega) h
                  have e71 : s3.1 72 16 = nI (rB (aR A)) := by rw [f1.2 _ _ (by omega), y2]; exact g3
                  simp [eV, eI, eL, eR, e1, e2, eDI, eDL, eFI, eFL, eFR, eAI, eAZ, eAR, eLen, aN, aC, xV, xS, eX, eIf, eC_b, cA, cO, cN, sSk, sSq, sI, sL, sR, sInc, sF, sFO, sAI, sAZ, sAO, sX, sXp, sIf, sCut, sSqs, sSw, sRt, sRz_g, is01_b, is01_0, is01_1, sRv, sBk, sCt, sCp, lset, lclr, lcut, lini, lx, Value.category, ixOf, b2i_0, b2i_1, T_R]
                  refine s_R_run scr hP c3.2.1 (Or.inr rfl) okw.1.1 e71 (row := rwx x') f2 (-9) _ fun s4 k1 k2 => ⟨rfl, ?_⟩
                  have g14 : Fl 65 Fz s s4 := g13.tr k1 fun r k z => by omega
                  have k2' : mRr (pRun (aP A) (rB (aR A)) (rwx x') (allL (aP A))) s4 := k2
                  unfold dnC at nx
                  generalize pRun (aP A) (rB (aR A)) (rwx x') (allL (aP A)) = M at nx k2'
                  refine lp_ind (fun z ls h => ∃ a, z = 16 - a ∧ a ≤ 16 ∧ ls = [.ref 65, .int (nI n), .int (nI ((dAt (aP A) (rB (aR A)) (aX A) j).1 + cnt (fun a => decide (M.1 a ≠ rwx x' a)) a)), .int (nI j), .int (rv x'), .int (nI a)] ∧ h = hp scr s4) ?_ ⟨0, rfl, by omega, rfl, rfl⟩
                  rintro z3 ls h' ⟨a, hz3, ha, rfl, rfl⟩ X3 hX3
                  refine cX (t := decide (a < 16)) (h' := hp scr s4) ?h11 ?h12
                  case h11 =>
                    intro K
                    simp [eV, eI, eL, eR, e1, e2, eDI, eDL, eFI, eFL, eFR, eAI, eAZ, eAR, eLen, aN, aC, xV, xS, eX, eIf, eC_b, cA, cO, cN, sSk, sSq, sI, sL, sR, sInc, sF, sFO, sAI, sAZ, sAO, sX, sXp, sIf, sCut, sSqs, sSw, sRt, sRz_g, is01_b, is01_0, is01_1, sRv, sBk, sCt, sCp, lset, lclr, lcut, lini, lx, Value.category, ixOf, b2i_0, b2i_1]
                    simp (disch := omega) only [LIT, L_0le, L_0lt, L_0eq, L_eq0, L_le0, L_lt0, L_1eq, L_eq1, L_1le, L_1lt, L_lt1, L_le1, L_p1, nI_ltI, nI_leI, nI_eq, nI_add, nI_clamp]
                  case h12 =>
                    by_cases hlt3 : a < 16
                    · have e85 := k2'.1 a hlt3
                      have e71b : s4.1 72 a = rwx x' a := by rw [k1.2 _ _ (by omega)]; exact f2 a hlt3
                      have go := fun v (hv : v = nI ((dAt (aP A) (rB (aR A)) (aX A) j).1 + cnt (fun a => decide (M.1 a ≠ rwx x' a)) (a + 1))) => hX3 (16 - (a + 1)) [.ref 65, .int (nI n), .int v, .int (nI j), .int (rv x'), .int (nI (a + 1))] (hp scr s4) (by rw [hz3]; omega) ⟨a + 1, rfl, hlt3, by rw [hv], rfl⟩
                      simp only [hlt3, decide_true, if_true]
                      simp [eV, eI, eL, eR, e1, e2, eDI, eDL, eFI, eFL, eFR, eAI, eAZ, eAR, eLen, aN, aC, xV, xS, eX, eIf, eC_b, cA, cO, cN, sSk, sSq, sI, sL, sR, sInc, sF, sFO, sAI, sAZ, sAO, sX, sXp, sIf, sCut, sSqs, sSw, sRt, sRz_g, is01_b, is01_0, is01_1, sRv, sBk, sCt, sCp, lset, lclr, lcut, lini, lx, Value.category, ixOf, b2i_0, b2i_1, T_R, G_R, ix80 hlt3 (by decide), ix80 (show a < 19 by omega) (by decide), e85, e71b]
                      by_cases c : M.1 a = rwx x' a
                      · simp [c, L_p1]
                        exact go _ (by simp [cnt, c])
                      · simp [c, L_p1]
                        exact go _ (by simp [cnt, c, ← Nat.add_assoc])
                    · have : a = 16 := by omega
                      subst this
                      simp only [hlt3, decide_false, Bool.false_eq_true, if_false]
                      simp [eV, eI, eL, eR, e1, e2, eDI, eDL, eFI, eFL, eFR, eAI, eAZ, eAR, eLen, aN, aC, xV, xS, eX, eIf, eC_b, cA, cO, cN, sSk, sSq, sI, sL, sR, sInc, sF, sFO, sAI, sAZ, sAO, sX, sXp, sIf, sCut, sSqs, sSw, sRt, sRz_g, is01_b, is01_0, is01_1, sRv, sBk, sCt, sCp, lset, lclr, lcut, lini, lx, Value.category, ixOf, b2i_0, b2i_1, L_p1]
                      refine hX _ _ _ (by rw [hz]; omega) ⟨j + 1, s4, rfl, hlt, by rw [nx]; simp, rfl, g14, by rw [nx, k1.1, f1.1]; exact x2, by rw [k1.2 _ _ (by omega)]; exact e71⟩
        · have : j = n := by omega
          subst this
          simp only [hlt, decide_false, Bool.false_eq_true, if_false]
          simp [eV, eI, eL, eR, e1, e2, eDI, eDL, eFI, eFL, eFR, eAI, eAZ, eAR, eLen, aN, aC, xV, xS, eX, eIf, eC_b, cA, cO, cN, sSk, sSq, sI, sL, sR, sInc, sF, sFO, sAI, sAZ, sAO, sX, sXp, sIf, sCut, sSqs, sSw, sRt, sRz_g, is01_b, is01_0, is01_1, sRv, sBk, sCt, sCp, lset, lclr, lcut, lini, lx, Value.category, ixOf, b2i_0, b2i_1]
          exact hQ s1 ⟨g1.1, fun r k q => g1.2 r k (by omega)⟩ (IR_L g1 (by omega) h) g2
