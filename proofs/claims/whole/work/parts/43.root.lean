theorem n9lt : ((-9 : Int32) < 0) = True := by decide
theorem s_Pack_rootAt {P : PC} {b : Nat} (hb : pB b) (scr : List Int32) {s : MS} (hP : okP P) (hm : mC P 6 s) {f : Nat → Nat → Bool} (hf : mFD f (b + 7) (b + 8) P.1 s) {out kp : Nat → Bool} (hob : ∀ k, k < 16 → bt (s.1 (b + 6) 4) k = out k) (hkb : ∀ k, k < 16 → bt (s.1 b 11) k = kp k) {w : Nat} (hw : w = 2 ∨ w = 4) (hwd : s.1 b 3 = nI w) {r c : Nat} (hr : r < 2) (hc : c ≤ 8) (Q : Option Value → HV → Prop)
    (h : Q (some (.int (if rtOk P (pDep f) out kp w r c then nI (encN (rtB P out kp w r c)) else -9))) (hp scr s)) : X_Pack_rootAt [.ref b, .int (nI r), .int (nI c)] (hp scr s) Q := by
  have h16 := hP.1
  have bf := pbf hb
  have w4 : w ≤ 4 := by omega
  have v16 : ∀ k, (rO P out kp r c k).getD 0 < 16 := by
    intro k
    cases e : rO P out kp r c k with
    | none => simp
    | some m => have := (rO_some e).1; simp; omega
  unfold rtOk at h
  simp [X_Pack_rootAt, B_Pack_rootAt, eV, eI, eL, eR, e1, e2, eDI, eDL, eFI, eFL, eFR, eAI, eAZ, eAR, eLen, aN, aC, xV, xS, eX, eIf, eC_b, cA, cO, cN, sSk, sSq, sI, sL, sR, sInc, sF, sFO, sAI, sAZ, sAO, sX, sXp, sIf, sCut, sSqs, sSw, sRt, sRz_g, is01_b, is01_0, is01_1, sRv, sBk, sCt, sCp, lset, lclr, lcut, lini, lx, Value.category, ixOf, b2i_0, b2i_1]
  refine lp_ind (fun z ls h => ∃ k, z = w - k ∧ k ≤ w ∧ allB (fun k => (rO P out kp r c k).isSome) k = true ∧ ls = [.ref b, .int (nI r), .int (nI c), .int (nI (encN (tab (fun k => (rO P out kp r c k).getD 0) k))), .int (nI k), .null] ∧ h = hp scr s) ?_ ⟨0, rfl, by omega, rfl, rfl, rfl⟩
  rintro z ls h' ⟨k, hz, hk, hA, rfl, rfl⟩ X hX
  refine cX (t := decide (k < w)) (h' := hp scr s) ?h1 ?h2
  case h1 =>
    intro K
    simp [eV, eI, eL, eR, e1, e2, eDI, eDL, eFI, eFL, eFR, eAI, eAZ, eAR, eLen, aN, aC, xV, xS, eX, eIf, eC_b, cA, cO, cN, sSk, sSq, sI, sL, sR, sInc, sF, sFO, sAI, sAZ, sAO, sX, sXp, sIf, sCut, sSqs, sSw, sRt, sRz_g, is01_b, is01_0, is01_1, sRv, sBk, sCt, sCp, lset, lclr, lcut, lini, lx, Value.category, ixOf, b2i_0, b2i_1, T_Pack hb, bf, hwd]
    simp (disch := omega) only [LIT, L_0le, L_0lt, L_0eq, L_eq0, L_le0, L_lt0, L_1eq, L_eq1, L_1le, L_1lt, L_lt1, L_le1, L_p1, nI_ltI, nI_leI, nI_eq, nI_add, nI_clamp]
  case h2 =>
    by_cases hlt : k < w
    · simp only [hlt, decide_true, if_true]
      simp [eV, eI, eL, eR, e1, e2, eDI, eDL, eFI, eFL, eFR, eAI, eAZ, eAR, eLen, aN, aC, xV, xS, eX, eIf, eC_b, cA, cO, cN, sSk, sSq, sI, sL, sR, sInc, sF, sFO, sAI, sAZ, sAO, sX, sXp, sIf, sCut, sSqs, sSw, sRt, sRz_g, is01_b, is01_0, is01_1, sRv, sBk, sCt, sCp, lset, lclr, lcut, lini, lx, Value.category, ixOf, b2i_0, b2i_1, T_Pack hb, bf, nI_add]
      refine s_Pack_leastStore hb scr hP hm hob hkb hr (c := c + k) (by omega) _ ⟨_, rfl, ?_⟩
      have e : rO P out kp r c k = lstO (pSt P out kp r (c + k)) P.1 := rfl
      rw [← e]
      cases hk2 : rO P out kp r c k with
      | none =>
        have : allB (fun k => (rO P out kp r c k).isSome) (k + 1) = false := by rw [allB, hk2]; simp
        have a2 : rtAll P out kp w r c = false := allB_no this hlt
        rw [a2] at h
        simp [n9lt]
        exact h
      | some m =>
        have m16 : m < 16 := by have := (rO_some hk2).1; omega
        have wl := s_withLane scr s (b := tab (fun k => (rO P out kp r c k).getD 0) k) (fun x hx => by obtain ⟨l, hl, rfl⟩ := tab_mem hx; exact v16 l) (by rw [tab_len]; omega) m16
        have es : tab (fun k => (rO P out kp r c k).getD 0) k ++ [m] = tab (fun k => (rO P out kp r c k).getD 0) (k + 1) := by rw [tab_s, hk2]; rfl
        rw [tab_len, es] at wl
        have ng : (nI m < 0) = False := L_lt0 (by omega)
        simp [ng, wl, L_p1]
        exact hX _ _ _ (by rw [hz]; omega) ⟨k + 1, rfl, hlt, by rw [allB, hA, hk2]; rfl, rfl, rfl⟩
    · have : k = w := by omega
      subst this
      have a2 : rtAll P out kp k r c = true := hA
      have hR := rt_wf a2
      rw [a2] at h
      simp only [hlt, decide_false, Bool.false_eq_true, if_false]
      simp [eV, eI, eL, eR, e1, e2, eDI, eDL, eFI, eFL, eFR, eAI, eAZ, eAR, eLen, aN, aC, xV, xS, eX, eIf, eC_b, cA, cO, cN, sSk, sSq, sI, sL, sR, sInc, sF, sFO, sAI, sAZ, sAO, sX, sXp, sIf, sCut, sSqs, sSw, sRt, sRz_g, is01_b, is01_0, is01_1, sRv, sBk, sCt, sCp, lset, lclr, lcut, lini, lx, Value.category, ixOf, b2i_0, b2i_1, T_Pack hb, bf, hwd]
      refine s_Links_isPack hb scr hP hm hf hw hR.1 _ ?_
      unfold rtB at h ⊢
      simp only [b2i_0, Option.some.injEq, Value.int.injEq, exists_eq_left']
      generalize pPk P (pDep f) k (tab (fun k => (rO P out kp r c k).getD 0) k) = u at h ⊢
      cases u with
      | false => simpa [b2i] using h
      | true => simpa [b2i] using h
def vO (o : Option Nat) : Int32 := match o with
  | some m => nI m
  | none => -9
theorem LSp_s {p : Nat → Bool} {lo n : Nat} {o : Option Nat} (h : LSp p (lo + 1) n o) (hl : lo < n) : LSp p lo n (if p lo then some lo else o) := by
  split
  · next q => exact ⟨Nat.le_refl _, hl, q, fun j a b => by omega⟩
  · next q =>
    simp only [Bool.not_eq_true] at q
    cases o with
    | none =>
      intro j a b
      rcases Nat.lt_or_ge lo j with r | r
      · exact h j r b
      · rw [show j = lo by omega]; exact q
    | some m =>
      obtain ⟨a, b, c, d⟩ := h
      refine ⟨by omega, b, c, fun j a2 b2 => ?_⟩
      rcases Nat.lt_or_ge lo j with r | r
      · exact d j r b2
      · rw [show j = lo by omega]; exact q
theorem s_R_laySeed {P : PC} (scr : List Int32) {s : MS} (hP : okP P) (hm : mR P s) {f : Nat → Nat → Bool} (hf : mFD f 78 79 P.1 s) {out kp : Nat → Bool} (hob : ∀ k, k < 16 → bt (s.1 65 18) k = out k) (hkp : ∀ i, i < P.1 → (s.1 80 i = -9) = (kp i = false)) {w : Nat} (hw : w = 2 ∨ w = 4) (t1 : s.1 65 19 = nI w) {r c : Nat} (hr : r < 2) (hc : c ≤ 8) (Q : Option Value → HV → Prop)
    (h : ∀ s', Fr (fun r _ => r = 84) s s' → mB w 0 (rtB P out kp w r c) s' → Q (some (.int (b2i (rtOk P (pDep f) out kp w r c)))) (hp scr s')) : X_R_laySeed [.ref 65, .int (nI r), .int (nI c)] (hp scr s) Q := by
  have h16 := hP.1
  unfold rtOk at h
  simp [X_R_laySeed, B_R_laySeed, eV, eI, eL, eR, e1, e2, eDI, eDL, eFI, eFL, eFR, eAI, eAZ, eAR, eLen, aN, aC, xV, xS, eX, eIf, eC_b, cA, cO, cN, sSk, sSq, sI, sL, sR, sInc, sF, sFO, sAI, sAZ, sAO, sX, sXp, sIf, sCut, sSqs, sSw, sRt, sRz_g, is01_b, is01_0, is01_1, sRv, sBk, sCt, sCp, lset, lclr, lcut, lini, lx, Value.category, ixOf, b2i_0, b2i_1]
  refine lp_ind (fun z ls h => ∃ k s', z = w - k ∧ k ≤ w ∧ ls = [.ref 65, .int (nI r), .int (nI c), .int (b2i (allB (fun k => (rO P out kp r c k).isSome) k)), .int (nI k), .null, .null, .null] ∧ h = hp scr s' ∧ Fr (fun r _ => r = 84) s s' ∧ ∀ j, j < k → s'.1 84 j = nI ((rO P out kp r c j).getD 0)) ?_ ⟨0, s, rfl, by omega, rfl, rfl, Fr.rf, fun j hj => by omega⟩
  rintro z ls h' ⟨k, s1, hz, hk, rfl, rfl, g1, g2⟩ X hX
  have e19 : s1.1 65 19 = nI w := by rw [g1.2 _ _ (by omega), t1]
  have m1 : mR P s1 := mR_fr g1 (by omega) (by omega) hm
  have hob1 : ∀ k, k < 16 → bt (s1.1 65 18) k = out k := fun k hk => by rw [g1.2 _ _ (by omega)]; exact hob k hk
  refine cX (t := decide (k < w)) (h' := hp scr s1) ?h1 ?h2
  case h1 =>
    intro K
    simp [eV, eI, eL, eR, e1, e2, eDI, eDL, eFI, eFL, eFR, eAI, eAZ, eAR, eLen, aN, aC, xV, xS, eX, eIf, eC_b, cA, cO, cN, sSk, sSq, sI, sL, sR, sInc, sF, sFO, sAI, sAZ, sAO, sX, sXp, sIf, sCut, sSqs, sSw, sRt, sRz_g, is01_b, is01_0, is01_1, sRv, sBk, sCt, sCp, lset, lclr, lcut, lini, lx, Value.category, ixOf, b2i_0, b2i_1, T_R, e19]
    simp (disch := omega) only [LIT, L_0le, L_0lt, L_0eq, L_eq0, L_le0, L_lt0, L_1eq, L_eq1, L_1le, L_1lt, L_lt1, L_le1, L_p1, nI_ltI, nI_leI, nI_eq, nI_add, nI_clamp]
  case h2 =>
    by_cases hlt : k < w
    · simp only [hlt, decide_true, if_true]
      simp [eV, eI, eL, eR, e1, e2, eDI, eDL, eFI, eFL, eFR, eAI, eAZ, eAR, eLen, aN, aC, xV, xS, eX, eIf, eC_b, cA, cO, cN, sSk, sSq, sI, sL, sR, sInc, sF, sFO, sAI, sAZ, sAO, sX, sXp, sIf, sCut, sSqs, sSw, sRt, sRz_g, is01_b, is01_0, is01_1, sRv, sBk, sCt, sCp, lset, lclr, lcut, lini, lx, Value.category, ixOf, b2i_0, b2i_1, T_R, m1.1]
      refine lp_ind (fun z ls h => ∃ i o, z = i ∧ i ≤ P.1 ∧ LSp (pSt P out kp r (c + k)) i P.1 o ∧ ls = [.ref 65, .int (nI r), .int (nI c), .int (b2i (allB (fun k => (rO P out kp r c k).isSome) k)), .int (nI k), .int (vO o), .int (nI i - 1), .null] ∧ h = hp scr s1) ?_ ⟨P.1, none, rfl, by omega, fun j a b => by omega, rfl, rfl⟩
      rintro z2 ls h' ⟨i, o, hz2, hi, ho, rfl, rfl⟩ X2 hX2
      have hF : ∀ i, i < P.1 → pSt P out kp r (c + k) i = (decide (pK P i = 6) && decide (pa P i = r) && decide (pb P i = c + k) && !kp i && !out i) := fun i _ => rfl
      have hO : rO P out kp r c k = lstO (pSt P out kp r (c + k)) P.1 := rfl
      generalize pSt P out kp r (c + k) = F at ho hF hO hX2
      refine cX (t := decide (0 < i)) (h' := hp scr s1) ?h3 ?h4
      case h3 =>
        intro K
        have : (0 ≤ nI i - 1) = (0 < i) := by
          by_cases q : 0 < i
          · rw [show (1 : Int32) = nI 1 from rfl, nI_sub (by omega)]
            simp [nI_pos' (show i - 1 < 2 ^ 31 by omega), q]
          · rw [show i = 0 by omega]; decide
        simp [eV, eI, eL, eR, e1, e2, eDI, eDL, eFI, eFL, eFR, eAI, eAZ, eAR, eLen, aN, aC, xV, xS, eX, eIf, eC_b, cA, cO, cN, sSk, sSq, sI, sL, sR, sInc, sF, sFO, sAI, sAZ, sAO, sX, sXp, sIf, sCut, sSqs, sSw, sRt, sRz_g, is01_b, is01_0, is01_1, sRv, sBk, sCt, sCp, lset, lclr, lcut, lini, lx, Value.category, ixOf, b2i_0, b2i_1, this]
      case h4 =>
        by_cases hp0 : 0 < i
        · obtain ⟨l, rfl⟩ : ∃ l, i = l + 1 := ⟨i - 1, by omega⟩
          have e0 : nI (l + 1) - 1 = nI l := by rw [show (1 : Int32) = nI 1 from rfl, nI_sub (by omega), Nat.add_sub_cancel]
          have hl : l < P.1 := by omega
          have kk := (hP.2 l hl).1
          have gl := m1.2 l hl
          have s2 := LSp_s ho hl
          simp only [hp0, decide_true, if_true, sCut, e0]
          rw [sSq_C (t := F l) ?h5 (by simp)]
          case h5 =>
            intro K
            have hq := fun Q => t_has scr s1 (s1.1 65 18) (show l < 32 by omega) Q
            rw [hob1 l (by omega)] at hq
            have n1 : (s1.1 80 l = -9) = (kp l = false) := by rw [g1.2 _ _ (by omega)]; exact hkp l hl
            rw [hF l hl]
            by_cases c1 : pK P l = 6
            · obtain ⟨-, u1, u2⟩ := memf hP hl (by unfold pMem; simp [c1])
              have g2' := gl.2.2.1 (by omega)
              simp [eV, eI, eL, eR, e1, e2, eDI, eDL, eFI, eFL, eFR, eAI, eAZ, eAR, eLen, aN, aC, xV, xS, eX, eIf, eC_b, cA, cO, cN, sSk, sSq, sI, sL, sR, sInc, sF, sFO, sAI, sAZ, sAO, sX, sXp, sIf, sCut, sSqs, sSw, sRt, sRz_g, is01_b, is01_0, is01_1, sRv, sBk, sCt, sCp, lset, lclr, lcut, lini, lx, Value.category, ixOf, b2i_0, b2i_1, T_R, G_R, ixf hP.1 hl, gl.1, gl.2.1, g2', n1, hq, nI_add, c1]
              simp (disch := omega) only [LIT, L_0le, L_0lt, L_0eq, L_eq0, L_le0, L_lt0, L_1eq, L_eq1, L_1le, L_1lt, L_lt1, L_le1, L_p1, nI_ltI, nI_leI, nI_eq, nI_add, nI_clamp]
              by_cases c2 : pa P l = r <;> by_cases c3 : pb P l = c + k <;> simp [c1, c2, c3, b2i_0]
              all_goals (cases kp l <;> cases out l <;> simp [b2i])
            · simp [eV, eI, eL, eR, e1, e2, eDI, eDL, eFI, eFL, eFR, eAI, eAZ, eAR, eLen, aN, aC, xV, xS, eX, eIf, eC_b, cA, cO, cN, sSk, sSq, sI, sL, sR, sInc, sF, sFO, sAI, sAZ, sAO, sX, sXp, sIf, sCut, sSqs, sSw, sRt, sRz_g, is01_b, is01_0, is01_1, sRv, sBk, sCt, sCp, lset, lclr, lcut, lini, lx, Value.category, ixOf, b2i_0, b2i_1, T_R, G_R, ixf hP.1 hl, gl.1]
              simp (disch := omega) only [LIT, L_0le, L_0lt, L_0eq, L_eq0, L_le0, L_lt0, L_1eq, L_eq1, L_1le, L_1lt, L_lt1, L_le1, L_p1, nI_ltI, nI_leI, nI_eq, nI_add, nI_clamp]
              simp [c1]
          have ev : ∀ t : Bool, vO (if t then some l else o) = if t then nI l else vO o := by intro t; cases t <;> rfl
          have em : nI l + -1 = nI l - 1 := by grind
          cases hFl : F l with
          | true =>
            simp [eV, eI, eL, eR, e1, e2, eDI, eDL, eFI, eFL, eFR, eAI, eAZ, eAR, eLen, aN, aC, xV, xS, eX, eIf, eC_b, cA, cO, cN, sSk, sSq, sI, sL, sR, sInc, sF, sFO, sAI, sAZ, sAO, sX, sXp, sIf, sCut, sSqs, sSw, sRt, sRz_g, is01_b, is01_0, is01_1, sRv, sBk, sCt, sCp, lset, lclr, lcut, lini, lx, Value.category, ixOf, b2i_0, b2i_1, em]
            refine hX2 _ _ _ (by rw [hz2]; omega) ⟨l, _, rfl, by omega, s2, ?_, rfl⟩
            rw [ev, hFl]; rfl
          | false =>
            simp [eV, eI, eL, eR, e1, e2, eDI, eDL, eFI, eFL, eFR, eAI, eAZ, eAR, eLen, aN, aC, xV, xS, eX, eIf, eC_b, cA, cO, cN, sSk, sSq, sI, sL, sR, sInc, sF, sFO, sAI, sAZ, sAO, sX, sXp, sIf, sCut, sSqs, sSw, sRt, sRz_g, is01_b, is01_0, is01_1, sRv, sBk, sCt, sCp, lset, lclr, lcut, lini, lx, Value.category, ixOf, b2i_0, b2i_1, em]
            refine hX2 _ _ _ (by rw [hz2]; omega) ⟨l, _, rfl, by omega, s2, ?_, rfl⟩
            rw [ev, hFl]; rfl
        · have i0 : i = 0 := by omega
          subst i0
          have hOo : rO P out kp r c k = o := hO.trans (lstO_eq ho)
          have g3 : ∀ x, x = (rO P out kp r c k).getD 0 → ∀ j, j < k + 1 → (up s1 84 k (nI x)).1 84 j = nI ((rO P out kp r c j).getD 0) := by
            rintro x rfl j hj
            simp only [up_get, true_and]
            by_cases c : j = k
            · subst c; rw [if_pos rfl]
            · rw [if_neg c]; exact g2 j (by omega)
          have eA : allB (fun k => (rO P out kp r c k).isSome) (k + 1) = (allB (fun k => (rO P out kp r c k).isSome) k && o.isSome) := by rw [allB, hOo]
          simp only [hp0, decide_false, Bool.false_eq_true, if_false]
          have go := fun x (hx : x = (rO P out kp r c k).getD 0) => hX (w - (k + 1)) [.ref 65, .int (nI r), .int (nI c), .int (b2i (allB (fun k => (rO P out kp r c k).isSome) (k + 1))), .int (nI (k + 1)), .null, .null, .null] (hp scr (up s1 84 k (nI x))) (by rw [hz]; omega) ⟨k + 1, _, rfl, hlt, rfl, rfl, g1.up _ rfl, g3 x hx⟩
          rw [eA, hOo] at go
          generalize allB (fun k => (rO P out kp r c k).isSome) k = u at go ⊢
          cases o with
          | none =>
            have go := go 0 rfl
            cases u <;> simp [eV, eI, eL, eR, e1, e2, eDI, eDL, eFI, eFL, eFR, eAI, eAZ, eAR, eLen, aN, aC, xV, xS, eX, eIf, eC_b, cA, cO, cN, sSk, sSq, sI, sL, sR, sInc, sF, sFO, sAI, sAZ, sAO, sX, sXp, sIf, sCut, sSqs, sSw, sRt, sRz_g, is01_b, is01_0, is01_1, sRv, sBk, sCt, sCp, lset, lclr, lcut, lini, lx, Value.category, ixOf, b2i_0, b2i_1, T_R, G_R, vO, ix80 (show k < 80 by omega) (by decide), L_p1] at go ⊢ <;> exact go
          | some m =>
            have m16 : m < 16 := by
              obtain ⟨_, b, _, _⟩ := ho
              omega
            have go := go m rfl
            have n9 := nI_n9 (show m < 2 ^ 31 by omega)
            cases u <;> simp [eV, eI, eL, eR, e1, e2, eDI, eDL, eFI, eFL, eFR, eAI, eAZ, eAR, eLen, aN, aC, xV, xS, eX, eIf, eC_b, cA, cO, cN, sSk, sSq, sI, sL, sR, sInc, sF, sFO, sAI, sAZ, sAO, sX, sXp, sIf, sCut, sSqs, sSw, sRt, sRz_g, is01_b, is01_0, is01_1, sRv, sBk, sCt, sCp, lset, lclr, lcut, lini, lx, Value.category, ixOf, b2i_0, b2i_1, T_R, G_R, vO, n9, ix80 (show k < 80 by omega) (by decide), L_p1] at go ⊢ <;> exact go
    · have : k = w := by omega
      subst this
      simp only [hlt, decide_false, Bool.false_eq_true, if_false]
      have hB : mB k 0 (rtB P out kp k r c) s1 := by
        intro j hj
        rw [Nat.zero_add]
        unfold rtB
        rw [tab_ln _ hj]
        exact g2 j hj
      have h := h s1 g1 hB
      cases hA : rtAll P out kp k r c with
      | false =>
        rw [hA] at h
        unfold rtAll at hA
        rw [hA]
        simp [eV, eI, eL, eR, e1, e2, eDI, eDL, eFI, eFL, eFR, eAI, eAZ, eAR, eLen, aN, aC, xV, xS, eX, eIf, eC_b, cA, cO, cN, sSk, sSq, sI, sL, sR, sInc, sF, sFO, sAI, sAZ, sAO, sX, sXp, sIf, sCut, sSqs, sSw, sRt, sRz_g, is01_b, is01_0, is01_1, sRv, sBk, sCt, sCp, lset, lclr, lcut, lini, lx, Value.category, ixOf, b2i_0, b2i_1]
        exact h
      | true =>
        have hR := rt_wf hA
        rw [hA] at h
        unfold rtAll at hA
        rw [hA]
        simp [eV, eI, eL, eR, e1, e2, eDI, eDL, eFI, eFL, eFR, eAI, eAZ, eAR, eLen, aN, aC, xV, xS, eX, eIf, eC_b, cA, cO, cN, sSk, sSq, sI, sL, sR, sInc, sF, sFO, sAI, sAZ, sAO, sX, sXp, sIf, sCut, sSqs, sSw, sRt, sRz_g, is01_b, is01_0, is01_1, sRv, sBk, sCt, sCp, lset, lclr, lcut, lini, lx, Value.category, ixOf, b2i_0, b2i_1, T_R]
        have d1 : mFD f 78 79 P.1 s1 := mFD_fr g1 (by omega) (by omega) hf
        refine s_R_isPack scr hP m1 d1 hw e19 hR.1 (a := 0) (by omega) hB _ ⟨_, rfl, ?_⟩
        simp only [b2i_0]
        generalize pPk P (pDep f) k (rtB P out kp k r c) = u at h ⊢
        cases u <;> simpa using h
