abbrev FO (b : Nat) : Nat → Nat → Prop := fun r k => r = b + 4 ∨ r = b + 5 ∨ (r = b ∧ k = 9)
def fl (N : Nat → Bool) (n : Nat) : List Nat := (List.range n).filter N
theorem fl_s (N : Nat → Bool) (n : Nat) : fl N (n + 1) = if N n then fl N n ++ [n] else fl N n := by
  unfold fl
  rw [List.range_succ, List.filter_append]
  cases h : N n <;> simp [h]
theorem fl_len (N : Nat → Bool) {m n : Nat} (h : m ≤ n) : (fl N m).length ≤ (fl N n).length := by
  induction n with
  | zero => rw [show m = 0 by omega]; exact Nat.le_refl _
  | succ n ih =>
    rcases Nat.lt_or_ge m (n + 1) with r | r
    · refine Nat.le_trans (ih (by omega)) ?_
      rw [fl_s]
      split <;> simp
    · rw [show m = n + 1 by omega]; exact Nat.le_refl _
def mOr (b : Nat) (o : List Nat) (s : MS) : Prop := s.1 b 9 = nI o.length ∧ ∀ q, q < o.length → s.1 (b + 5) q = nI (o.getD q 0)
theorem getD_app1 {L : List Nat} {x p : Nat} (h : p < (L ++ [x]).length) : (L ++ [x]).getD p 0 = if p = L.length then x else L.getD p 0 := by
  rw [List.getD_eq_getElem?_getD, List.getD_eq_getElem?_getD, List.getElem?_append]
  simp only [List.length_append, List.length_singleton] at h
  split
  · rw [if_neg (by omega)]
  · rw [if_pos (by omega), show p - L.length = 0 by omega]
    rfl
theorem s_Pack_appendNode {P : PC} {b : Nat} (hb : pB b) (scr : List Int32) {s : MS} (hP : okP P) (hm : mC P 6 s) {x : Int32} {N : Nat → Bool} (hx : mk x N) {o : List Nat} (ho : mOr b o s) (hl : o.length + (fl N P.1).length ≤ 16) (n : Int32) (Q : Option Value → HV → Prop)
    (h : ∀ s', Fr (FO b) s s' → mOr b (o ++ fl N P.1) s' → (∀ j, j < P.1 → s'.1 (b + 4) j = if N j then n else s.1 (b + 4) j) → Q none (hp scr s')) : X_Pack_appendNode [.ref b, .int x, .int n] (hp scr s) Q := by
  have h16 := hP.1
  have bf := pbf hb
  simp [X_Pack_appendNode, B_Pack_appendNode, eV, eI, eL, eR, e1, e2, eDI, eDL, eFI, eFL, eFR, eAI, eAZ, eAR, eLen, aN, aC, xV, xS, eX, eIf, eC_b, cA, cO, cN, sSk, sSq, sI, sL, sR, sInc, sF, sFO, sAI, sAZ, sAO, sX, sXp, sIf, sCut, sSqs, sSw, sRt, sRz_g, is01_b, is01_0, is01_1, sRv, sBk, sCt, sCp, lset, lclr, lcut, lini, lx, Value.category, ixOf, b2i_0, b2i_1]
  refine lp_ind (fun z ls h => ∃ k s', z = P.1 - k ∧ k ≤ P.1 ∧ ls = [.ref b, .int x, .int n, .int (nI k)] ∧ h = hp scr s' ∧ Fr (FO b) s s' ∧ mOr b (o ++ fl N k) s' ∧ (∀ j, j < k → s'.1 (b + 4) j = if N j then n else s.1 (b + 4) j) ∧ ∀ j, k ≤ j → s'.1 (b + 4) j = s.1 (b + 4) j) ?_ ⟨0, s, rfl, by omega, rfl, rfl, Fr.rf, by simpa [fl] using ho, fun j hj => by omega, fun j _ => rfl⟩
  rintro z ls h' ⟨k, s1, hz, hk, rfl, rfl, g1, ⟨g2, g3⟩, g4, g5⟩ X hX
  have m1 : mC P 6 s1 := mC_fr g1 (by omega) (by omega) hm
  refine cX (t := decide (k < P.1)) (h' := hp scr s1) ?h1 ?h2
  case h1 =>
    intro K
    simp [eV, eI, eL, eR, e1, e2, eDI, eDL, eFI, eFL, eFR, eAI, eAZ, eAR, eLen, aN, aC, xV, xS, eX, eIf, eC_b, cA, cO, cN, sSk, sSq, sI, sL, sR, sInc, sF, sFO, sAI, sAZ, sAO, sX, sXp, sIf, sCut, sSqs, sSw, sRt, sRz_g, is01_b, is01_0, is01_1, sRv, sBk, sCt, sCp, lset, lclr, lcut, lini, lx, Value.category, ixOf, b2i_0, b2i_1, T_Pack hb, T_Code c6, bf, m1.1]
    simp (disch := omega) only [LIT, L_0le, L_0lt, L_0eq, L_eq0, L_le0, L_lt0, L_1eq, L_eq1, L_1le, L_1lt, L_lt1, L_le1, L_p1, nI_ltI, nI_leI, nI_eq, nI_add, nI_clamp]
  case h2 =>
    by_cases hlt : k < P.1
    · have hq := fun Q => t_holds scr s1 x (show k < 32 by omega) Q
      rw [hx k (by omega)] at hq
      have le := fl_len N (show k + 1 ≤ P.1 by omega)
      rw [fl_s] at le
      simp only [hlt, decide_true, if_true]
      refine cIf (t := N k) (h' := hp scr s1) ?h3 ?h4
      case h3 =>
        intro K
        simp [eV, eI, eL, eR, e1, e2, eDI, eDL, eFI, eFL, eFR, eAI, eAZ, eAR, eLen, aN, aC, xV, xS, eX, eIf, eC_b, cA, cO, cN, sSk, sSq, sI, sL, sR, sInc, sF, sFO, sAI, sAZ, sAO, sX, sXp, sIf, sCut, sSqs, sSw, sRt, sRz_g, is01_b, is01_0, is01_1, sRv, sBk, sCt, sCp, lset, lclr, lcut, lini, lx, Value.category, ixOf, b2i_0, b2i_1, hq, b2i_0]
        cases hN : N k with
        | false => simp
        | true =>
          rw [hN, if_pos rfl] at le
          simp only [List.length_append, List.length_singleton] at le
          have : (s1.1 b 9 < 16) = True := by
            rw [g2, show (16 : Int32) = nI 16 from rfl]
            apply eq_true
            rw [nI_ltI (by simp; omega) (by omega)]
            simp; omega
          simp [T_Pack hb, bf, this]
      case h4 =>
        cases hN : N k with
        | false =>
          simp [eV, eI, eL, eR, e1, e2, eDI, eDL, eFI, eFL, eFR, eAI, eAZ, eAR, eLen, aN, aC, xV, xS, eX, eIf, eC_b, cA, cO, cN, sSk, sSq, sI, sL, sR, sInc, sF, sFO, sAI, sAZ, sAO, sX, sXp, sIf, sCut, sSqs, sSw, sRt, sRz_g, is01_b, is01_0, is01_1, sRv, sBk, sCt, sCp, lset, lclr, lcut, lini, lx, Value.category, ixOf, b2i_0, b2i_1, L_p1]
          refine hX _ _ _ (by rw [hz]; omega) ⟨k + 1, s1, rfl, hlt, rfl, rfl, g1, ?_, fun j hj => ?_, fun j hj => g5 j (by omega)⟩
          · rw [fl_s, hN]; exact ⟨g2, g3⟩
          · rcases Nat.lt_succ_iff_lt_or_eq.mp hj with r | r
            · exact g4 j r
            · rw [r, hN, g5 k (Nat.le_refl k)]; rfl
        | true =>
          rw [hN, if_pos rfl] at le
          simp only [List.length_append, List.length_singleton] at le
          have l16 : (o ++ fl N k).length < 16 := by simp; omega
          have ap : ∀ k', o ++ (fl N k' ++ [k']) = (o ++ fl N k') ++ [k'] := fun k' => (List.append_assoc _ _ _).symm
          have e9 : (up s1 (b + 4) k n).1 b 9 = nI (o ++ fl N k).length := by simp only [up_get]; rw [if_neg (by omega), g2]
          generalize hol : (o ++ fl N k) = ol at *
          simp only [if_true]
          simp [eV, eI, eL, eR, e1, e2, eDI, eDL, eFI, eFL, eFR, eAI, eAZ, eAR, eLen, aN, aC, xV, xS, eX, eIf, eC_b, cA, cO, cN, sSk, sSq, sI, sL, sR, sInc, sF, sFO, sAI, sAZ, sAO, sX, sXp, sIf, sCut, sSqs, sSw, sRt, sRz_g, is01_b, is01_0, is01_1, sRv, sBk, sCt, sCp, lset, lclr, lcut, lini, lx, Value.category, ixOf, b2i_0, b2i_1, T_Pack hb, U_Pack hb, G_Pack hb, bf, ixf hP.1 hlt, e9, g2, ix80 l16 (by decide), L_p1]
          refine hX _ _ _ (by rw [hz]; omega) ⟨k + 1, _, rfl, hlt, rfl, rfl, ((g1.up _ (by omega)).up _ (by omega)).up _ (by omega), ⟨?_, fun q hq2 => ?_⟩, fun j hj => ?_, fun j hj => ?_⟩
          · rw [fl_s, hN, if_pos rfl, ap, hol]
            simp [up_get, g2, L_p1]
          · rw [fl_s, hN, if_pos rfl, ap, hol] at hq2 ⊢
            rw [getD_app1 hq2]
            simp only [List.length_append, List.length_singleton] at hq2
            by_cases c : q = ol.length
            · simp [up_get, c]
            · simp [up_get, c]
              exact g3 q (by omega)
          · by_cases c : j = k
            · subst c; simp [up_get, hN]
            · simp [up_get, c]
              exact g4 j (by omega)
          · have c : j ≠ k := by omega
            simp [up_get, c]
            exact g5 j (by omega)
    · have : k = P.1 := by omega
      subst this
      simp only [hlt, decide_false, Bool.false_eq_true, if_false]
      exact h s1 g1 ⟨g2, g3⟩ g4
