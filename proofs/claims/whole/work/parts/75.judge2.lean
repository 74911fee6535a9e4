theorem sSq_L1 {i : Nat} {e : PX Int64} {r : PS} {kn kb kc : LV → HV → Prop} {kr : Option Value → HV → Prop} {ls : LV} {h h' : HV} {v : Int64} (hc : ∀ K : Int64 → HV → Prop, K v h' → e ls h K) (hi : i + 1 < ls.length) (hr : r kn kb kc kr (lset (lset ls (i + 1) .null) i (.long v)) h') : sSq (sL i e) r kn kb kc kr ls h := hc _ ⟨hi, hr⟩
def lrg (row : Int64) (N : Nat) : Bool := !decide (row < 0) && !decide (lN N ≤ row)
theorem lrg_n {row : Int64} {N : Nat} (hN : N < 2 ^ 63) (h : lrg row N = true) : ∃ r, r < N ∧ row = lN r := by
  unfold lrg at h
  simp only [Bool.and_eq_true, Bool.not_eq_true', decide_eq_false_iff_not] at h
  obtain ⟨r, h1, rfl⟩ := pk_lOf h.1
  have := h.2
  rw [pk_lLE hN h1] at this
  exact ⟨r, by omega, rfl⟩
theorem lrg_in {row : Int64} {N : Nat} (h0 : 0 < N) (hN : N < 2 ^ 63) : (decide (0 ≤ row) && decide (row ≤ lN N - 1)) = lrg row N := by
  unfold lrg
  have e1' : lN N - 1 = lN (N - 1) := by rw [show (1 : Int64) = lN 1 from rfl, lN_sub (by omega)]
  have e2' : (row ≤ lN N - 1) = ¬ (lN N ≤ row) := by
    rw [e1', Int64.le_iff_toInt_le, Int64.le_iff_toInt_le, pk_lT (by omega), pk_lT hN]
    apply propext
    omega
  simp only [e2', ← Int64.not_lt]
  by_cases h1 : row < 0 <;> by_cases h2 : lN N ≤ row <;> simp [h1, h2]
def dig (r n k : Nat) : Nat := r / 100000 ^ (n - 1 - k) % 100000
def jW (P : PC) (w : Row) (r n : Nat) : Nat → Row
  | 0 => w
  | k + 1 => (jOne P (jW P w r n k) (dig r n k)).2
def juA (A : AS) (x : Int32) (row : Int64) : Int32 := if rng 1 3 x && lrg row (100000 ^ x.toNatClampNeg) then vO (lstO (fun k => !(jOne (aP A) (jW (aP A) (aR A) row.toInt.toNat x.toNatClampNeg k) (dig row.toInt.toNat x.toNatClampNeg k)).1) x.toNatClampNeg) else -2
theorem jW_ok {P : PC} {w : Row} (r n : Nat) (ok : okRow w) : ∀ k, okRow (jW P w r n k)
  | 0 => ok
  | k + 1 => jOne_ok _ (jW_ok r n ok k)
theorem p5 {n : Nat} (hn : n ≤ 3) : 0 < 100000 ^ n ∧ 100000 ^ n < 2 ^ 63 := by
  rcases (show n = 0 ∨ n = 1 ∨ n = 2 ∨ n = 3 by omega) with rfl | rfl | rfl | rfl <;> decide
theorem rng_cases {x : Int32} : (rng 1 3 x = false ∧ (x < 1 ∨ ¬ x < 1 ∧ 3 < x)) ∨ (rng 1 3 x = true ∧ ¬ x < 1 ∧ ¬ 3 < x) := by
  unfold rng
  by_cases h1 : x < 1 <;> by_cases h2 : 3 < x <;> simp [h1, h2]
theorem dig_fact {r n k : Nat} (hn : n ≤ 3) (hr : r < 2 ^ 63) : lN r / lN (100000 ^ (n - 1 - k)) - lN r / lN (100000 ^ (n - 1 - k)) / 100000 * 100000 = lN (dig r n k) ∧ lN r / lN (100000 ^ (n - 1 - k)) = lN (r / 100000 ^ (n - 1 - k)) := by
  obtain ⟨p1, p2⟩ := p5 (n := n - 1 - k) (by omega)
  have e : lN r / lN (100000 ^ (n - 1 - k)) = lN (r / 100000 ^ (n - 1 - k)) := pk_lDiv hr p1 p2
  refine ⟨?_, e⟩
  rw [e, show (100000 : Int64) = lN 100000 from rfl, pk_lRem (Nat.lt_of_le_of_lt (Nat.div_le_self _ _) hr) (by decide) (by decide)]
  rfl
/-- what judge may change in the class -/
abbrev FJc : Nat → Nat → Prop := fun r _ => r = 23 ∨ r = 22 ∨ (48 ≤ r ∧ r ≤ 60)
/-- the commands from the j-th on, as they stand in their row -/
def mDg (r n j : Nat) (s : MS) : Prop := ∀ q, j ≤ q → q < n → s.1 23 q = nI (dig r n q)
theorem dv_fact {r n j : Nat} (h1 : 1 ≤ j) (hj : j ≤ n) (hr : r < 2 ^ 63) : lN (r / 100000 ^ (n - j)) - lN (r / 100000 ^ (n - j)) / 100000 * 100000 = lN (dig r n (j - 1)) ∧ lN (r / 100000 ^ (n - j)) / 100000 = lN (r / 100000 ^ (n - (j - 1))) := by
  have b : r / 100000 ^ (n - j) < 2 ^ 63 := Nat.lt_of_le_of_lt (Nat.div_le_self _ _) hr
  rw [show (100000 : Int64) = lN 100000 from rfl]
  refine ⟨?_, ?_⟩
  · rw [pk_lRem b (by decide) (by decide)]
    unfold dig
    rw [show n - 1 - (j - 1) = n - j by omega]
  · rw [pk_lDiv b (by decide) (by decide), Nat.div_div_eq_div_mul, ← Nat.pow_succ, show (n - j).succ = n - (j - 1) by omega]
theorem c_judge {A : AS} (hA : okA A) (scr : List Int32) {s : MS} (h : IC A s) (x : Int32) (row : Int64) (Q : Option Value → HV → Prop) (hQ : ∀ s', Fr Fc s s' → IC A s' → Q (some (.int (juA A x row))) (hp scr s')) : X_PL_judge [.ref 2, .int x, .long row] (hp scr s) Q := by
  have h' := h
  have h0 := hQ s Fr.rf h
  have fb := fun s' (g : Fr FJc s s') => hQ s' (g.wk fun r k z => by omega) (IC_fr g (by omega) h')
  have hP := hA.2.1
  have okw := hA.2.2.1
  obtain ⟨i1, i2, i3, i4, i5, i6, i7⟩ := h
  unfold juA at h0 fb
  simp [X_PL_judge, B_PL_judge, lini, lx, Value.category]
  refine sSqIf1 (t := !(rng 1 3 x && !decide (row < 0))) (h' := hp scr s) ?h1 ?h2
  case h1 =>
    intro K hK
    rcases rng_cases (x := x) with ⟨e, c⟩ | ⟨e, c1, c2⟩
    · rw [e] at hK
      rcases c with c | ⟨c1, c2⟩
      · simp [eV, eI, eL, eR, e1, e2, eDI, eDL, eFI, eFL, eFR, eAI, eAZ, eAR, eLen, aN, aC, xV, xS, eX, eIf, eC_b, cA, cO, cN, sSk, sSq, sI, sL, sR, sInc, sF, sFO, sAI, sAZ, sAO, sX, sXp, sIf, sCut, sSqs, sSw, sRt, sRz_g, is01_b, is01_0, is01_1, sRv, sBk, sCt, sCp, lset, lclr, lcut, lini, lx, Value.category, ixOf, b2i_0, b2i_1, c]; simpa using hK
      · simp [eV, eI, eL, eR, e1, e2, eDI, eDL, eFI, eFL, eFR, eAI, eAZ, eAR, eLen, aN, aC, xV, xS, eX, eIf, eC_b, cA, cO, cN, sSk, sSq, sI, sL, sR, sInc, sF, sFO, sAI, sAZ, sAO, sX, sXp, sIf, sCut, sSqs, sSw, sRt, sRz_g, is01_b, is01_0, is01_1, sRv, sBk, sCt, sCp, lset, lclr, lcut, lini, lx, Value.category, ixOf, b2i_0, b2i_1, c1, c2]; simpa using hK
    · rw [e] at hK
      simp [eV, eI, eL, eR, e1, e2, eDI, eDL, eFI, eFL, eFR, eAI, eAZ, eAR, eLen, aN, aC, xV, xS, eX, eIf, eC_b, cA, cO, cN, sSk, sSq, sI, sL, sR, sInc, sF, sFO, sAI, sAZ, sAO, sX, sXp, sIf, sCut, sSqs, sSw, sRt, sRz_g, is01_b, is01_0, is01_1, sRv, sBk, sCt, sCp, lset, lclr, lcut, lini, lx, Value.category, ixOf, b2i_0, b2i_1, c1, c2]
      simpa using hK
  cases hb : (rng 1 3 x && !decide (row < 0)) with
  | false =>
    have e : (rng 1 3 x && lrg row (100000 ^ x.toNatClampNeg)) = false := by
      unfold lrg
      cases a : rng 1 3 x with
      | false => rfl
      | true => rw [a, Bool.true_and] at hb; rw [hb]; rfl
    rw [e] at h0
    simp [eV, eI, eL, eR, e1, e2, eDI, eDL, eFI, eFL, eFR, eAI, eAZ, eAR, eLen, aN, aC, xV, xS, eX, eIf, eC_b, cA, cO, cN, sSk, sSq, sI, sL, sR, sInc, sF, sFO, sAI, sAZ, sAO, sX, sXp, sIf, sCut, sSqs, sSw, sRt, sRz_g, is01_b, is01_0, is01_1, sRv, sBk, sCt, sCp, lset, lclr, lcut, lini, lx, Value.category, ixOf, b2i_0, b2i_1]
    simpa using h0
  | true =>
    rw [Bool.and_eq_true] at hb
    obtain ⟨n, n1, n3, rfl⟩ := rng_1n (N := 3) (by decide) hb.1
    have r0 : ¬ row < 0 := by simpa using hb.2
    obtain ⟨r, hr, rfl⟩ := pk_lOf r0
    rw [hb.1, nI_clamp (by omega), show (lN r).toInt.toNat = r by rw [pk_lT hr]; rfl] at fb
    obtain ⟨p1, p2⟩ := p5 n3
    have lr : lrg (lN r) (100000 ^ n) = decide (r < 100000 ^ n) := by
      unfold lrg
      rw [decide_eq_false r0]
      have e : (lN (100000 ^ n) ≤ lN r) = ¬ (r < 100000 ^ n) := by rw [pk_lLE p2 hr]; exact propext Nat.not_lt.symm
      by_cases c : r < 100000 ^ n <;> simp [e, c]
    simp only [Bool.not_true, Bool.false_eq_true, if_false, sSk_eq]
    refine sSq_L1 (v := lN r) (h' := hp scr s) ?h3 (by simp) ?h4
    case h3 =>
      intro K hK
      simp [eV, eI, eL, eR, e1, e2, eDI, eDL, eFI, eFL, eFR, eAI, eAZ, eAR, eLen, aN, aC, xV, xS, eX, eIf, eC_b, cA, cO, cN, sSk, sSq, sI, sL, sR, sInc, sF, sFO, sAI, sAZ, sAO, sX, sXp, sIf, sCut, sSqs, sSw, sRt, sRz_g, is01_b, is01_0, is01_1, sRv, sBk, sCt, sCp, lset, lclr, lcut, lini, lx, Value.category, ixOf, b2i_0, b2i_1]
      exact hK
    refine sSq_S1 (ls' := [.ref 2, .int (nI n), .long (lN r), .null, .long (lN (r / 100000 ^ n)), .null, .null]) (scr := scr) (I := fun s' => Fr FJc s s' ∧ mDg r n 0 s') ?h5 ?h6
    case h5 =>
      intro kn hkn
      simp [eV, eI, eL, eR, e1, e2, eDI, eDL, eFI, eFL, eFR, eAI, eAZ, eAR, eLen, aN, aC, xV, xS, eX, eIf, eC_b, cA, cO, cN, sSk, sSq, sI, sL, sR, sInc, sF, sFO, sAI, sAZ, sAO, sX, sXp, sIf, sCut, sSqs, sSw, sRt, sRz_g, is01_b, is01_0, is01_1, sRv, sBk, sCt, sCp, lset, lclr, lcut, lini, lx, Value.category, ixOf, b2i_0, b2i_1]
      refine lp_ind (fun z ls h => ∃ j s', z = j ∧ j ≤ n ∧ ls = [.ref 2, .int (nI n), .long (lN r), .null, .long (lN (r / 100000 ^ (n - j))), .null, .int (nI j - 1)] ∧ h = hp scr s' ∧ Fr FJc s s' ∧ mDg r n j s') ?_ ⟨n, s, rfl, Nat.le_refl n, by simp, rfl, Fr.rf, fun q a b => by omega⟩
      rintro z ls h' ⟨j, s2, hz, hj, rfl, rfl, g1, g2⟩ X hX
      refine cX (t := decide (1 ≤ j)) (h' := hp scr s2) ?c1 ?c2
      case c1 =>
        intro K
        have e : (0 ≤ nI j - 1) = (1 ≤ j) := by
          rcases Nat.eq_zero_or_pos j with q | q
          · subst q; exact propext ⟨fun z => absurd z (by decide), fun z => by omega⟩
          · rw [show (1 : Int32) = nI 1 from rfl, nI_sub q]; exact propext ⟨fun _ => q, fun _ => nI_pos' (by omega)⟩
        simp [eV, eI, eL, eR, e1, e2, eDI, eDL, eFI, eFL, eFR, eAI, eAZ, eAR, eLen, aN, aC, xV, xS, eX, eIf, eC_b, cA, cO, cN, sSk, sSq, sI, sL, sR, sInc, sF, sFO, sAI, sAZ, sAO, sX, sXp, sIf, sCut, sSqs, sSw, sRt, sRz_g, is01_b, is01_0, is01_1, sRv, sBk, sCt, sCp, lset, lclr, lcut, lini, lx, Value.category, ixOf, b2i_0, b2i_1, e]
      case c2 =>
        by_cases hlt : 1 ≤ j
        · simp only [hlt, decide_true, if_true]
          obtain ⟨d1, d2⟩ := dv_fact hlt hj hr
          have ej : nI j - 1 = nI (j - 1) := by rw [show (1 : Int32) = nI 1 from rfl, nI_sub hlt]
          rw [ej]
          have d3 := congrArg Int64.toInt32 d1
          rw [lN_i] at d3
          simp at d3
          simp [eV, eI, eL, eR, e1, e2, eDI, eDL, eFI, eFL, eFR, eAI, eAZ, eAR, eLen, aN, aC, xV, xS, eX, eIf, eC_b, cA, cO, cN, sSk, sSq, sI, sL, sR, sInc, sF, sFO, sAI, sAZ, sAO, sX, sXp, sIf, sCut, sSqs, sSw, sRt, sRz_g, is01_b, is01_0, is01_1, sRv, sBk, sCt, sCp, lset, lclr, lcut, lini, lx, Value.category, ixOf, b2i_0, b2i_1, T_PL, G_row, ix80 (show j - 1 < 3 by omega) (by decide)]
          rw [d3, d2]
          refine hX _ _ _ (by rw [hz]; omega) ⟨j - 1, _, rfl, by omega, by grind, rfl, g1.up _ (Or.inl rfl), fun q a b => ?_⟩
          by_cases c : q = j - 1
          · subst c
            simp [up_get]
          · simp [up_get, c]
            exact g2 q (by omega) b
        · have e0 : j = 0 := by omega
          subst e0
          simp only [hlt, decide_false, Bool.false_eq_true, if_false]
          have := hkn s2 ⟨g1, g2⟩
          simpa [eV, eI, eL, eR, e1, e2, eDI, eDL, eFI, eFL, eFR, eAI, eAZ, eAR, eLen, aN, aC, xV, xS, eX, eIf, eC_b, cA, cO, cN, sSk, sSq, sI, sL, sR, sInc, sF, sFO, sAI, sAZ, sAO, sX, sXp, sIf, sCut, sSqs, sSw, sRt, sRz_g, is01_b, is01_0, is01_1, sRv, sBk, sCt, sCp, lset, lclr, lcut, lini, lx, Value.category, ixOf, b2i_0, b2i_1] using this
    rintro s2 ⟨g1, g2⟩
    refine sSqIf1 (t := !decide (r < 100000 ^ n)) (h' := hp scr s2) ?k1 ?k2
    case k1 =>
      intro K hK
      have e : (lN (r / 100000 ^ n) = 0) = (r < 100000 ^ n) := by
        rw [show (0 : Int64) = lN 0 from rfl, pk_lEQ (Nat.lt_of_le_of_lt (Nat.div_le_self _ _) hr) (by decide)]
        refine propext ⟨fun z => ?_, Nat.div_eq_of_lt⟩
        rcases Nat.lt_or_ge r (100000 ^ n) with q | q
        · exact q
        · have := Nat.div_pos q p1
          omega
      simp [eV, eI, eL, eR, e1, e2, eDI, eDL, eFI, eFL, eFR, eAI, eAZ, eAR, eLen, aN, aC, xV, xS, eX, eIf, eC_b, cA, cO, cN, sSk, sSq, sI, sL, sR, sInc, sF, sFO, sAI, sAZ, sAO, sX, sXp, sIf, sCut, sSqs, sSw, sRt, sRz_g, is01_b, is01_0, is01_1, sRv, sBk, sCt, sCp, lset, lclr, lcut, lini, lx, Value.category, ixOf, b2i_0, b2i_1, e]
      simpa using hK
    cases hc : decide (r < 100000 ^ n) with
    | false =>
      have f := fb s2 g1
      rw [lr, hc] at f
      simp [eV, eI, eL, eR, e1, e2, eDI, eDL, eFI, eFL, eFR, eAI, eAZ, eAR, eLen, aN, aC, xV, xS, eX, eIf, eC_b, cA, cO, cN, sSk, sSq, sI, sL, sR, sInc, sF, sFO, sAI, sAZ, sAO, sX, sXp, sIf, sCut, sSqs, sSw, sRt, sRz_g, is01_b, is01_0, is01_1, sRv, sBk, sCt, sCp, lset, lclr, lcut, lini, lx, Value.category, ixOf, b2i_0, b2i_1]
      simpa using f
    | true =>
      rw [lr, hc] at fb
      simp only [Bool.not_true, Bool.false_eq_true, if_false, sSk_eq]
      refine sSq_Cp (r := 20) (q := 22) (n := 19) (n2 := 19) (sp := 0) (dp := 0) (N := 19) A_20 A_22 (by omega) (by omega) (by omega) (by omega) ?_ (fun K hK => hK) ?_ (fun K hK => hK) (fun K hK => hK) ?_
      · intro K hK; simpa [eV, eI, eL, eR, e1, e2, eDI, eDL, eFI, eFL, eFR, eAI, eAZ, eAR, eLen, aN, aC, xV, xS, eX, eIf, eC_b, cA, cO, cN, sSk, sSq, sI, sL, sR, sInc, sF, sFO, sAI, sAZ, sAO, sX, sXp, sIf, sCut, sSqs, sSw, sRt, sRz_g, is01_b, is01_0, is01_1, sRv, sBk, sCt, sCp, lset, lclr, lcut, lini, lx, Value.category, ixOf, b2i_0, b2i_1, T_PL] using hK
      · intro K hK; simpa [eV, eI, eL, eR, e1, e2, eDI, eDL, eFI, eFL, eFR, eAI, eAZ, eAR, eLen, aN, aC, xV, xS, eX, eIf, eC_b, cA, cO, cN, sSk, sSq, sI, sL, sR, sInc, sF, sFO, sAI, sAZ, sAO, sX, sXp, sIf, sCut, sSqs, sSw, sRt, sRz_g, is01_b, is01_0, is01_1, sRv, sBk, sCt, sCp, lset, lclr, lcut, lini, lx, Value.category, ixOf, b2i_0, b2i_1, T_PL] using hK
      have c1 : Fr FJc s (cpS s2 20 22 0 0 19) := g1.tr cpS_fr fun r k z => by omega
      have c2 : mRw 22 (aR A) (cpS s2 20 22 0 0 19) := fun k hk => by rw [cpS_at hk, g1.2 _ _ (by omega)]; exact i3 k hk
      have c3 : mDg r n 0 (cpS s2 20 22 0 0 19) := fun q a b => by rw [cpS_fr.2 _ _ (by omega)]; exact g2 q a b
      generalize cpS s2 20 22 0 0 19 = s1 at c1 c2 c3 ⊢
      simp [eV, eI, eL, eR, e1, e2, eDI, eDL, eFI, eFL, eFR, eAI, eAZ, eAR, eLen, aN, aC, xV, xS, eX, eIf, eC_b, cA, cO, cN, sSk, sSq, sI, sL, sR, sInc, sF, sFO, sAI, sAZ, sAO, sX, sXp, sIf, sCut, sSqs, sSw, sRt, sRz_g, is01_b, is01_0, is01_1, sRv, sBk, sCt, sCp, lset, lclr, lcut, lini, lx, Value.category, ixOf, b2i_0, b2i_1]
      generalize hF : (fun k => !(jOne (aP A) (jW (aP A) (aR A) r n k) (dig r n k)).1) = F at fb
      refine lp_ind (fun z ls h => ∃ k s', z = n - k ∧ k ≤ n ∧ (∀ j, j < k → F j = false) ∧ ls = [.ref 2, .int (nI n), .long (lN r), .null, .long (lN (r / 100000 ^ n)), .null, .int (nI k)] ∧ h = hp scr s' ∧ Fr FJc s s' ∧ mRw 22 (jW (aP A) (aR A) r n k) s' ∧ mDg r n 0 s') ?_ ⟨0, s1, rfl, by omega, fun j hj => by omega, rfl, rfl, c1, c2, c3⟩
      rintro z ls h' ⟨k, s3, hz, hk, hj, rfl, rfl, g3, g4, g5⟩ X hX
      refine cX (t := decide (k < n)) (h' := hp scr s3) ?h7 ?h8
      case h7 =>
        intro K
        simp [eV, eI, eL, eR, e1, e2, eDI, eDL, eFI, eFL, eFR, eAI, eAZ, eAR, eLen, aN, aC, xV, xS, eX, eIf, eC_b, cA, cO, cN, sSk, sSq, sI, sL, sR, sInc, sF, sFO, sAI, sAZ, sAO, sX, sXp, sIf, sCut, sSqs, sSw, sRt, sRz_g, is01_b, is01_0, is01_1, sRv, sBk, sCt, sCp, lset, lclr, lcut, lini, lx, Value.category, ixOf, b2i_0, b2i_1]
        simp (disch := omega) only [LIT, L_0le, L_0lt, L_0eq, L_eq0, L_le0, L_lt0, L_1eq, L_eq1, L_1le, L_1lt, L_lt1, L_le1, L_p1, nI_ltI, nI_leI, nI_eq, nI_add, nI_clamp]
      case h8 =>
        by_cases hlt : k < n
        · have dlt : dig r n k < 100000 := Nat.mod_lt _ (by decide)
          have m2 : mC (aP A) 6 s3 := mC_fr g3 (by omega) (by omega) i2
          simp only [hlt, decide_true, if_true]
          refine cIf2 (scr := scr) (t := !(jOne (aP A) (jW (aP A) (aR A) r n k) (dig r n k)).1) (I := fun s4 => Fr FJc s s4 ∧ mRw 22 (jW (aP A) (aR A) r n (k + 1)) s4 ∧ mDg r n 0 s4) ?h9 ?h10
          case h9 =>
            intro K hK
            simp [eV, eI, eL, eR, e1, e2, eDI, eDL, eFI, eFL, eFR, eAI, eAZ, eAR, eLen, aN, aC, xV, xS, eX, eIf, eC_b, cA, cO, cN, sSk, sSq, sI, sL, sR, sInc, sF, sFO, sAI, sAZ, sAO, sX, sXp, sIf, sCut, sSqs, sSw, sRt, sRz_g, is01_b, is01_0, is01_1, sRv, sBk, sCt, sCp, lset, lclr, lcut, lini, lx, Value.category, ixOf, b2i_0, b2i_1, T_PL, G_row, ix80 (show k < 3 by omega) (by decide), g5 k (by omega) hlt]
            refine s_PL_isRight scr hP m2 (jW_ok r n okw k) g4 dlt _ fun s4 f1 f2 => ⟨_, rfl, ?_⟩
            have := hK s4 ⟨g3.tr f1 fun _ _ z => by omega, f2, fun q a b => by rw [f1.2 _ _ (by omega)]; exact g5 q a b⟩
            simp only [b2i_0]
            generalize (jOne (aP A) (jW (aP A) (aR A) r n k) (dig r n k)).1 = v at this ⊢
            cases v <;> simpa using this
          case h10 =>
            rintro s4 ⟨f1, f2, f3⟩
            have eF : F k = !(jOne (aP A) (jW (aP A) (aR A) r n k) (dig r n k)).1 := by rw [← hF]
            rw [← eF]
            cases hFk : F k with
            | true =>
              have := fb s4 f1
              rw [lstO_eq (p := F) (n := n) (o := some k) ⟨Nat.zero_le _, hlt, hFk, fun j _ q => hj j q⟩] at this
              simp [eV, eI, eL, eR, e1, e2, eDI, eDL, eFI, eFL, eFR, eAI, eAZ, eAR, eLen, aN, aC, xV, xS, eX, eIf, eC_b, cA, cO, cN, sSk, sSq, sI, sL, sR, sInc, sF, sFO, sAI, sAZ, sAO, sX, sXp, sIf, sCut, sSqs, sSw, sRt, sRz_g, is01_b, is01_0, is01_1, sRv, sBk, sCt, sCp, lset, lclr, lcut, lini, lx, Value.category, ixOf, b2i_0, b2i_1]
              simpa [vO] using this
            | false =>
              simp [eV, eI, eL, eR, e1, e2, eDI, eDL, eFI, eFL, eFR, eAI, eAZ, eAR, eLen, aN, aC, xV, xS, eX, eIf, eC_b, cA, cO, cN, sSk, sSq, sI, sL, sR, sInc, sF, sFO, sAI, sAZ, sAO, sX, sXp, sIf, sCut, sSqs, sSw, sRt, sRz_g, is01_b, is01_0, is01_1, sRv, sBk, sCt, sCp, lset, lclr, lcut, lini, lx, Value.category, ixOf, b2i_0, b2i_1, L_p1]
              refine hX _ _ _ (by rw [hz]; omega) ⟨k + 1, s4, rfl, hlt, fun j q => ?_, rfl, rfl, f1, f2, f3⟩
              rcases Nat.lt_succ_iff_lt_or_eq.mp q with q | q
              · exact hj j q
              · rw [q]; exact hFk
        · have ek : k = n := by omega
          subst ek
          have := fb s3 g3
          rw [lstO_eq (p := F) (n := k) (o := none) fun j _ q => hj j q] at this
          simp only [hlt, decide_false, Bool.false_eq_true, if_false]
          simpa [vO, eV, eI, eL, eR, e1, e2, eDI, eDL, eFI, eFL, eFR, eAI, eAZ, eAR, eLen, aN, aC, xV, xS, eX, eIf, eC_b, cA, cO, cN, sSk, sSq, sI, sL, sR, sInc, sF, sFO, sAI, sAZ, sAO, sX, sXp, sIf, sCut, sSqs, sSw, sRt, sRz_g, is01_b, is01_0, is01_1, sRv, sBk, sCt, sCp, lset, lclr, lcut, lini, lx, Value.category, ixOf, b2i_0, b2i_1] using this
theorem r_judge {A : AS} (hA : okA A) (scr : List Int32) {s : MS} (h : IR A s) (x : Int32) (row : Int64) (Q : Option Value → HV → Prop) (hQ : ∀ s', Fr Ft s s' → IR A s' → Q (some (.int (juA A x row))) (hp scr s')) : X_R_judge [.ref 65, .int x, .long row] (hp scr s) Q := by
  have h' := h
  have h0 := hQ s Fr.rf h
  have fz := fun s' (g : Fr Fz s s') => hQ s' (IR_z g (fun _ _ z => z) h').1 (IR_z g (fun _ _ z => z) h').2
  have hP := hA.2.1
  have okw := hA.2.2.1
  obtain ⟨i1, i2, i3, i4, i5, i6⟩ := h
  unfold juA at h0 fz
  have ti := fun Q => t_in scr s x 1 3 (A := 1) (B := 3) rfl rfl Q
  simp [X_R_judge, B_R_judge, lini, lx, Value.category]
  refine sSqIf1 (t := !(rng 1 3 x && lrg row (100000 ^ x.toNatClampNeg))) (h' := hp scr s) ?h1 ?h2
  case h1 =>
    intro K hK
    simp [eV, eI, eL, eR, e1, e2, eDI, eDL, eFI, eFL, eFR, eAI, eAZ, eAR, eLen, aN, aC, xV, xS, eX, eIf, eC_b, cA, cO, cN, sSk, sSq, sI, sL, sR, sInc, sF, sFO, sAI, sAZ, sAO, sX, sXp, sIf, sCut, sSqs, sSw, sRt, sRz_g, is01_b, is01_0, is01_1, sRv, sBk, sCt, sCp, lset, lclr, lcut, lini, lx, Value.category, ixOf, b2i_0, b2i_1, ti, nb]
    cases e : rng 1 3 x with
    | false =>
      rw [e] at hK
      simp; simpa using hK
    | true =>
      obtain ⟨n, n1, n3, rfl⟩ := rng_1n (N := 3) (by decide) e
      obtain ⟨p1, p2⟩ := p5 n3
      rw [e, nI_clamp (by omega)] at hK
      simp
      refine s_R_hundredThousands scr s (show n < 1000 by omega) _ ⟨_, rfl, ?_⟩
      rw [s_R_in, lrg_in p1 p2]
      refine ⟨_, rfl, ?_⟩
      simp only [b2i_0]
      generalize lrg row (100000 ^ n) = v at hK ⊢
      cases v <;> simpa using hK
  cases hb : (rng 1 3 x && lrg row (100000 ^ x.toNatClampNeg)) with
  | false =>
    rw [hb] at h0
    simp [eV, eI, eL, eR, e1, e2, eDI, eDL, eFI, eFL, eFR, eAI, eAZ, eAR, eLen, aN, aC, xV, xS, eX, eIf, eC_b, cA, cO, cN, sSk, sSq, sI, sL, sR, sInc, sF, sFO, sAI, sAZ, sAO, sX, sXp, sIf, sCut, sSqs, sSw, sRt, sRz_g, is01_b, is01_0, is01_1, sRv, sBk, sCt, sCp, lset, lclr, lcut, lini, lx, Value.category, ixOf, b2i_0, b2i_1]
    simpa using h0
  | true =>
    rw [hb] at fz
    rw [Bool.and_eq_true] at hb
    obtain ⟨n, n1, n3, rfl⟩ := rng_1n (N := 3) (by decide) hb.1
    rw [nI_clamp (by omega)] at hb fz
    obtain ⟨p1, p2⟩ := p5 n3
    obtain ⟨r, hr, rfl⟩ := lrg_n p2 hb.2
    have r63 : r < 2 ^ 63 := by omega
    rw [show (lN r).toInt.toNat = r by rw [pk_lT r63]; rfl] at fz
    simp only [Bool.not_true, Bool.false_eq_true, if_false, sSk_eq]
    refine sSq_S1 (ls' := [.ref 65, .int (nI n), .long (lN r), .null, .null, .null]) (scr := scr) (I := fun s1 => Fr FJ s s1 ∧ mRw 72 (aR A) s1) ?h3 ?h4
    case h3 =>
      intro kn hkn
      simp [eV, eI, eL, eR, e1, e2, eDI, eDL, eFI, eFL, eFR, eAI, eAZ, eAR, eLen, aN, aC, xV, xS, eX, eIf, eC_b, cA, cO, cN, sSk, sSq, sI, sL, sR, sInc, sF, sFO, sAI, sAZ, sAO, sX, sXp, sIf, sCut, sSqs, sSw, sRt, sRz_g, is01_b, is01_0, is01_1, sRv, sBk, sCt, sCp, lset, lclr, lcut, lini, lx, Value.category, ixOf, b2i_0, b2i_1, T_R]
      exact s_R_copy scr i3 _ fun s1 g1 g2 => ⟨rfl, hkn s1 ⟨g1.wk fun _ _ z => Or.inl z, g2⟩⟩
    rintro s1 ⟨c1, c2⟩
    simp [eV, eI, eL, eR, e1, e2, eDI, eDL, eFI, eFL, eFR, eAI, eAZ, eAR, eLen, aN, aC, xV, xS, eX, eIf, eC_b, cA, cO, cN, sSk, sSq, sI, sL, sR, sInc, sF, sFO, sAI, sAZ, sAO, sX, sXp, sIf, sCut, sSqs, sSw, sRt, sRz_g, is01_b, is01_0, is01_1, sRv, sBk, sCt, sCp, lset, lclr, lcut, lini, lx, Value.category, ixOf, b2i_0, b2i_1]
    generalize hF : (fun k => !(jOne (aP A) (jW (aP A) (aR A) r n k) (dig r n k)).1) = F at fz
    refine lp_ind (fun z ls h => ∃ k s', z = n - k ∧ k ≤ n ∧ (∀ j, j < k → F j = false) ∧ ls = [.ref 65, .int (nI n), .long (lN r), .null, .int (nI k), .null] ∧ h = hp scr s' ∧ Fr FJ s s' ∧ mRw 72 (jW (aP A) (aR A) r n k) s') ?_ ⟨0, s1, rfl, by omega, fun j hj => by omega, rfl, rfl, c1, c2⟩
    rintro z ls h' ⟨k, s2, hz, hk, hj, rfl, rfl, g1, g2⟩ X hX
    refine cX (t := decide (k < n)) (h' := hp scr s2) ?h5 ?h6
    case h5 =>
      intro K
      simp [eV, eI, eL, eR, e1, e2, eDI, eDL, eFI, eFL, eFR, eAI, eAZ, eAR, eLen, aN, aC, xV, xS, eX, eIf, eC_b, cA, cO, cN, sSk, sSq, sI, sL, sR, sInc, sF, sFO, sAI, sAZ, sAO, sX, sXp, sIf, sCut, sSqs, sSw, sRt, sRz_g, is01_b, is01_0, is01_1, sRv, sBk, sCt, sCp, lset, lclr, lcut, lini, lx, Value.category, ixOf, b2i_0, b2i_1]
      simp (disch := omega) only [LIT, L_0le, L_0lt, L_0eq, L_eq0, L_le0, L_lt0, L_1eq, L_eq1, L_1le, L_1lt, L_lt1, L_le1, L_p1, nI_ltI, nI_leI, nI_eq, nI_add, nI_clamp]
    case h6 =>
      by_cases hlt : k < n
      · have en : nI n - 1 - nI k = nI (n - 1 - k) := by rw [show (1 : Int32) = nI 1 from rfl, nI_sub (by omega), nI_sub (by omega)]
        obtain ⟨d1, d2⟩ := dig_fact (k := k) n3 r63
        obtain ⟨q1, q2⟩ := p5 (n := n - 1 - k) (by omega)
        have q0 : ¬ lN (100000 ^ (n - 1 - k)) = 0 := by rw [show (0 : Int64) = lN 0 from rfl, pk_lEQ q2 (by decide)]; omega
        have dlt : dig r n k < 100000 := Nat.mod_lt _ (by decide)
        have m2 : mR (aP A) s2 := mR_fr g1 (by omega) (by omega) i2
        have t1 : nI (dig r n k) / 10000 = nI (dig r n k / 10000) := by rw [show (10000 : Int32) = nI 10000 from rfl, pk_div (by omega) (by decide) (by decide)]
        have t2 : nI (dig r n k) - nI (dig r n k) / 10000 * 10000 = nI (dig r n k % 10000) := by rw [show (10000 : Int32) = nI 10000 from rfl, pk_rem (by omega) (by decide) (by decide)]
        simp only [hlt, decide_true, if_true, sCut]
        refine sSq_I1 (v := nI (dig r n k)) (h' := hp scr s2) ?h7 (by simp) ?h8
        case h7 =>
          intro K hK
          simp [eV, eI, eL, eR, e1, e2, eDI, eDL, eFI, eFL, eFR, eAI, eAZ, eAR, eLen, aN, aC, xV, xS, eX, eIf, eC_b, cA, cO, cN, sSk, sSq, sI, sL, sR, sInc, sF, sFO, sAI, sAZ, sAO, sX, sXp, sIf, sCut, sSqs, sSw, sRt, sRz_g, is01_b, is01_0, is01_1, sRv, sBk, sCt, sCp, lset, lclr, lcut, lini, lx, Value.category, ixOf, b2i_0, b2i_1, en]
          refine s_R_hundredThousands scr s2 (show n - 1 - k < 1000 by omega) _ ⟨_, rfl, q0, ?_⟩
          have d3 := congrArg Int64.toInt32 d1
          rw [lN_i] at d3
          simp at d3
          rw [d3]; exact hK
        rw [t1] at t2
        refine cIf2 (scr := scr) (t := !(jOne (aP A) (jW (aP A) (aR A) r n k) (dig r n k)).1) (I := fun s3 => Fr FJ s s3 ∧ mRw 72 (jW (aP A) (aR A) r n (k + 1)) s3) ?h9 ?h10
        case h9 =>
          intro K hK
          simp [eV, eI, eL, eR, e1, e2, eDI, eDL, eFI, eFL, eFR, eAI, eAZ, eAR, eLen, aN, aC, xV, xS, eX, eIf, eC_b, cA, cO, cN, sSk, sSq, sI, sL, sR, sInc, sF, sFO, sAI, sAZ, sAO, sX, sXp, sIf, sCut, sSqs, sSw, sRt, sRz_g, is01_b, is01_0, is01_1, sRv, sBk, sCt, sCp, lset, lclr, lcut, lini, lx, Value.category, ixOf, b2i_0, b2i_1, T_R, t1, t2]
          refine s_R_judged scr hP m2 (jW_ok r n okw k) g2 dlt _ fun s3 f1 f2 => ⟨_, rfl, ?_⟩
          have := hK s3 ⟨g1.tr f1 fun _ _ z => z, f2⟩
          simp only [b2i_0]
          generalize (jOne (aP A) (jW (aP A) (aR A) r n k) (dig r n k)).1 = v at this ⊢
          cases v <;> simpa using this
        case h10 =>
          rintro s3 ⟨f1, f2⟩
          have eF : F k = !(jOne (aP A) (jW (aP A) (aR A) r n k) (dig r n k)).1 := by rw [← hF]
          rw [← eF]
          cases hFk : F k with
          | true =>
            have := fz s3 (f1.wk fun r k z => by omega)
            rw [lstO_eq (p := F) (n := n) (o := some k) ⟨Nat.zero_le _, hlt, hFk, fun j _ q => hj j q⟩] at this
            simp [eV, eI, eL, eR, e1, e2, eDI, eDL, eFI, eFL, eFR, eAI, eAZ, eAR, eLen, aN, aC, xV, xS, eX, eIf, eC_b, cA, cO, cN, sSk, sSq, sI, sL, sR, sInc, sF, sFO, sAI, sAZ, sAO, sX, sXp, sIf, sCut, sSqs, sSw, sRt, sRz_g, is01_b, is01_0, is01_1, sRv, sBk, sCt, sCp, lset, lclr, lcut, lini, lx, Value.category, ixOf, b2i_0, b2i_1]
            simpa [vO] using this
          | false =>
            simp [eV, eI, eL, eR, e1, e2, eDI, eDL, eFI, eFL, eFR, eAI, eAZ, eAR, eLen, aN, aC, xV, xS, eX, eIf, eC_b, cA, cO, cN, sSk, sSq, sI, sL, sR, sInc, sF, sFO, sAI, sAZ, sAO, sX, sXp, sIf, sCut, sSqs, sSw, sRt, sRz_g, is01_b, is01_0, is01_1, sRv, sBk, sCt, sCp, lset, lclr, lcut, lini, lx, Value.category, ixOf, b2i_0, b2i_1, L_p1]
            refine hX _ _ _ (by rw [hz]; omega) ⟨k + 1, s3, rfl, hlt, fun j q => ?_, rfl, rfl, f1, f2⟩
            rcases Nat.lt_succ_iff_lt_or_eq.mp q with q | q
            · exact hj j q
            · rw [q]; exact hFk
      · have ek : k = n := by omega
        subst ek
        have := fz s2 (g1.wk fun r k z => by omega)
        rw [lstO_eq (p := F) (n := k) (o := none) fun j _ q => hj j q] at this
        simp only [hlt, decide_false, Bool.false_eq_true, if_false]
        simpa [vO, eV, eI, eL, eR, e1, e2, eDI, eDL, eFI, eFL, eFR, eAI, eAZ, eAR, eLen, aN, aC, xV, xS, eX, eIf, eC_b, cA, cO, cN, sSk, sSq, sI, sL, sR, sInc, sF, sFO, sAI, sAZ, sAO, sX, sXp, sIf, sCut, sSqs, sSw, sRt, sRz_g, is01_b, is01_0, is01_1, sRv, sBk, sCt, sCp, lset, lclr, lcut, lini, lx, Value.category, ixOf, b2i_0, b2i_1] using this
