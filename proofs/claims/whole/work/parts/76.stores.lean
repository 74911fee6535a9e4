/-! the stores -/
def isSt (P : PC) (i : Nat) : Bool := decide (pK P i = 6)
def stL (P : PC) : List Nat := fl (isSt P) P.1
def ixS (P : PC) (i : Nat) : Nat := (fl (isSt P) i).length
theorem fl_nd (N : Nat → Bool) (n : Nat) : (fl N n).Nodup := List.Pairwise.filter _ List.nodup_range
theorem fl_getD (N : Nat → Bool) : ∀ (n k : Nat), k < (fl N n).length → (fl N n).getD k 0 < n ∧ N ((fl N n).getD k 0) = true ∧ (fl N ((fl N n).getD k 0)).length = k
  | 0, k, h => by simp [fl] at h
  | n + 1, k, h => by
    rw [fl_s] at h ⊢
    by_cases c : N n = true
    · rw [if_pos c] at h ⊢
      rw [getD_app1 h]
      by_cases e : k = (fl N n).length
      · rw [if_pos e]
        exact ⟨by omega, c, e.symm⟩
      · rw [if_neg e]
        simp only [List.length_append, List.length_singleton] at h
        have := fl_getD N n k (by omega)
        exact ⟨by omega, this.2.1, this.2.2⟩
    · rw [if_neg c] at h ⊢
      have := fl_getD N n k h
      exact ⟨by omega, this.2.1, this.2.2⟩
theorem fl_ix (N : Nat → Bool) {n i : Nat} (hi : i < n) (h : N i = true) : (fl N i).length < (fl N n).length ∧ (fl N n).getD (fl N i).length 0 = i := by
  have hm : i ∈ fl N n := mem_fl.mpr ⟨hi, h⟩
  obtain ⟨k, hk, e⟩ := List.getElem_of_mem hm
  have e2 : (fl N n).getD k 0 = i := by rw [List.getD_eq_getElem?_getD, List.getElem?_eq_getElem hk]; exact e
  have := (fl_getD N n k hk).2.2
  rw [e2] at this
  rw [this]
  exact ⟨hk, e2⟩
theorem stL_lt {P : PC} (hP : okP P) : ∀ x, x ∈ stL P → x < 16 := fun x hx => by
  have := (mem_fl.mp hx).1
  have := hP.1
  omega
theorem cnt_len {L : List Nat} (h : ∀ x, x ∈ L → x < 16) (hn : L.Nodup) : cnt (fun i => (setN L).testBit i) 16 = L.length := by
  rw [← (dif_nd L h).mpr hn]
  exact cnt_cong fun k _ => setN_bit L k
theorem s_Code_stores {P : PC} {c : Nat} (hc : c = 6 ∨ c = 13) (scr : List Int32) {s : MS} (hP : okP P) (hm : mC P c s) (Q : Option Value → HV → Prop) (h : Q (some (.int (nI (setN (stL P))))) (hp scr s)) : X_Code_stores [.ref c] (hp scr s) Q := by
  have h16 := hP.1
  simp [X_Code_stores, B_Code_stores, eV, eI, eL, eR, e1, e2, eDI, eDL, eFI, eFL, eFR, eAI, eAZ, eAR, eLen, aN, aC, xV, xS, eX, eIf, eC_b, cA, cO, cN, sSk, sSq, sI, sL, sR, sInc, sF, sFO, sAI, sAZ, sAO, sX, sXp, sIf, sCut, sSqs, sSw, sRt, sRz_g, is01_b, is01_0, is01_1, sRv, sBk, sCt, sCp, lset, lclr, lcut, lini, lx, Value.category, ixOf, b2i_0, b2i_1]
  refine lp_ind (fun z ls h => ∃ k, z = P.1 - k ∧ k ≤ P.1 ∧ ls = [.ref c, .int (nI (setN (fl (isSt P) k))), .int (nI k)] ∧ h = hp scr s) ?_ ⟨0, rfl, by omega, rfl, rfl⟩
  rintro z ls h' ⟨k, hz, hk, rfl, rfl⟩ X hX
  refine cX (t := decide (k < P.1)) (h' := hp scr s) ?h1 ?h2
  case h1 =>
    intro K
    simp [eV, eI, eL, eR, e1, e2, eDI, eDL, eFI, eFL, eFR, eAI, eAZ, eAR, eLen, aN, aC, xV, xS, eX, eIf, eC_b, cA, cO, cN, sSk, sSq, sI, sL, sR, sInc, sF, sFO, sAI, sAZ, sAO, sX, sXp, sIf, sCut, sSqs, sSw, sRt, sRz_g, is01_b, is01_0, is01_1, sRv, sBk, sCt, sCp, lset, lclr, lcut, lini, lx, Value.category, ixOf, b2i_0, b2i_1, T_Code hc, ccf hc, hm.1]
    simp (disch := omega) only [LIT, L_0le, L_0lt, L_0eq, L_eq0, L_le0, L_lt0, L_1eq, L_eq1, L_1le, L_1lt, L_lt1, L_le1, L_p1, nI_ltI, nI_leI, nI_eq, nI_add, nI_clamp]
  case h2 =>
    by_cases hlt : k < P.1
    · have kk := (hP.2 k hlt).1
      have e6 : (nI (pK P k) = 6) = (pK P k = 6) := by rw [show (6 : Int32) = nI 6 from rfl]; exact propext (nI_eq (by omega) (by decide))
      simp only [hlt, decide_true, if_true]
      have go := fun x (hx : x = nI (setN (fl (isSt P) (k + 1)))) => hX (P.1 - (k + 1)) [.ref c, .int x, .int (nI (k + 1))] (hp scr s) (by rw [hz]; omega) ⟨k + 1, rfl, hlt, by rw [hx], rfl⟩
      simp [eV, eI, eL, eR, e1, e2, eDI, eDL, eFI, eFL, eFR, eAI, eAZ, eAR, eLen, aN, aC, xV, xS, eX, eIf, eC_b, cA, cO, cN, sSk, sSq, sI, sL, sR, sInc, sF, sFO, sAI, sAZ, sAO, sX, sXp, sIf, sCut, sSqs, sSw, sRt, sRz_g, is01_b, is01_0, is01_1, sRv, sBk, sCt, sCp, lset, lclr, lcut, lini, lx, Value.category, ixOf, b2i_0, b2i_1, T_Code hc, ccf hc, G_Code hc, ixf hP.1 hlt, (hm.2 k hlt).1, e6]
      by_cases c6 : pK P k = 6
      · simp [c6, L_p1]
        refine go _ ?_
        rw [bit_nI (by omega), nI_or, ← setN_app, fl_s, if_pos (by simp [isSt, c6])]
      · simp [c6, L_p1]
        exact go _ (by rw [fl_s, if_neg (by simp [isSt, c6])])
    · have : k = P.1 := by omega
      subst this
      simp only [hlt, decide_false, Bool.false_eq_true, if_false]
      simp [eV, eI, eL, eR, e1, e2, eDI, eDL, eFI, eFL, eFR, eAI, eAZ, eAR, eLen, aN, aC, xV, xS, eX, eIf, eC_b, cA, cO, cN, sSk, sSq, sI, sL, sR, sInc, sF, sFO, sAI, sAZ, sAO, sX, sXp, sIf, sCut, sSqs, sSw, sRt, sRz_g, is01_b, is01_0, is01_1, sRv, sBk, sCt, sCp, lset, lclr, lcut, lini, lx, Value.category, ixOf, b2i_0, b2i_1]
      exact h
theorem s_count {P : PC} (scr : List Int32) (s : MS) {L : List Nat} (h : ∀ x, x ∈ L → x < 16) (hn : L.Nodup) (Q : Option Value → HV → Prop) : X_Int_bitCount [.int (nI (setN L))] (hp scr s) Q ↔ Q (some (.int (nI L.length))) (hp scr s) := by
  rw [s_bitCount scr s (setN_lt h), cnt_len h hn]
/-- the stores that are gone, if those stay that a set names -/
def outF (P : PC) (c : Nat) (i : Nat) : Bool := decide (i < P.1) && isSt P i && !c.testBit (ixS P i)
theorem ixS_le (P : PC) (i : Nat) : ixS P i ≤ i := by
  unfold ixS fl
  exact Nat.le_trans (List.length_filter_le _ _) (by simp)
theorem s_PL_storesOutside {P : PC} (scr : List Int32) {s : MS} (hP : okP P) (hm : mC P 6 s) {c : Nat} (hc : c < 2 ^ 31) (Q : Option Value → HV → Prop) (h : ∀ y, mk y (outF P c) → Q (some (.int y)) (hp scr s)) : X_PL_storesOutside [.ref 2, .int (nI c)] (hp scr s) Q := by
  have h16 := hP.1
  simp [X_PL_storesOutside, B_PL_storesOutside, eV, eI, eL, eR, e1, e2, eDI, eDL, eFI, eFL, eFR, eAI, eAZ, eAR, eLen, aN, aC, xV, xS, eX, eIf, eC_b, cA, cO, cN, sSk, sSq, sI, sL, sR, sInc, sF, sFO, sAI, sAZ, sAO, sX, sXp, sIf, sCut, sSqs, sSw, sRt, sRz_g, is01_b, is01_0, is01_1, sRv, sBk, sCt, sCp, lset, lclr, lcut, lini, lx, Value.category, ixOf, b2i_0, b2i_1]
  refine lp_ind (fun z ls h => ∃ k y, z = P.1 - k ∧ k ≤ P.1 ∧ mk y (fun i => decide (i < k) && outF P c i) ∧ ls = [.ref 2, .int (nI c), .int y, .int (nI (ixS P k)), .int (nI k)] ∧ h = hp scr s) ?_ ⟨0, 0, rfl, by omega, fun i hi => by rw [b_0]; simp, rfl, rfl⟩
  rintro z ls h' ⟨k, y, hz, hk, hy, rfl, rfl⟩ X hX
  refine cX (t := decide (k < P.1)) (h' := hp scr s) ?h1 ?h2
  case h1 =>
    intro K
    simp [eV, eI, eL, eR, e1, e2, eDI, eDL, eFI, eFL, eFR, eAI, eAZ, eAR, eLen, aN, aC, xV, xS, eX, eIf, eC_b, cA, cO, cN, sSk, sSq, sI, sL, sR, sInc, sF, sFO, sAI, sAZ, sAO, sX, sXp, sIf, sCut, sSqs, sSw, sRt, sRz_g, is01_b, is01_0, is01_1, sRv, sBk, sCt, sCp, lset, lclr, lcut, lini, lx, Value.category, ixOf, b2i_0, b2i_1, T_PL, T_Code c6, hm.1]
    simp (disch := omega) only [LIT, L_0le, L_0lt, L_0eq, L_eq0, L_le0, L_lt0, L_1eq, L_eq1, L_1le, L_1lt, L_lt1, L_le1, L_p1, nI_ltI, nI_leI, nI_eq, nI_add, nI_clamp]
  case h2 =>
    by_cases hlt : k < P.1
    · have kk := (hP.2 k hlt).1
      have e6 : (nI (pK P k) = 6) = (pK P k = 6) := by rw [show (6 : Int32) = nI 6 from rfl]; exact propext (nI_eq (by omega) (by decide))
      have ixk := ixS_le P k
      have ixs : ixS P (k + 1) = if isSt P k then ixS P k + 1 else ixS P k := by
        unfold ixS
        rw [fl_s]
        split <;> simp
      have nx : ∀ i, (decide (i < k + 1) && outF P c i) = ((decide (i < k) && outF P c i) || (decide (i = k) && (isSt P k && !c.testBit (ixS P k)))) := by
        intro i
        by_cases e : i = k
        · subst e; simp [outF, hlt]
        · rw [show (decide (i < k + 1)) = decide (i < k) by rw [decide_eq_decide]; omega]; simp [e]
      have th := fun Q => t_holds scr s (nI c) (show ixS P k < 32 by omega) Q
      rw [bt_nI, decide_eq_true (show ixS P k < 32 by omega), Bool.true_and] at th
      simp only [hlt, decide_true, if_true]
      have go := fun x (p : Nat) (hp1 : p = ixS P (k + 1)) (hx : mk x (fun i => decide (i < k + 1) && outF P c i)) => hX (P.1 - (k + 1)) [.ref 2, .int (nI c), .int x, .int (nI p), .int (nI (k + 1))] (hp scr s) (by rw [hz]; omega) ⟨k + 1, x, rfl, hlt, hx, by rw [hp1], rfl⟩
      simp [eV, eI, eL, eR, e1, e2, eDI, eDL, eFI, eFL, eFR, eAI, eAZ, eAR, eLen, aN, aC, xV, xS, eX, eIf, eC_b, cA, cO, cN, sSk, sSq, sI, sL, sR, sInc, sF, sFO, sAI, sAZ, sAO, sX, sXp, sIf, sCut, sSqs, sSw, sRt, sRz_g, is01_b, is01_0, is01_1, sRv, sBk, sCt, sCp, lset, lclr, lcut, lini, lx, Value.category, ixOf, b2i_0, b2i_1, T_PL, T_Code c6, G6, ixf hP.1 hlt, (mC6 hm hlt).1, e6]
      by_cases c6 : pK P k = 6
      · have i6 : isSt P k = true := by simp [isSt, c6]
        rw [i6] at nx ixs
        simp only [if_true] at ixs
        generalize c.testBit (ixS P k) = v at th nx
        cases v with
        | true =>
          simp [c6, th, b2i_t, L_p1]
          refine go _ _ ixs.symm fun i hi => ?_
          rw [hy i hi]; dsimp only; rw [nx]; simp
        | false =>
          simp [c6, th, b2i_f, L_p1]
          refine go _ _ ixs.symm fun i hi => ?_
          rw [b_or, hy i hi, b_bit (by omega) hi]; dsimp only; rw [nx]; simp
      · have i6 : isSt P k = false := by simp [isSt, c6]
        rw [i6] at nx ixs
        simp only [Bool.false_eq_true, if_false] at ixs
        simp [c6, L_p1]
        refine go _ _ ixs.symm fun i hi => ?_
        rw [hy i hi]; dsimp only; rw [nx]; simp
    · have : k = P.1 := by omega
      subst this
      simp only [hlt, decide_false, Bool.false_eq_true, if_false]
      simp [eV, eI, eL, eR, e1, e2, eDI, eDL, eFI, eFL, eFR, eAI, eAZ, eAR, eLen, aN, aC, xV, xS, eX, eIf, eC_b, cA, cO, cN, sSk, sSq, sI, sL, sR, sInc, sF, sFO, sAI, sAZ, sAO, sX, sXp, sIf, sCut, sSqs, sSw, sRt, sRz_g, is01_b, is01_0, is01_1, sRv, sBk, sCt, sCp, lset, lclr, lcut, lini, lx, Value.category, ixOf, b2i_0, b2i_1]
      refine h y fun i hi => ?_
      rw [hy i hi]
      dsimp only
      unfold outF
      by_cases q : i < P.1 <;> simp [q]
theorem outF_lt {P : PC} {c k : Nat} (h : outF P c k = true) : k < P.1 := by
  unfold outF at h
  simp only [Bool.and_eq_true, decide_eq_true_eq] at h
  exact h.1.1
theorem outF_6 {P : PC} {c i : Nat} (h : outF P c i = true) : pK P i = 6 := by
  unfold outF isSt at h
  simp only [Bool.and_eq_true, decide_eq_true_eq] at h
  exact h.1.2
/-- the sum of the gains, if those stores are there -/
def gv (P : PC) (w : Row) (c : Nat) : Int32 := (chs P w (outF P c)).2.2
abbrev FS : Nat → Nat → Prop := fun r _ => r = 64 ∨ (48 ≤ r ∧ r ≤ 60)
theorem pow2 {n : Nat} (hn : n ≤ 6) : 0 < 2 ^ n ∧ 2 ^ n ≤ 64 := ⟨Nat.two_pow_pos n, by
  have := Nat.pow_le_pow_right (n := 2) (by omega) hn
  omega⟩
theorem s_PL_sumGains {P : PC} (scr : List Int32) {s : MS} (hP : okP P) (hm : mC P 6 s) {w : Row} (ok : okRow w) (hw : mRw 20 w s) {n : Nat} (hn : n ≤ 6) (Q : Option Value → HV → Prop) (h : ∀ s', Fr FS s s' → (∀ c, c < 2 ^ n → s'.1 64 c = gv P w c) → Q none (hp scr s')) : X_PL_sumGainsOfAllChoices [.ref 2, .int (nI n)] (hp scr s) Q := by
  obtain ⟨p0, p64⟩ := pow2 hn
  have hb := T_Pack (b := 48) (Or.inr rfl)
  have eb := bit_nI (i := n) (by omega)
  simp [X_PL_sumGainsOfAllChoices, B_PL_sumGainsOfAllChoices, eV, eI, eL, eR, e1, e2, eDI, eDL, eFI, eFL, eFR, eAI, eAZ, eAR, eLen, aN, aC, xV, xS, eX, eIf, eC_b, cA, cO, cN, sSk, sSq, sI, sL, sR, sInc, sF, sFO, sAI, sAZ, sAO, sX, sXp, sIf, sCut, sSqs, sSw, sRt, sRz_g, is01_b, is01_0, is01_1, sRv, sBk, sCt, sCp, lset, lclr, lcut, lini, lx, Value.category, ixOf, b2i_0, b2i_1]
  refine lp_ind (fun z ls h => ∃ c s', z = 2 ^ n - c ∧ c ≤ 2 ^ n ∧ ls = [.ref 2, .int (nI n), .int (nI c)] ∧ h = hp scr s' ∧ Fr FS s s' ∧ ∀ d, d < c → s'.1 64 d = gv P w d) ?_ ⟨0, s, rfl, by omega, rfl, rfl, Fr.rf, fun d hd => by omega⟩
  rintro z ls h' ⟨c, s1, hz, hc, rfl, rfl, g1, g2⟩ X hX
  have m1 : mC P 6 s1 := mC_fr g1 (by omega) (by omega) hm
  refine cX (t := decide (c < 2 ^ n)) (h' := hp scr s1) ?h1 ?h2
  case h1 =>
    intro K
    have l1 : (nI c < nI (2 ^ n)) = (c < 2 ^ n) := propext (nI_ltI (by omega) (by omega))
    have l2 : (nI c < 64) = (c < 64) := by rw [show (64 : Int32) = nI 64 from rfl]; exact propext (nI_ltI (by omega) (by decide))
    simp [eV, eI, eL, eR, e1, e2, eDI, eDL, eFI, eFL, eFR, eAI, eAZ, eAR, eLen, aN, aC, xV, xS, eX, eIf, eC_b, cA, cO, cN, sSk, sSq, sI, sL, sR, sInc, sF, sFO, sAI, sAZ, sAO, sX, sXp, sIf, sCut, sSqs, sSw, sRt, sRz_g, is01_b, is01_0, is01_1, sRv, sBk, sCt, sCp, lset, lclr, lcut, lini, lx, Value.category, ixOf, b2i_0, b2i_1, T_PL, eb, l1, l2, G_row, arr_hn A_64, show Int32.ofNat 64 = 64 from rfl]
    by_cases q : c < 2 ^ n
    · have : c < 64 := by omega
      simp [q, this]
    · simp [q]
  case h2 =>
    by_cases hlt : c < 2 ^ n
    · simp only [hlt, decide_true, if_true]
      simp [eV, eI, eL, eR, e1, e2, eDI, eDL, eFI, eFL, eFR, eAI, eAZ, eAR, eLen, aN, aC, xV, xS, eX, eIf, eC_b, cA, cO, cN, sSk, sSq, sI, sL, sR, sInc, sF, sFO, sAI, sAZ, sAO, sX, sXp, sIf, sCut, sSqs, sSw, sRt, sRz_g, is01_b, is01_0, is01_1, sRv, sBk, sCt, sCp, lset, lclr, lcut, lini, lx, Value.category, ixOf, b2i_0, b2i_1, T_PL, hb]
      refine s_PL_storesOutside scr hP m1 (by omega) _ fun y hy => ⟨_, rfl, ?_⟩
      simp [hb]
      refine t_chooseT scr hP m1 (Or.inl rfl) ok (mRw_fr g1 (by omega) hw) hy (fun k => outF_lt) (fun i _ => outF_6) _ fun s2 f1 _ f2 => ⟨rfl, ?_⟩
      have e13 : s2.1 48 13 = gv P w c := f2.2.2.2.2.1
      simp [T_PL, hb, G_row, ix80 (show c < 64 by omega) (by decide), e13, L_p1]
      refine hX _ _ _ (by rw [hz]; omega) ⟨c + 1, _, rfl, hlt, rfl, rfl, (g1.tr f1 fun r k z => by omega).up _ (by omega), fun d hd => ?_⟩
      by_cases e : d = c
      · subst e; simp [up_get]
      · simp [up_get, e]
        rw [f1.2 _ _ (by omega)]
        exact g2 d (by omega)
    · have : c = 2 ^ n := by omega
      subst this
      simp only [hlt, decide_false, Bool.false_eq_true, if_false]
      exact h s1 g1 g2
theorem s_R_layStores {P : PC} (scr : List Int32) {s : MS} (hP : okP P) (hm : mR P s) (Q : Option Value → HV → Prop) (h : ∀ s', Fr (fun r _ => r = 88) s s' → ((stL P).length ≤ 6 → ∀ q, q < (stL P).length → s'.1 88 q = nI ((stL P).getD q 0)) → Q (some (.int (nI (stL P).length))) (hp scr s')) : X_R_layStores [.ref 65] (hp scr s) Q := by
  have h16 := hP.1
  simp [X_R_layStores, B_R_layStores, eV, eI, eL, eR, e1, e2, eDI, eDL, eFI, eFL, eFR, eAI, eAZ, eAR, eLen, aN, aC, xV, xS, eX, eIf, eC_b, cA, cO, cN, sSk, sSq, sI, sL, sR, sInc, sF, sFO, sAI, sAZ, sAO, sX, sXp, sIf, sCut, sSqs, sSw, sRt, sRz_g, is01_b, is01_0, is01_1, sRv, sBk, sCt, sCp, lset, lclr, lcut, lini, lx, Value.category, ixOf, b2i_0, b2i_1]
  refine lp_ind (fun z ls h => ∃ k s', z = P.1 - k ∧ k ≤ P.1 ∧ ls = [.ref 65, .int (nI (ixS P k)), .int (nI k)] ∧ h = hp scr s' ∧ Fr (fun r _ => r = 88) s s' ∧ (ixS P k ≤ 6 → ∀ q, q < ixS P k → s'.1 88 q = nI ((fl (isSt P) k).getD q 0))) ?_ ⟨0, s, rfl, by omega, rfl, rfl, Fr.rf, fun _ q hq => by simp [ixS, fl] at hq⟩
  rintro z ls h' ⟨k, s1, hz, hk, rfl, rfl, g1, g2⟩ X hX
  have m1 : mR P s1 := mR_fr g1 (by omega) (by omega) hm
  refine cX (t := decide (k < P.1)) (h' := hp scr s1) ?h1 ?h2
  case h1 =>
    intro K
    simp [eV, eI, eL, eR, e1, e2, eDI, eDL, eFI, eFL, eFR, eAI, eAZ, eAR, eLen, aN, aC, xV, xS, eX, eIf, eC_b, cA, cO, cN, sSk, sSq, sI, sL, sR, sInc, sF, sFO, sAI, sAZ, sAO, sX, sXp, sIf, sCut, sSqs, sSw, sRt, sRz_g, is01_b, is01_0, is01_1, sRv, sBk, sCt, sCp, lset, lclr, lcut, lini, lx, Value.category, ixOf, b2i_0, b2i_1, T_R, m1.1]
    simp (disch := omega) only [LIT, L_0le, L_0lt, L_0eq, L_eq0, L_le0, L_lt0, L_1eq, L_eq1, L_1le, L_1lt, L_lt1, L_le1, L_p1, nI_ltI, nI_leI, nI_eq, nI_add, nI_clamp]
  case h2 =>
    by_cases hlt : k < P.1
    · have kk := (hP.2 k hlt).1
      have e6 : (nI (pK P k) = 6) = (pK P k = 6) := by rw [show (6 : Int32) = nI 6 from rfl]; exact propext (nI_eq (by omega) (by decide))
      have ixk := ixS_le P k
      have ixs : ixS P (k + 1) = if isSt P k then ixS P k + 1 else ixS P k := by
        unfold ixS
        rw [fl_s]
        split <;> simp
      have l6 : (nI (ixS P k) < 6) = (ixS P k < 6) := by rw [show (6 : Int32) = nI 6 from rfl]; exact propext (nI_ltI (by omega) (by decide))
      simp only [hlt, decide_true, if_true]
      simp [eV, eI, eL, eR, e1, e2, eDI, eDL, eFI, eFL, eFR, eAI, eAZ, eAR, eLen, aN, aC, xV, xS, eX, eIf, eC_b, cA, cO, cN, sSk, sSq, sI, sL, sR, sInc, sF, sFO, sAI, sAZ, sAO, sX, sXp, sIf, sCut, sSqs, sSw, sRt, sRz_g, is01_b, is01_0, is01_1, sRv, sBk, sCt, sCp, lset, lclr, lcut, lini, lx, Value.category, ixOf, b2i_0, b2i_1, T_R, G_R, ixf hP.1 hlt, (m1.2 k hlt).1, e6]
      by_cases c6 : pK P k = 6
      · have i6 : isSt P k = true := by simp [isSt, c6]
        rw [i6] at ixs
        simp only [if_true] at ixs
        by_cases c : ixS P k < 6
        · simp [c6, l6, c, G_R, ix80 c (by decide), L_p1]
          refine hX _ _ _ (by rw [hz]; omega) ⟨k + 1, _, rfl, hlt, by rw [ixs], rfl, g1.up _ rfl, fun _ q hq => ?_⟩
          rw [fl_s, if_pos i6, getD_app1 (by simp; rw [ixs] at hq; exact hq)]
          by_cases e : q = ixS P k
          · subst e; simp [up_get, ixS]
          · rw [if_neg (show ¬ q = (fl (isSt P) k).length from e)]
            simp only [up_get, true_and, if_neg e]
            exact g2 (by omega) q (by omega)
        · simp [c6, l6, c, G_R, show (5 : Int32).toNatClampNeg = 5 from rfl, L_p1]
          exact hX _ _ _ (by rw [hz]; omega) ⟨k + 1, _, rfl, hlt, by rw [ixs], rfl, g1.up _ rfl, fun q => by omega⟩
      · have i6 : isSt P k = false := by simp [isSt, c6]
        rw [i6] at ixs
        simp only [Bool.false_eq_true, if_false] at ixs
        simp [c6, L_p1]
        refine hX _ _ _ (by rw [hz]; omega) ⟨k + 1, s1, rfl, hlt, by rw [ixs], rfl, g1, fun q6 q hq => ?_⟩
        rw [fl_s, i6]
        rw [ixs] at q6 hq
        exact g2 q6 q hq
    · have : k = P.1 := by omega
      subst this
      simp only [hlt, decide_false, Bool.false_eq_true, if_false]
      simp [eV, eI, eL, eR, e1, e2, eDI, eDL, eFI, eFL, eFR, eAI, eAZ, eAR, eLen, aN, aC, xV, xS, eX, eIf, eC_b, cA, cO, cN, sSk, sSq, sI, sL, sR, sInc, sF, sFO, sAI, sAZ, sAO, sX, sXp, sIf, sCut, sSqs, sSw, sRt, sRz_g, is01_b, is01_0, is01_1, sRv, sBk, sCt, sCp, lset, lclr, lcut, lini, lx, Value.category, ixOf, b2i_0, b2i_1]
      exact h s1 g1 g2
theorem s_R_gainsBy {P : PC} (scr : List Int32) {s : MS} (hP : okP P) (hm : mR P s) {w : Row} (ok : okRow w) (hw : mRw 71 w s) (hn : (stL P).length ≤ 6) (hs : ∀ q, q < (stL P).length → s.1 88 q = nI ((stL P).getD q 0)) {c : Nat} (hc : c < 2 ^ 31) (Q : Option Value → HV → Prop) (h : ∀ s', Fr FQ s s' → Q (some (.int (gv P w c))) (hp scr s')) : X_R_gainsBy [.ref 65, .int (nI c), .int (nI (stL P).length)] (hp scr s) Q := by
  have h16 := hP.1
  simp [X_R_gainsBy, B_R_gainsBy, eV, eI, eL, eR, e1, e2, eDI, eDL, eFI, eFL, eFR, eAI, eAZ, eAR, eLen, aN, aC, xV, xS, eX, eIf, eC_b, cA, cO, cN, sSk, sSq, sI, sL, sR, sInc, sF, sFO, sAI, sAZ, sAO, sX, sXp, sIf, sCut, sSqs, sSw, sRt, sRz_g, is01_b, is01_0, is01_1, sRv, sBk, sCt, sCp, lset, lclr, lcut, lini, lx, Value.category, ixOf, b2i_0, b2i_1]
  refine lp_ind (fun z ls h => ∃ k y, z = (stL P).length - k ∧ k ≤ (stL P).length ∧ mk y (fun i => decide (ixS P i < k) && outF P c i) ∧ ls = [.ref 65, .int (nI c), .int (nI (stL P).length), .int y, .int (nI k)] ∧ h = hp scr s) ?_ ⟨0, 0, rfl, by omega, fun i hi => by rw [b_0]; simp, rfl, rfl⟩
  rintro z ls h' ⟨k, y, hz, hk, hy, rfl, rfl⟩ X hX
  refine cX (t := decide (k < (stL P).length)) (h' := hp scr s) ?h1 ?h2
  case h1 =>
    intro K
    simp [eV, eI, eL, eR, e1, e2, eDI, eDL, eFI, eFL, eFR, eAI, eAZ, eAR, eLen, aN, aC, xV, xS, eX, eIf, eC_b, cA, cO, cN, sSk, sSq, sI, sL, sR, sInc, sF, sFO, sAI, sAZ, sAO, sX, sXp, sIf, sCut, sSqs, sSw, sRt, sRz_g, is01_b, is01_0, is01_1, sRv, sBk, sCt, sCp, lset, lclr, lcut, lini, lx, Value.category, ixOf, b2i_0, b2i_1]
    simp (disch := omega) only [LIT, L_0le, L_0lt, L_0eq, L_eq0, L_le0, L_lt0, L_1eq, L_eq1, L_1le, L_1lt, L_lt1, L_le1, L_p1, nI_ltI, nI_leI, nI_eq, nI_add, nI_clamp]
  case h2 =>
    by_cases hlt : k < (stL P).length
    · obtain ⟨j1, j2, j3⟩ := fl_getD (isSt P) P.1 k hlt
      have th := fun Q => t_has scr s (nI c) (show k < 32 by omega) Q
      rw [bt_nI, decide_eq_true (show k < 32 by omega), Bool.true_and] at th
      have e87 := hs k hlt
      have key : ∀ i, outF P c i = true → ixS P i = k → i = (fl (isSt P) P.1).getD k 0 := by
        intro i z q
        have := (fl_ix (isSt P) (outF_lt z) (by simp [isSt, outF_6 z])).2
        have q' : (fl (isSt P) i).length = k := q
        rw [q'] at this
        exact this.symm
      have e87 : s.1 88 k = nI ((fl (isSt P) P.1).getD k 0) := e87
      generalize (fl (isSt P) P.1).getD k 0 = j at j1 j2 j3 key e87
      have j3 : ixS P j = k := j3
      have nx : ∀ i, (decide (ixS P i < k + 1) && outF P c i) = ((decide (ixS P i < k) && outF P c i) || (decide (i = j) && !c.testBit k)) := by
        intro i
        by_cases e : i = j
        · subst e
          simp [outF, j3, j1, j2]
        · by_cases q : ixS P i = k
          · have : outF P c i = false := by
              rw [Bool.eq_false_iff]
              intro z
              exact e (key i z q)
            simp [this, e]
          · rw [show (decide (ixS P i < k + 1)) = decide (ixS P i < k) by rw [decide_eq_decide]; omega]; simp [e]
      simp only [hlt, decide_true, if_true]
      have go := fun x (hx : mk x (fun i => decide (ixS P i < k + 1) && outF P c i)) => hX ((stL P).length - (k + 1)) [.ref 65, .int (nI c), .int (nI (stL P).length), .int x, .int (nI (k + 1))] (hp scr s) (by rw [hz]; omega) ⟨k + 1, x, rfl, hlt, hx, rfl, rfl⟩
      generalize c.testBit k = v at th nx
      cases v with
      | true =>
        simp [eV, eI, eL, eR, e1, e2, eDI, eDL, eFI, eFL, eFR, eAI, eAZ, eAR, eLen, aN, aC, xV, xS, eX, eIf, eC_b, cA, cO, cN, sSk, sSq, sI, sL, sR, sInc, sF, sFO, sAI, sAZ, sAO, sX, sXp, sIf, sCut, sSqs, sSw, sRt, sRz_g, is01_b, is01_0, is01_1, sRv, sBk, sCt, sCp, lset, lclr, lcut, lini, lx, Value.category, ixOf, b2i_0, b2i_1, th, b2i_t, L_p1]
        exact go _ fun i hi => by rw [hy i hi]; dsimp only; rw [nx]; simp
      | false =>
        simp [eV, eI, eL, eR, e1, e2, eDI, eDL, eFI, eFL, eFR, eAI, eAZ, eAR, eLen, aN, aC, xV, xS, eX, eIf, eC_b, cA, cO, cN, sSk, sSq, sI, sL, sR, sInc, sF, sFO, sAI, sAZ, sAO, sX, sXp, sIf, sCut, sSqs, sSw, sRt, sRz_g, is01_b, is01_0, is01_1, sRv, sBk, sCt, sCp, lset, lclr, lcut, lini, lx, Value.category, ixOf, b2i_0, b2i_1, th, b2i_f, T_R, G_R, ix80 (show k < 6 by omega) (by decide), e87, L_p1]
        exact go _ fun i hi => by rw [b_or, hy i hi, b_bit (by omega) hi]; dsimp only; rw [nx]; simp
    · have : k = (stL P).length := by omega
      subst this
      have hy2 : mk y (outF P c) := fun i hi => by
        rw [hy i hi]
        dsimp only
        cases e : outF P c i with
        | false => simp
        | true =>
          have := (fl_ix (isSt P) (outF_lt e) (by simp [isSt, outF_6 e])).1
          have : ixS P i < (stL P).length := this
          simp [this]
      simp only [hlt, decide_false, Bool.false_eq_true, if_false]
      simp [eV, eI, eL, eR, e1, e2, eDI, eDL, eFI, eFL, eFR, eAI, eAZ, eAR, eLen, aN, aC, xV, xS, eX, eIf, eC_b, cA, cO, cN, sSk, sSq, sI, sL, sR, sInc, sF, sFO, sAI, sAZ, sAO, sX, sXp, sIf, sCut, sSqs, sSw, sRt, sRz_g, is01_b, is01_0, is01_1, sRv, sBk, sCt, sCp, lset, lclr, lcut, lini, lx, Value.category, ixOf, b2i_0, b2i_1, T_R]
      refine t_Rpack scr hP hm (Or.inl rfl) ok hw hy2 (fun i _ => outF_6) _ fun s1 g1 g2 g3 g4 => ⟨rfl, ?_⟩
      have e26 : s1.1 65 26 = gv P w c := g3.2.2.2.1
      simp [T_R, e26]
      exact h s1 g1
