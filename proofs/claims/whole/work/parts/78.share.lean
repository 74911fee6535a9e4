def pop (c : Nat) : Nat := cnt (fun i => c.testBit i) 16
theorem cnt_up {p : Nat → Bool} {n : Nat} (h : ∀ k, n ≤ k → p k = false) : ∀ d, cnt p (n + d) = cnt p n
  | 0 => rfl
  | d + 1 => by
    rw [← Nat.add_assoc, cnt, cnt_up h d, h (n + d) (by omega)]
    rfl
theorem pop_lt {c n ix : Nat} (hn : n ≤ 16) (hc : c < 2 ^ n) (hi : ix < n) (h : c.testBit ix = false) : pop c + 1 ≤ n := by
  have e : pop c = cnt (fun i => c.testBit i) n := by
    unfold pop
    have := cnt_up (p := fun i => c.testBit i) (n := n) (fun k hk => Nat.testBit_lt_two_pow (Nat.lt_of_lt_of_le hc (Nat.pow_le_pow_right (by omega) hk))) (16 - n)
    rw [show n + (16 - n) = 16 by omega] at this
    exact this
  rw [e]
  have := cnt_strict (p := fun i => c.testBit i) (q := fun _ => true) (fun _ _ => rfl) h rfl n hi
  have := cnt_le (fun _ => true) n
  omega
theorem pop_le {c n : Nat} (hn : n ≤ 16) (hc : c < 2 ^ n) : pop c ≤ n := by
  have e : pop c = cnt (fun i => c.testBit i) n := by
    unfold pop
    have := cnt_up (p := fun i => c.testBit i) (n := n) (fun k hk => Nat.testBit_lt_two_pow (Nat.lt_of_lt_of_le hc (Nat.pow_le_pow_right (by omega) hk))) (16 - n)
    rw [show n + (16 - n) = 16 by omega] at this
    exact this
  rw [e]
  exact cnt_le _ n
theorem t_pop (scr : List Int32) (s : MS) {c : Nat} (hc : c < 65536) (Q : Option Value → HV → Prop) : X_Int_bitCount [.int (nI c)] (hp scr s) Q ↔ Q (some (.int (nI (pop c)))) (hp scr s) := s_bitCount scr s hc Q
theorem t_ones (scr : List Int32) (s : MS) {c : Nat} (Q : Option Value → HV → Prop) (h : Q (some (.int (nI (pop c)))) (hp scr s)) : X_R_ones [.int (nI c)] (hp scr s) Q := by
  refine s_R_ones scr s (nI c) Q ?_
  have : cnt (bt (nI c)) 16 = pop c := cnt_cong fun k hk => by rw [bt_nI, decide_eq_true (by omega)]; rfl
  rw [this]
  exact h
theorem s_PL_ordersThrough (scr : List Int32) (s : MS) {c n : Nat} (hc : c < 65536) (hn : n ≤ 6) (hp1 : pop c + 1 ≤ n) (Q : Option Value → HV → Prop) (h : Q (some (.int (nI (facN (pop c)) * nI (facN (n - 1 - pop c))))) (hp scr s)) : X_PL_ordersThrough [.int (nI c), .int (nI n)] (hp scr s) Q := by
  have en : nI n - 1 - nI (pop c) = nI (n - 1 - pop c) := by rw [show (1 : Int32) = nI 1 from rfl, nI_sub (by omega), nI_sub (by omega)]
  obtain ⟨f1, f2, f3⟩ := fac0 scr s
  have a1 : (7 ≤ nI (pop c)) = False := by rw [show (7 : Int32) = nI 7 from rfl]; exact eq_false (by rw [nI_leI (by decide) (by omega)]; omega)
  have a2 : (7 ≤ nI (n - 1 - pop c)) = False := by rw [show (7 : Int32) = nI 7 from rfl]; exact eq_false (by rw [nI_leI (by decide) (by omega)]; omega)
  have a3 : (nI (n - 1 - pop c) < 0) = False := L_lt0 (by omega)
  have x1 := ix80 (show pop c < 7 by omega) (by decide)
  have x2 := ix80 (show n - 1 - pop c < 7 by omega) (by decide)
  simp [X_PL_ordersThrough, B_PL_ordersThrough, eV, eI, eL, eR, e1, e2, eDI, eDL, eFI, eFL, eFR, eAI, eAZ, eAR, eLen, aN, aC, xV, xS, eX, eIf, eC_b, cA, cO, cN, sSk, sSq, sI, sL, sR, sInc, sF, sFO, sAI, sAZ, sAO, sX, sXp, sIf, sCut, sSqs, sSw, sRt, sRz_g, is01_b, is01_0, is01_1, sRv, sBk, sCt, sCp, lset, lclr, lcut, lini, lx, Value.category, ixOf, b2i_0, b2i_1, t_pop scr s hc, en, f1, f2, show Int32.ofNat 7 = 7 from rfl, a1, a2, a3, x1, x2, f3 _ x1.1, f3 _ x2.1]
  exact h
def shV (P : PC) (w : Row) (n ix : Nat) : Nat → Int32
  | 0 => 0
  | c + 1 => if c.testBit ix then shV P w n ix c else shV P w n ix c + nI (facN (pop c)) * nI (facN (n - 1 - pop c)) * (gv P w (c ||| 2 ^ ix) - gv P w c)
theorem bdI_add {x y : Int32} {A B : Nat} (hx : bdI x A) (hy : bdI y B) (h : A + B < 2 ^ 31) : bdI (x + y) (A + B) := by
  obtain ⟨x1, x2⟩ := hx
  obtain ⟨y1, y2⟩ := hy
  unfold bdI
  rw [Int32.toInt_add, bmod_in (by omega) (by omega)]
  omega
theorem gv_le {P : PC} {w : Row} (hP : okP P) (ok : okRow w) (c : Nat) : ∃ g, gv P w c = nI g ∧ g ≤ 24 := chs_gain hP ok fun i _ => outF_6
theorem shT_bd {P : PC} {w : Row} (hP : okP P) (ok : okRow w) {n ix : Nat} (hn : n ≤ 6) (hi : ix < n) : ∀ c, c ≤ 2 ^ n → bdI (shV P w n ix c) (3000 * c)
  | 0, _ => by
    show -((3000 * 0 : Nat) : Int) ≤ (0 : Int32).toInt ∧ (0 : Int32).toInt ≤ _
    rw [show (0 : Int32).toInt = 0 from rfl]
    omega
  | c + 1, hc => by
    have ih := shT_bd hP ok hn hi c (by omega)
    have p64 := (pow2 hn).2
    rw [shV]
    split
    · obtain ⟨i1, i2⟩ := ih
      exact ⟨by omega, by omega⟩
    · next hb =>
      simp only [Bool.not_eq_true] at hb
      have pl := pop_lt (by omega) (show c < 2 ^ n by omega) hi hb
      obtain ⟨a, a1, a2⟩ := gv_le hP ok (c ||| 2 ^ ix)
      obtain ⟨b, b1, b2⟩ := gv_le hP ok c
      have f120 : facN (pop c) * facN (n - 1 - pop c) ≤ 120 := (by decide : ∀ x, x < 6 → ∀ y, y < 6 → x + y ≤ 5 → facN x * facN y ≤ 120) _ (by omega) _ (by omega) (by omega)
      rw [a1, b1, nI_mul]
      generalize facN (pop c) * facN (n - 1 - pop c) = F at f120
      have d := pk_sub_toInt (a := a) (b := b) (by omega) (by omega)
      have t : bdI (nI F * (nI a - nI b)) 3000 := by
        unfold bdI
        have u1 : (F : Int) * ((a : Int) - b) ≤ (F : Int) * 24 := Int.mul_le_mul_of_nonneg_left (by omega) (by omega)
        have u2 : (F : Int) * (-24) ≤ (F : Int) * ((a : Int) - b) := Int.mul_le_mul_of_nonneg_left (by omega) (by omega)
        rw [Int32.toInt_mul, d, nI_toInt (by omega), bmod_in (by omega) (by omega)]
        omega
      have := bdI_add ih t (by omega)
      rw [show 3000 * c + 3000 = 3000 * (c + 1) by omega] at this
      exact this
def shA (A : AS) (x up : Int32) : Int32 := if isI (aP A) x then (if isSt (aP A) x.toNatClampNeg && decide ((stL (aP A)).length ≤ 6) then frV (shV (aP A) (aR A) (stL (aP A)).length (ixS (aP A) x.toNatClampNeg) (2 ^ (stL (aP A)).length)) (facN (stL (aP A)).length) up else -3) else -1
theorem st_mask {P : PC} (hP : okP P) {i : Nat} (hi : i < P.1) : nI (setN (stL P)) &&& ((1 : Int32) <<< (nI i &&& 31) - 1) = nI (setN (fl (isSt P) i)) := by
  have h16 := hP.1
  rw [all_mask (by omega), nI_and]
  congr 1
  apply Nat.eq_of_testBit_eq
  intro k
  rw [Nat.testBit_and, setN_bit, setN_bit, Nat.testBit_two_pow_sub_one, Bool.eq_iff_iff]
  simp only [Bool.and_eq_true, List.contains_iff_mem, decide_eq_true_eq]
  unfold stL
  rw [mem_fl, mem_fl]
  constructor
  · rintro ⟨⟨a, b⟩, c⟩; exact ⟨c, b⟩
  · rintro ⟨a, b⟩; exact ⟨⟨by omega, b⟩, a⟩
theorem and_own {c ix : Nat} (hc : c < 2 ^ 31) (hi : ix < 31) : (nI c &&& nI (2 ^ ix) = 0) = (c.testBit ix = false) := by
  rw [nI_and, L_eq0 (Nat.lt_of_le_of_lt Nat.and_le_left hc)]
  apply propext
  constructor
  · intro h
    have := congrArg (fun x => Nat.testBit x ix) h
    simp only [Nat.testBit_and, Nat.testBit_two_pow_self, Bool.and_true, Nat.zero_testBit] at this
    exact this
  · intro h
    apply Nat.eq_of_testBit_eq
    intro k
    rw [Nat.testBit_and, Nat.testBit_two_pow, Nat.zero_testBit]
    by_cases e : ix = k
    · subst e; rw [h]; rfl
    · simp [e]
theorem fac_pos {n : Nat} (hn : n ≤ 6) : 1 ≤ facN n ∧ facN n ≤ 1000000 := (by decide : ∀ n, n < 7 → 1 ≤ facN n ∧ facN n ≤ 1000000) n (by omega)
theorem c_share {A : AS} (hA : okA A) (scr : List Int32) {s : MS} (h : IC A s) (x up : Int32) (Q : Option Value → HV → Prop) (hQ : ∀ s', Fr Fc s s' → IC A s' → Q (some (.int (shA A x up))) (hp scr s')) : X_PL_share [.ref 2, .int x, .int up] (hp scr s) Q := by
  have h' := h
  have h0 := hQ s Fr.rf h
  have fs := fun s' (g : Fr FS s s') => hQ s' (g.wk fun r k z => by omega) (IC_fr g (by omega) h')
  have hP := hA.2.1
  have h16 := hP.1
  have okw := hA.2.2.1
  obtain ⟨i1, i2, i3, i4, i5, i6, i7⟩ := h
  unfold shA at h0 fs
  simp [X_PL_share, B_PL_share, lini, lx, Value.category]
  rw [sSq_if (t := !isI (aP A) x) (by intro K; simp [eV, eI, eL, eR, e1, e2, eDI, eDL, eFI, eFL, eFR, eAI, eAZ, eAR, eLen, aN, aC, xV, xS, eX, eIf, eC_b, cA, cO, cN, sSk, sSq, sI, sL, sR, sInc, sF, sFO, sAI, sAZ, sAO, sX, sXp, sIf, sCut, sSqs, sSw, sRt, sRz_g, is01_b, is01_0, is01_1, sRv, sBk, sCt, sCp, lset, lclr, lcut, lini, lx, Value.category, ixOf, b2i_0, b2i_1, T_PL, T_Code c6, t_Code_has scr hP i2, nb])]
  cases hr : isI (aP A) x with
  | false =>
    rw [hr] at h0
    simp [eV, eI, eL, eR, e1, e2, eDI, eDL, eFI, eFL, eFR, eAI, eAZ, eAR, eLen, aN, aC, xV, xS, eX, eIf, eC_b, cA, cO, cN, sSk, sSq, sI, sL, sR, sInc, sF, sFO, sAI, sAZ, sAO, sX, sXp, sIf, sCut, sSqs, sSw, sRt, sRz_g, is01_b, is01_0, is01_1, sRv, sBk, sCt, sCp, lset, lclr, lcut, lini, lx, Value.category, ixOf, b2i_0, b2i_1]
    simpa using h0
  | true =>
    obtain ⟨i, hi, rfl⟩ := isI_n hP hr
    rw [hr, nI_clamp (by omega)] at h0 fs
    have sl := stL_lt hP
    have sn : (stL (aP A)).Nodup := fl_nd _ _
    have l16 : (stL (aP A)).length ≤ 16 := by
      have := cnt_len sl sn
      have := cnt_le (fun i => (setN (stL (aP A))).testBit i) 16
      omega
    have kk := (hP.2 i hi).1
    have e6 : (nI (pK (aP A) i) = 6) = (pK (aP A) i = 6) := by rw [show (6 : Int32) = nI 6 from rfl]; exact propext (nI_eq (by omega) (by decide))
    simp only [Bool.not_true, Bool.false_eq_true, if_false, sSk_eq]
    refine sSq_I1 (v := nI (stL (aP A)).length) (h' := hp scr s) ?h1 (by simp) ?h2
    case h1 =>
      intro K hK
      simp [eV, eI, eL, eR, e1, e2, eDI, eDL, eFI, eFL, eFR, eAI, eAZ, eAR, eLen, aN, aC, xV, xS, eX, eIf, eC_b, cA, cO, cN, sSk, sSq, sI, sL, sR, sInc, sF, sFO, sAI, sAZ, sAO, sX, sXp, sIf, sCut, sSqs, sSw, sRt, sRz_g, is01_b, is01_0, is01_1, sRv, sBk, sCt, sCp, lset, lclr, lcut, lini, lx, Value.category, ixOf, b2i_0, b2i_1, T_PL, T_Code c6]
      refine s_Code_stores c6 scr hP i2 _ ⟨_, rfl, ?_⟩
      rw [s_count (P := aP A) scr s sl sn]
      exact ⟨_, rfl, hK⟩
    have s1 : (pK (aP A) i = 6) = (isSt (aP A) i = true) := by unfold isSt; simp
    generalize hn : (stL (aP A)).length = n at *
    have l6 : (6 < nI n) = (6 < n) := by rw [show (6 : Int32) = nI 6 from rfl]; exact propext (nI_ltI (by decide) (by omega))
    simp only [lset, lclr, Value.category]
    rw [sSq_if (t := !(isSt (aP A) i && decide (n ≤ 6))) (by
      intro K
      simp [eV, eI, eL, eR, e1, e2, eDI, eDL, eFI, eFL, eFR, eAI, eAZ, eAR, eLen, aN, aC, xV, xS, eX, eIf, eC_b, cA, cO, cN, sSk, sSq, sI, sL, sR, sInc, sF, sFO, sAI, sAZ, sAO, sX, sXp, sIf, sCut, sSqs, sSw, sRt, sRz_g, is01_b, is01_0, is01_1, sRv, sBk, sCt, sCp, lset, lclr, lcut, lini, lx, Value.category, ixOf, b2i_0, b2i_1, T_PL, T_Code c6, G6, ixf hP.1 hi, (mC6 i2 hi).1, e6, l6]
      by_cases c1 : pK (aP A) i = 6
      · by_cases c2 : 6 < n
        · have : ¬ n ≤ 6 := by omega
          simp [c1, c2, this]
        · have : n ≤ 6 := by omega
          simp [isSt, c1, c2, this]
      · have : isSt (aP A) i = false := by simp [isSt, c1]
        simp [c1, this])]
    cases hb : (isSt (aP A) i && decide (n ≤ 6)) with
    | false =>
      rw [hb] at h0
      simp [eV, eI, eL, eR, e1, e2, eDI, eDL, eFI, eFL, eFR, eAI, eAZ, eAR, eLen, aN, aC, xV, xS, eX, eIf, eC_b, cA, cO, cN, sSk, sSq, sI, sL, sR, sInc, sF, sFO, sAI, sAZ, sAO, sX, sXp, sIf, sCut, sSqs, sSw, sRt, sRz_g, is01_b, is01_0, is01_1, sRv, sBk, sCt, sCp, lset, lclr, lcut, lini, lx, Value.category, ixOf, b2i_0, b2i_1]
      simpa using h0
    | true =>
      rw [hb] at fs
      rw [Bool.and_eq_true, decide_eq_true_eq] at hb
      obtain ⟨b1, b2⟩ := hb
      have ixn : ixS (aP A) i < n := by rw [← hn]; exact (fl_ix (isSt (aP A)) hi b1).1
      obtain ⟨p0, p64⟩ := pow2 b2
      simp only [Bool.not_true, Bool.false_eq_true, if_false, sSk_eq]
      refine sSq_S1 (ls' := [.ref 2, .int (nI i), .int up, .int (nI n), .null, .null, .null]) (scr := scr) (I := fun s1 => Fr FS s s1 ∧ ∀ c, c < 2 ^ n → s1.1 64 c = gv (aP A) (aR A) c) ?h3 ?h4
      case h3 =>
        intro kn hkn
        simp [eV, eI, eL, eR, e1, e2, eDI, eDL, eFI, eFL, eFR, eAI, eAZ, eAR, eLen, aN, aC, xV, xS, eX, eIf, eC_b, cA, cO, cN, sSk, sSq, sI, sL, sR, sInc, sF, sFO, sAI, sAZ, sAO, sX, sXp, sIf, sCut, sSqs, sSw, sRt, sRz_g, is01_b, is01_0, is01_1, sRv, sBk, sCt, sCp, lset, lclr, lcut, lini, lx, Value.category, ixOf, b2i_0, b2i_1, T_PL]
        exact s_PL_sumGains scr hP i2 okw i3 b2 _ fun s1 g1 g2 => ⟨rfl, hkn s1 ⟨g1, g2⟩⟩
      rintro s1 ⟨g1, g2⟩
      have m1 : mC (aP A) 6 s1 := mC_fr g1 (by omega) (by omega) i2
      have fl16 : ∀ y, y ∈ fl (isSt (aP A)) i → y < 16 := fun y hy => by have := (mem_fl.mp hy).1; omega
      refine sSq_I1 (v := nI (2 ^ ixS (aP A) i)) (h' := hp scr s1) ?h5 (by simp) ?h6
      case h5 =>
        intro K hK
        simp [eV, eI, eL, eR, e1, e2, eDI, eDL, eFI, eFL, eFR, eAI, eAZ, eAR, eLen, aN, aC, xV, xS, eX, eIf, eC_b, cA, cO, cN, sSk, sSq, sI, sL, sR, sInc, sF, sFO, sAI, sAZ, sAO, sX, sXp, sIf, sCut, sSqs, sSw, sRt, sRz_g, is01_b, is01_0, is01_1, sRv, sBk, sCt, sCp, lset, lclr, lcut, lini, lx, Value.category, ixOf, b2i_0, b2i_1, T_PL, T_Code c6]
        refine s_Code_stores c6 scr hP m1 _ ⟨_, rfl, ?_⟩
        rw [st_mask hP hi, s_count (P := aP A) scr s1 fl16 (fl_nd _ _)]
        refine ⟨_, rfl, ?_⟩
        rw [show (fl (isSt (aP A)) i).length = ixS (aP A) i from rfl, bit_nI (by omega)]
        exact hK
      simp only [lset, lclr, Value.category]
      generalize ixS (aP A) i = ix at *
      simp [eV, eI, eL, eR, e1, e2, eDI, eDL, eFI, eFL, eFR, eAI, eAZ, eAR, eLen, aN, aC, xV, xS, eX, eIf, eC_b, cA, cO, cN, sSk, sSq, sI, sL, sR, sInc, sF, sFO, sAI, sAZ, sAO, sX, sXp, sIf, sCut, sSqs, sSw, sRt, sRz_g, is01_b, is01_0, is01_1, sRv, sBk, sCt, sCp, lset, lclr, lcut, lini, lx, Value.category, ixOf, b2i_0, b2i_1]
      refine lp_ind (fun z ls h => ∃ c, z = 2 ^ n - c ∧ c ≤ 2 ^ n ∧ ls = [.ref 2, .int (nI i), .int up, .int (nI n), .int (nI (2 ^ ix)), .int (shV (aP A) (aR A) n ix c), .int (nI c)] ∧ h = hp scr s1) ?_ ⟨0, rfl, by omega, rfl, rfl⟩
      rintro z ls h' ⟨c, hz, hc, rfl, rfl⟩ X hX
      refine cX (t := decide (c < 2 ^ n)) (h' := hp scr s1) ?h7 ?h8
      case h7 =>
        intro K
        have l1 : (nI c < nI (2 ^ n)) = (c < 2 ^ n) := propext (nI_ltI (by omega) (by omega))
        simp [eV, eI, eL, eR, e1, e2, eDI, eDL, eFI, eFL, eFR, eAI, eAZ, eAR, eLen, aN, aC, xV, xS, eX, eIf, eC_b, cA, cO, cN, sSk, sSq, sI, sL, sR, sInc, sF, sFO, sAI, sAZ, sAO, sX, sXp, sIf, sCut, sSqs, sSw, sRt, sRz_g, is01_b, is01_0, is01_1, sRv, sBk, sCt, sCp, lset, lclr, lcut, lini, lx, Value.category, ixOf, b2i_0, b2i_1, bit_nI (show n < 32 by omega), l1]
      case h8 =>
        by_cases hlt : c < 2 ^ n
        · have go := fun v (hv : v = shV (aP A) (aR A) n ix (c + 1)) => hX (2 ^ n - (c + 1)) [.ref 2, .int (nI i), .int up, .int (nI n), .int (nI (2 ^ ix)), .int v, .int (nI (c + 1))] (hp scr s1) (by rw [hz]; omega) ⟨c + 1, rfl, hlt, by rw [hv], rfl⟩
          have ao := and_own (c := c) (ix := ix) (by omega) (by omega)
          have oo : c ||| 2 ^ ix < 2 ^ n := Nat.or_lt_two_pow hlt (Nat.pow_lt_pow_right (by omega) ixn)
          simp only [hlt, decide_true, if_true]
          simp [eV, eI, eL, eR, e1, e2, eDI, eDL, eFI, eFL, eFR, eAI, eAZ, eAR, eLen, aN, aC, xV, xS, eX, eIf, eC_b, cA, cO, cN, sSk, sSq, sI, sL, sR, sInc, sF, sFO, sAI, sAZ, sAO, sX, sXp, sIf, sCut, sSqs, sSw, sRt, sRz_g, is01_b, is01_0, is01_1, sRv, sBk, sCt, sCp, lset, lclr, lcut, lini, lx, Value.category, ixOf, b2i_0, b2i_1, ao]
          cases hbit : c.testBit ix with
          | true =>
            simp [L_p1]
            exact go _ (by rw [shV, if_pos hbit])
          | false =>
            simp
            refine s_PL_ordersThrough scr s1 (by omega) b2 (pop_lt (by omega) hlt ixn hbit) _ ⟨_, rfl, ?_⟩
            simp [T_PL, G_row, nI_or, ix80 (show c ||| 2 ^ ix < 64 by omega) (by decide), ix80 (show c < 64 by omega) (by decide), g2 _ oo, g2 _ hlt, L_p1]
            exact go _ (by rw [shV, hbit]; rfl)
        · have ec : c = 2 ^ n := by omega
          subst ec
          have bd := shT_bd hP okw b2 ixn (2 ^ n) (Nat.le_refl _)
          obtain ⟨f1, f2⟩ := fac_pos b2
          obtain ⟨q1, q2, q3⟩ := fac0 scr s1
          simp only [hlt, decide_false, Bool.false_eq_true, if_false]
          simp [eV, eI, eL, eR, e1, e2, eDI, eDL, eFI, eFL, eFR, eAI, eAZ, eAR, eLen, aN, aC, xV, xS, eX, eIf, eC_b, cA, cO, cN, sSk, sSq, sI, sL, sR, sInc, sF, sFO, sAI, sAZ, sAO, sX, sXp, sIf, sCut, sSqs, sSw, sRt, sRz_g, is01_b, is01_0, is01_1, sRv, sBk, sCt, sCp, lset, lclr, lcut, lini, lx, Value.category, ixOf, b2i_0, b2i_1, q1, ix80 (show n < 7 by omega) (by decide), q3 n (by omega)]
          refine s_PL_partOfFraction scr s1 (by omega) bd f1 f2 up _ ⟨_, rfl, ?_⟩
          simpa using fs s1 g1
theorem r_share {A : AS} (hA : okA A) (scr : List Int32) {s : MS} (h : IR A s) (x up : Int32) (Q : Option Value → HV → Prop) (hQ : ∀ s', Fr Ft s s' → IR A s' → Q (some (.int (shA A x up))) (hp scr s')) : X_R_share [.ref 65, .int x, .int up] (hp scr s) Q := by
  have h' := h
  have h0 := hQ s Fr.rf h
  have fz := fun s' (g : Fr Fz s s') => hQ s' (IR_z g (fun _ _ z => z) h').1 (IR_z g (fun _ _ z => z) h').2
  have hP := hA.2.1
  have h16 := hP.1
  have okw := hA.2.2.1
  obtain ⟨i1, i2, i3, i4, i5, i6⟩ := h
  unfold shA at h0 fz
  have it : ∀ x Q, X_R_isThere [.ref 65, .int x] (hp scr s) Q ↔ Q (some (.int (b2i (isI (aP A) x)))) (hp scr s) := fun x Q => s_R_isThere scr hP i2 x Q
  simp [X_R_share, B_R_share, lini, lx, Value.category]
  rw [sSq_if (t := !isI (aP A) x) (by intro K; simp [eV, eI, eL, eR, e1, e2, eDI, eDL, eFI, eFL, eFR, eAI, eAZ, eAR, eLen, aN, aC, xV, xS, eX, eIf, eC_b, cA, cO, cN, sSk, sSq, sI, sL, sR, sInc, sF, sFO, sAI, sAZ, sAO, sX, sXp, sIf, sCut, sSqs, sSw, sRt, sRz_g, is01_b, is01_0, is01_1, sRv, sBk, sCt, sCp, lset, lclr, lcut, lini, lx, Value.category, ixOf, b2i_0, b2i_1, T_R, it, nb])]
  cases hr : isI (aP A) x with
  | false =>
    rw [hr] at h0
    simp [eV, eI, eL, eR, e1, e2, eDI, eDL, eFI, eFL, eFR, eAI, eAZ, eAR, eLen, aN, aC, xV, xS, eX, eIf, eC_b, cA, cO, cN, sSk, sSq, sI, sL, sR, sInc, sF, sFO, sAI, sAZ, sAO, sX, sXp, sIf, sCut, sSqs, sSw, sRt, sRz_g, is01_b, is01_0, is01_1, sRv, sBk, sCt, sCp, lset, lclr, lcut, lini, lx, Value.category, ixOf, b2i_0, b2i_1]
    simpa using h0
  | true =>
    obtain ⟨i, hi, rfl⟩ := isI_n hP hr
    rw [hr, nI_clamp (by omega)] at fz
    have sl := stL_lt hP
    have sn : (stL (aP A)).Nodup := fl_nd _ _
    have l16 : (stL (aP A)).length ≤ 16 := by
      have := cnt_len sl sn
      have := cnt_le (fun i => (setN (stL (aP A))).testBit i) 16
      omega
    have kk := (hP.2 i hi).1
    have e6 : (nI (pK (aP A) i) = 6) = (pK (aP A) i = 6) := by rw [show (6 : Int32) = nI 6 from rfl]; exact propext (nI_eq (by omega) (by decide))
    simp only [Bool.not_true, Bool.false_eq_true, if_false, sSk_eq]
    refine sSq_S1 (ls' := [.ref 65, .int (nI i), .int up, .int (nI (stL (aP A)).length), .null, .null, .null, .null]) (scr := scr) (I := fun s1 => Fr (fun r _ => r = 88) s s1 ∧ ((stL (aP A)).length ≤ 6 → ∀ q, q < (stL (aP A)).length → s1.1 88 q = nI ((stL (aP A)).getD q 0))) ?h1 ?h2
    case h1 =>
      intro kn hkn
      simp [eV, eI, eL, eR, e1, e2, eDI, eDL, eFI, eFL, eFR, eAI, eAZ, eAR, eLen, aN, aC, xV, xS, eX, eIf, eC_b, cA, cO, cN, sSk, sSq, sI, sL, sR, sInc, sF, sFO, sAI, sAZ, sAO, sX, sXp, sIf, sCut, sSqs, sSw, sRt, sRz_g, is01_b, is01_0, is01_1, sRv, sBk, sCt, sCp, lset, lclr, lcut, lini, lx, Value.category, ixOf, b2i_0, b2i_1, T_R]
      exact s_R_layStores scr hP i2 _ fun s1 g1 g2 => ⟨_, rfl, hkn s1 ⟨g1, g2⟩⟩
    rintro s1 ⟨g1, g2⟩
    have m1 : mR (aP A) s1 := mR_fr g1 (by omega) (by omega) i2
    have w1 : mRw 71 (aR A) s1 := mRw_fr g1 (by omega) i3
    generalize hn : (stL (aP A)).length = n at *
    have l6 : (6 < nI n) = (6 < n) := by rw [show (6 : Int32) = nI 6 from rfl]; exact propext (nI_ltI (by decide) (by omega))
    rw [sSq_if (t := !(isSt (aP A) i && decide (n ≤ 6))) (by
      intro K
      simp [eV, eI, eL, eR, e1, e2, eDI, eDL, eFI, eFL, eFR, eAI, eAZ, eAR, eLen, aN, aC, xV, xS, eX, eIf, eC_b, cA, cO, cN, sSk, sSq, sI, sL, sR, sInc, sF, sFO, sAI, sAZ, sAO, sX, sXp, sIf, sCut, sSqs, sSw, sRt, sRz_g, is01_b, is01_0, is01_1, sRv, sBk, sCt, sCp, lset, lclr, lcut, lini, lx, Value.category, ixOf, b2i_0, b2i_1, T_R, G_R, ixf hP.1 hi, (m1.2 i hi).1, e6, l6]
      by_cases c1 : pK (aP A) i = 6
      · by_cases c2 : 6 < n
        · have : ¬ n ≤ 6 := by omega
          simp [c1, c2, this]
        · have : n ≤ 6 := by omega
          simp [isSt, c1, c2, this]
      · have : isSt (aP A) i = false := by simp [isSt, c1]
        simp [c1, this])]
    cases hb : (isSt (aP A) i && decide (n ≤ 6)) with
    | false =>
      have := fz s1 (g1.wk fun r k z => by omega)
      rw [hb] at this
      simp [eV, eI, eL, eR, e1, e2, eDI, eDL, eFI, eFL, eFR, eAI, eAZ, eAR, eLen, aN, aC, xV, xS, eX, eIf, eC_b, cA, cO, cN, sSk, sSq, sI, sL, sR, sInc, sF, sFO, sAI, sAZ, sAO, sX, sXp, sIf, sCut, sSqs, sSw, sRt, sRz_g, is01_b, is01_0, is01_1, sRv, sBk, sCt, sCp, lset, lclr, lcut, lini, lx, Value.category, ixOf, b2i_0, b2i_1]
      simpa using this
    | true =>
      rw [hb] at fz
      rw [Bool.and_eq_true, decide_eq_true_eq] at hb
      obtain ⟨b1, b2⟩ := hb
      have g2 := g2 b2
      have ixl := fl_ix (isSt (aP A)) hi b1
      have ixn : ixS (aP A) i < n := by rw [← hn]; exact ixl.1
      have ixe : (stL (aP A)).getD (ixS (aP A) i) 0 = i := ixl.2
      have inj : ∀ k, k < n → (stL (aP A)).getD k 0 = i → k = ixS (aP A) i := fun k hk e => by
        have := (fl_getD (isSt (aP A)) (aP A).1 k (by rw [← hn] at hk; exact hk)).2.2
        have e' : (fl (isSt (aP A)) (aP A).1).getD k 0 = i := e
        rw [e'] at this
        exact this.symm
      obtain ⟨p0, p64⟩ := pow2 b2
      simp only [Bool.not_true, Bool.false_eq_true, if_false, sSk_eq]
      simp [eV, eI, eL, eR, e1, e2, eDI, eDL, eFI, eFL, eFR, eAI, eAZ, eAR, eLen, aN, aC, xV, xS, eX, eIf, eC_b, cA, cO, cN, sSk, sSq, sI, sL, sR, sInc, sF, sFO, sAI, sAZ, sAO, sX, sXp, sIf, sCut, sSqs, sSw, sRt, sRz_g, is01_b, is01_0, is01_1, sRv, sBk, sCt, sCp, lset, lclr, lcut, lini, lx, Value.category, ixOf, b2i_0, b2i_1]
      refine lp_ind (fun z ls h => ∃ k, z = n - k ∧ k ≤ n ∧ ls = [.ref 65, .int (nI i), .int up, .int (nI n), .int (nI (if ixS (aP A) i < k then ixS (aP A) i else 0)), .int (nI k), .null, .null] ∧ h = hp scr s1) ?_ ⟨0, rfl, by omega, rfl, rfl⟩
      rintro z ls h' ⟨k, hz, hk, rfl, rfl⟩ X hX
      refine cX (t := decide (k < n)) (h' := hp scr s1) ?h3 ?h4
      case h3 =>
        intro K
        simp [eV, eI, eL, eR, e1, e2, eDI, eDL, eFI, eFL, eFR, eAI, eAZ, eAR, eLen, aN, aC, xV, xS, eX, eIf, eC_b, cA, cO, cN, sSk, sSq, sI, sL, sR, sInc, sF, sFO, sAI, sAZ, sAO, sX, sXp, sIf, sCut, sSqs, sSw, sRt, sRz_g, is01_b, is01_0, is01_1, sRv, sBk, sCt, sCp, lset, lclr, lcut, lini, lx, Value.category, ixOf, b2i_0, b2i_1]
        simp (disch := omega) only [LIT, L_0le, L_0lt, L_0eq, L_eq0, L_le0, L_lt0, L_1eq, L_eq1, L_1le, L_1lt, L_lt1, L_le1, L_p1, nI_ltI, nI_leI, nI_eq, nI_add, nI_clamp]
      case h4 =>
        by_cases hlt : k < n
        · have e87 := g2 k hlt
          have inj := inj k hlt
          have le : (stL (aP A)).getD k 0 < 16 := by
            have := (fl_getD (isSt (aP A)) (aP A).1 k (by rw [← hn] at hlt; exact hlt)).1
            have : (stL (aP A)).getD k 0 < (aP A).1 := this
            omega
          have ixe' : k = ixS (aP A) i → (stL (aP A)).getD k 0 = i := fun e => by rw [e]; exact ixe
          generalize (stL (aP A)).getD k 0 = j at e87 inj le ixe'
          have ej : (nI j = nI i) = (j = i) := propext (nI_eq (by omega) (by omega))
          have go := fun v (hv : v = (if ixS (aP A) i < k + 1 then ixS (aP A) i else 0)) => hX (n - (k + 1)) [.ref 65, .int (nI i), .int up, .int (nI n), .int (nI v), .int (nI (k + 1)), .null, .null] (hp scr s1) (by rw [hz]; omega) ⟨k + 1, rfl, hlt, by rw [hv], rfl⟩
          simp only [hlt, decide_true, if_true]
          simp [eV, eI, eL, eR, e1, e2, eDI, eDL, eFI, eFL, eFR, eAI, eAZ, eAR, eLen, aN, aC, xV, xS, eX, eIf, eC_b, cA, cO, cN, sSk, sSq, sI, sL, sR, sInc, sF, sFO, sAI, sAZ, sAO, sX, sXp, sIf, sCut, sSqs, sSw, sRt, sRz_g, is01_b, is01_0, is01_1, sRv, sBk, sCt, sCp, lset, lclr, lcut, lini, lx, Value.category, ixOf, b2i_0, b2i_1, T_R, G_R, ix80 (show k < 6 by omega) (by decide), e87, ej]
          by_cases c : j = i
          · have := inj c
            simp [c, L_p1]
            exact go _ (by rw [if_pos (by omega)]; exact this)
          · have : k ≠ ixS (aP A) i := fun e => c (ixe' e)
            simp [c, L_p1]
            exact go _ (by
              by_cases q : ixS (aP A) i < k
              · rw [if_pos q, if_pos (by omega)]
              · rw [if_neg q, if_neg (by omega)])
        · have ek : k = n := by omega
          subst ek
          simp only [hlt, decide_false, Bool.false_eq_true, if_false]
          rw [if_pos ixn]
          simp [eV, eI, eL, eR, e1, e2, eDI, eDL, eFI, eFL, eFR, eAI, eAZ, eAR, eLen, aN, aC, xV, xS, eX, eIf, eC_b, cA, cO, cN, sSk, sSq, sI, sL, sR, sInc, sF, sFO, sAI, sAZ, sAO, sX, sXp, sIf, sCut, sSqs, sSw, sRt, sRz_g, is01_b, is01_0, is01_1, sRv, sBk, sCt, sCp, lset, lclr, lcut, lini, lx, Value.category, ixOf, b2i_0, b2i_1]
          refine lp_ind (fun z ls h => ∃ c s2, z = 2 ^ k - c ∧ c ≤ 2 ^ k ∧ ls = [.ref 65, .int (nI i), .int up, .int (nI k), .int (nI (ixS (aP A) i)), .int (nI c), .null, .null] ∧ h = hp scr s2 ∧ Fr (fun a b => FQ a b ∨ a = 89) s1 s2 ∧ ∀ d, d < c → s2.1 89 d = gv (aP A) (aR A) d) ?_ ⟨0, s1, rfl, by omega, rfl, rfl, Fr.rf, fun d hd => by omega⟩
          rintro z2 ls h' ⟨c, s2, hz2, hc, rfl, rfl, f1, f2⟩ X2 hX2
          have m2 : mR (aP A) s2 := mR_fr f1 (by omega) (by omega) m1
          have w2 : mRw 71 (aR A) s2 := mRw_fr f1 (by omega) w1
          have st2 : ∀ q, q < k → s2.1 88 q = nI ((stL (aP A)).getD q 0) := fun q hq => by rw [f1.2 _ _ (by omega)]; exact g2 q hq
          refine cX (t := decide (c < 2 ^ k)) (h' := hp scr s2) ?h5 ?h6
          case h5 =>
            intro K
            have l1 : (nI c < nI (2 ^ k)) = (c < 2 ^ k) := propext (nI_ltI (by omega) (by omega))
            simp [eV, eI, eL, eR, e1, e2, eDI, eDL, eFI, eFL, eFR, eAI, eAZ, eAR, eLen, aN, aC, xV, xS, eX, eIf, eC_b, cA, cO, cN, sSk, sSq, sI, sL, sR, sInc, sF, sFO, sAI, sAZ, sAO, sX, sXp, sIf, sCut, sSqs, sSw, sRt, sRz_g, is01_b, is01_0, is01_1, sRv, sBk, sCt, sCp, lset, lclr, lcut, lini, lx, Value.category, ixOf, b2i_0, b2i_1, bit_nI (show k < 32 by omega), l1]
          case h6 =>
            by_cases hlt2 : c < 2 ^ k
            · simp only [hlt2, decide_true, if_true]
              simp [eV, eI, eL, eR, e1, e2, eDI, eDL, eFI, eFL, eFR, eAI, eAZ, eAR, eLen, aN, aC, xV, xS, eX, eIf, eC_b, cA, cO, cN, sSk, sSq, sI, sL, sR, sInc, sF, sFO, sAI, sAZ, sAO, sX, sXp, sIf, sCut, sSqs, sSw, sRt, sRz_g, is01_b, is01_0, is01_1, sRv, sBk, sCt, sCp, lset, lclr, lcut, lini, lx, Value.category, ixOf, b2i_0, b2i_1, T_R]
              have key := s_R_gainsBy scr hP m2 okw w2 (by rw [hn]; exact b2) (by rw [hn]; exact st2) (c := c) (by omega)
              rw [hn] at key
              refine key _ fun s3 k1 => ⟨_, rfl, ?_⟩
              simp [G_R, ix80 (show c < 64 by omega) (by decide), L_p1]
              refine hX2 _ _ _ (by rw [hz2]; omega) ⟨c + 1, _, rfl, hlt2, rfl, rfl, (f1.tr k1 fun _ _ z => Or.inl z).up _ (Or.inr rfl), fun d hd => ?_⟩
              by_cases e : d = c
              · subst e; simp [up_get]
              · simp [up_get, e]
                rw [k1.2 _ _ (by omega)]
                exact f2 d (by omega)
            · have ec : c = 2 ^ k := by omega
              subst ec
              simp only [hlt2, decide_false, Bool.false_eq_true, if_false]
              simp [eV, eI, eL, eR, e1, e2, eDI, eDL, eFI, eFL, eFR, eAI, eAZ, eAR, eLen, aN, aC, xV, xS, eX, eIf, eC_b, cA, cO, cN, sSk, sSq, sI, sL, sR, sInc, sF, sFO, sAI, sAZ, sAO, sX, sXp, sIf, sCut, sSqs, sSw, sRt, sRz_g, is01_b, is01_0, is01_1, sRv, sBk, sCt, sCp, lset, lclr, lcut, lini, lx, Value.category, ixOf, b2i_0, b2i_1]
              have dz : Fr Fz s s2 := (g1.wk fun r k z => by omega).tr f1 fun r k z => by omega
              generalize ixS (aP A) i = ix at *
              refine lp_ind (fun z ls h => ∃ c, z = 2 ^ k - c ∧ c ≤ 2 ^ k ∧ ls = [.ref 65, .int (nI i), .int up, .int (nI k), .int (nI ix), .int (shV (aP A) (aR A) k ix c), .int (nI c), .null] ∧ h = hp scr s2) ?_ ⟨0, rfl, by omega, rfl, rfl⟩
              rintro z3 ls h' ⟨c, hz3, hc3, rfl, rfl⟩ X3 hX3
              refine cX (t := decide (c < 2 ^ k)) (h' := hp scr s2) ?h7 ?h8
              case h7 =>
                intro K
                have l1 : (nI c < nI (2 ^ k)) = (c < 2 ^ k) := propext (nI_ltI (by omega) (by omega))
                simp [eV, eI, eL, eR, e1, e2, eDI, eDL, eFI, eFL, eFR, eAI, eAZ, eAR, eLen, aN, aC, xV, xS, eX, eIf, eC_b, cA, cO, cN, sSk, sSq, sI, sL, sR, sInc, sF, sFO, sAI, sAZ, sAO, sX, sXp, sIf, sCut, sSqs, sSw, sRt, sRz_g, is01_b, is01_0, is01_1, sRv, sBk, sCt, sCp, lset, lclr, lcut, lini, lx, Value.category, ixOf, b2i_0, b2i_1, bit_nI (show k < 32 by omega), l1]
              case h8 =>
                by_cases hlt3 : c < 2 ^ k
                · have go := fun v (hv : v = shV (aP A) (aR A) k ix (c + 1)) => hX3 (2 ^ k - (c + 1)) [.ref 65, .int (nI i), .int up, .int (nI k), .int (nI ix), .int v, .int (nI (c + 1)), .null] (hp scr s2) (by rw [hz3]; omega) ⟨c + 1, rfl, hlt3, by rw [hv], rfl⟩
                  have th := fun Q => t_has scr s2 (nI c) (show ix < 32 by omega) Q
                  rw [bt_nI, decide_eq_true (show ix < 32 by omega), Bool.true_and] at th
                  have oo : c ||| 2 ^ ix < 2 ^ k := Nat.or_lt_two_pow hlt3 (Nat.pow_lt_pow_right (by omega) ixn)
                  simp only [hlt3, decide_true, if_true]
                  cases hbit : c.testBit ix with
                  | true =>
                    rw [hbit] at th
                    simp [eV, eI, eL, eR, e1, e2, eDI, eDL, eFI, eFL, eFR, eAI, eAZ, eAR, eLen, aN, aC, xV, xS, eX, eIf, eC_b, cA, cO, cN, sSk, sSq, sI, sL, sR, sInc, sF, sFO, sAI, sAZ, sAO, sX, sXp, sIf, sCut, sSqs, sSw, sRt, sRz_g, is01_b, is01_0, is01_1, sRv, sBk, sCt, sCp, lset, lclr, lcut, lini, lx, Value.category, ixOf, b2i_0, b2i_1, th, b2i_t, L_p1]
                    exact go _ (by rw [shV, if_pos hbit])
                  | false =>
                    rw [hbit] at th
                    have pl := pop_lt (by omega) hlt3 ixn hbit
                    have en : nI k - 1 - nI (pop c) = nI (k - 1 - pop c) := by rw [show (1 : Int32) = nI 1 from rfl, nI_sub (by omega), nI_sub (by omega)]
                    simp [eV, eI, eL, eR, e1, e2, eDI, eDL, eFI, eFL, eFR, eAI, eAZ, eAR, eLen, aN, aC, xV, xS, eX, eIf, eC_b, cA, cO, cN, sSk, sSq, sI, sL, sR, sInc, sF, sFO, sAI, sAZ, sAO, sX, sXp, sIf, sCut, sSqs, sSw, sRt, sRz_g, is01_b, is01_0, is01_1, sRv, sBk, sCt, sCp, lset, lclr, lcut, lini, lx, Value.category, ixOf, b2i_0, b2i_1, th, b2i_f]
                    refine t_ones scr s2 _ ⟨_, rfl, ?_⟩
                    simp [en]
                    refine s_R_factorial scr s2 (by omega) _ ⟨_, rfl, ?_⟩
                    refine s_R_factorial scr s2 (by omega) _ ⟨_, rfl, ?_⟩
                    simp [T_R, G_R, bit_nI (show ix < 32 by omega), nI_or, ix80 (show c ||| 2 ^ ix < 64 by omega) (by decide), ix80 (show c < 64 by omega) (by decide), f2 _ oo, f2 _ hlt3, L_p1]
                    exact go _ (by rw [shV, hbit]; rfl)
                · have ec : c = 2 ^ k := by omega
                  subst ec
                  have bd := shT_bd hP okw b2 ixn (2 ^ k) (Nat.le_refl _)
                  obtain ⟨y1, y2⟩ := fac_pos b2
                  simp only [hlt3, decide_false, Bool.false_eq_true, if_false]
                  simp [eV, eI, eL, eR, e1, e2, eDI, eDL, eFI, eFL, eFR, eAI, eAZ, eAR, eLen, aN, aC, xV, xS, eX, eIf, eC_b, cA, cO, cN, sSk, sSq, sI, sL, sR, sInc, sF, sFO, sAI, sAZ, sAO, sX, sXp, sIf, sCut, sSqs, sSw, sRt, sRz_g, is01_b, is01_0, is01_1, sRv, sBk, sCt, sCp, lset, lclr, lcut, lini, lx, Value.category, ixOf, b2i_0, b2i_1]
                  refine s_R_factorial scr s2 b2 _ ⟨_, rfl, ?_⟩
                  refine s_R_fraction scr s2 (by omega) bd y1 y2 up _ ⟨_, rfl, ?_⟩
                  simpa using fz s2 dz
