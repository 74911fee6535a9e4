/-! chance -/
def chT (P : PC) (w : Row) (v x n : Nat) : Nat → Nat
  | 0 => 0
  | c + 1 => chT P w v x n c + if nI v ≤ gv P w c then (10 - x) ^ pop c * x ^ (n - pop c) else 0
theorem chT_le {P : PC} {w : Row} {v x n : Nat} (hn : n ≤ 6) (hx : x ≤ 10) : ∀ c, c ≤ 2 ^ n → chT P w v x n c ≤ 1000000 * c
  | 0, _ => by simp [chT]
  | c + 1, hc => by
    have ih := chT_le (P := P) (w := w) (v := v) hn hx c (by omega)
    have pl := pop_le (show n ≤ 16 by omega) (show c < 2 ^ n by omega)
    have t : (10 - x) ^ pop c * x ^ (n - pop c) ≤ 1000000 := by
      have a : (10 - x) ^ pop c ≤ 10 ^ pop c := Nat.pow_le_pow_left (by omega) _
      have b : x ^ (n - pop c) ≤ 10 ^ (n - pop c) := Nat.pow_le_pow_left hx _
      have e : 10 ^ pop c * 10 ^ (n - pop c) = 10 ^ n := by rw [← Nat.pow_add]; congr 1; omega
      have f : (10 : Nat) ^ n ≤ 10 ^ 6 := Nat.pow_le_pow_right (by omega) hn
      have := Nat.mul_le_mul a b
      omega
    rw [chT]
    split <;> omega
def chA (A : AS) (v x up : Int32) : Int32 := if rng 0 99 v && rng 0 10 x then (if (stL (aP A)).length ≤ 6 then frV (nI (chT (aP A) (aR A) v.toNatClampNeg x.toNatClampNeg (stL (aP A)).length (2 ^ (stL (aP A)).length))) (10 ^ (stL (aP A)).length) up else -3) else -2
theorem bdI_nI {N : Nat} (h : N < 2 ^ 31) : bdI (nI N) N := by
  unfold bdI
  rw [nI_toInt h]
  omega
theorem c_chance {A : AS} (hA : okA A) (scr : List Int32) {s : MS} (h : IC A s) (v x up : Int32) (Q : Option Value → HV → Prop) (hQ : ∀ s', Fr Fc s s' → IC A s' → Q (some (.int (chA A v x up))) (hp scr s')) : X_PL_chance [.ref 2, .int v, .int x, .int up] (hp scr s) Q := by
  have h' := h
  have h0 := hQ s Fr.rf h
  have fs := fun s' (g : Fr FS s s') => hQ s' (g.wk fun r k z => by omega) (IC_fr g (by omega) h')
  have hP := hA.2.1
  have h16 := hP.1
  have okw := hA.2.2.1
  obtain ⟨i1, i2, i3, i4, i5, i6, i7⟩ := h
  unfold chA at h0 fs
  simp [X_PL_chance, B_PL_chance, lini, lx, Value.category]
  rw [sSq_if (t := !(rng 0 99 v && rng 0 10 x)) (by
    intro K
    simp [eV, eI, eL, eR, e1, e2, eDI, eDL, eFI, eFL, eFR, eAI, eAZ, eAR, eLen, aN, aC, xV, xS, eX, eIf, eC_b, cA, cO, cN, sSk, sSq, sI, sL, sR, sInc, sF, sFO, sAI, sAZ, sAO, sX, sXp, sIf, sCut, sSqs, sSw, sRt, sRz_g, is01_b, is01_0, is01_1, sRv, sBk, sCt, sCp, lset, lclr, lcut, lini, lx, Value.category, ixOf, b2i_0, b2i_1]
    unfold rng
    by_cases h1 : v < 0 <;> by_cases h2 : 99 < v <;> by_cases h3 : x < 0 <;> by_cases h4 : 10 < x <;> simp [h1, h2, h3, h4])]
  cases hr : (rng 0 99 v && rng 0 10 x) with
  | false =>
    rw [hr] at h0
    simp [eV, eI, eL, eR, e1, e2, eDI, eDL, eFI, eFL, eFR, eAI, eAZ, eAR, eLen, aN, aC, xV, xS, eX, eIf, eC_b, cA, cO, cN, sSk, sSq, sI, sL, sR, sInc, sF, sFO, sAI, sAZ, sAO, sX, sXp, sIf, sCut, sSqs, sSw, sRt, sRz_g, is01_b, is01_0, is01_1, sRv, sBk, sCt, sCp, lset, lclr, lcut, lini, lx, Value.category, ixOf, b2i_0, b2i_1]
    simpa using h0
  | true =>
    rw [hr] at h0 fs
    rw [Bool.and_eq_true] at hr
    obtain ⟨v, hv, rfl⟩ := rng_n (N := 99) (by decide) hr.1
    obtain ⟨x, hx, rfl⟩ := rng_n (N := 10) (by decide) hr.2
    rw [nI_clamp (by omega), nI_clamp (by omega)] at h0 fs
    have sl := stL_lt hP
    have sn : (stL (aP A)).Nodup := fl_nd _ _
    have l16 : (stL (aP A)).length ≤ 16 := by
      have := cnt_len sl sn
      have := cnt_le (fun i => (setN (stL (aP A))).testBit i) 16
      omega
    simp only [Bool.not_true, Bool.false_eq_true, if_false, sSk_eq]
    refine sSq_I1 (v := nI (stL (aP A)).length) (h' := hp scr s) ?h1 (by simp) ?h2
    case h1 =>
      intro K hK
      simp [eV, eI, eL, eR, e1, e2, eDI, eDL, eFI, eFL, eFR, eAI, eAZ, eAR, eLen, aN, aC, xV, xS, eX, eIf, eC_b, cA, cO, cN, sSk, sSq, sI, sL, sR, sInc, sF, sFO, sAI, sAZ, sAO, sX, sXp, sIf, sCut, sSqs, sSw, sRt, sRz_g, is01_b, is01_0, is01_1, sRv, sBk, sCt, sCp, lset, lclr, lcut, lini, lx, Value.category, ixOf, b2i_0, b2i_1, T_PL, T_Code c6]
      refine s_Code_stores c6 scr hP i2 _ ⟨_, rfl, ?_⟩
      rw [s_count (P := aP A) scr s sl sn]
      exact ⟨_, rfl, hK⟩
    generalize hn : (stL (aP A)).length = n at *
    have l6 : (6 < nI n) = (6 < n) := by rw [show (6 : Int32) = nI 6 from rfl]; exact propext (nI_ltI (by decide) (by omega))
    simp only [lset, lclr, Value.category]
    rw [sSq_if (t := decide (6 < n)) (by intro K; simp [eV, eI, eL, eR, e1, e2, eDI, eDL, eFI, eFL, eFR, eAI, eAZ, eAR, eLen, aN, aC, xV, xS, eX, eIf, eC_b, cA, cO, cN, sSk, sSq, sI, sL, sR, sInc, sF, sFO, sAI, sAZ, sAO, sX, sXp, sIf, sCut, sSqs, sSw, sRt, sRz_g, is01_b, is01_0, is01_1, sRv, sBk, sCt, sCp, lset, lclr, lcut, lini, lx, Value.category, ixOf, b2i_0, b2i_1, l6])]
    by_cases b2 : n ≤ 6
    · have b3 : ¬ 6 < n := by omega
      obtain ⟨p0, p64⟩ := pow2 b2
      simp only [b2, if_true] at fs
      simp only [b3, decide_false, Bool.false_eq_true, if_false, sSk_eq]
      refine sSq_S1 (ls' := [.ref 2, .int (nI v), .int (nI x), .int up, .int (nI n), .null, .null, .null, .null]) (scr := scr) (I := fun s1 => Fr FS s s1 ∧ ∀ c, c < 2 ^ n → s1.1 64 c = gv (aP A) (aR A) c) ?h3 ?h4
      case h3 =>
        intro kn hkn
        simp [eV, eI, eL, eR, e1, e2, eDI, eDL, eFI, eFL, eFR, eAI, eAZ, eAR, eLen, aN, aC, xV, xS, eX, eIf, eC_b, cA, cO, cN, sSk, sSq, sI, sL, sR, sInc, sF, sFO, sAI, sAZ, sAO, sX, sXp, sIf, sCut, sSqs, sSw, sRt, sRz_g, is01_b, is01_0, is01_1, sRv, sBk, sCt, sCp, lset, lclr, lcut, lini, lx, Value.category, ixOf, b2i_0, b2i_1, T_PL]
        exact s_PL_sumGains scr hP i2 okw i3 b2 _ fun s1 g1 g2 => ⟨rfl, hkn s1 ⟨g1, g2⟩⟩
      rintro s1 ⟨g1, g2⟩
      simp [eV, eI, eL, eR, e1, e2, eDI, eDL, eFI, eFL, eFR, eAI, eAZ, eAR, eLen, aN, aC, xV, xS, eX, eIf, eC_b, cA, cO, cN, sSk, sSq, sI, sL, sR, sInc, sF, sFO, sAI, sAZ, sAO, sX, sXp, sIf, sCut, sSqs, sSw, sRt, sRz_g, is01_b, is01_0, is01_1, sRv, sBk, sCt, sCp, lset, lclr, lcut, lini, lx, Value.category, ixOf, b2i_0, b2i_1]
      refine lp_ind (fun z ls h => ∃ c, z = 2 ^ n - c ∧ c ≤ 2 ^ n ∧ ls = [.ref 2, .int (nI v), .int (nI x), .int up, .int (nI n), .long (lN (chT (aP A) (aR A) v x n c)), .null, .int (nI c), .null] ∧ h = hp scr s1) ?_ ⟨0, rfl, by omega, rfl, rfl⟩
      rintro z ls h' ⟨c, hz, hc, rfl, rfl⟩ X hX
      refine cX (t := decide (c < 2 ^ n)) (h' := hp scr s1) ?h5 ?h6
      case h5 =>
        intro K
        have l1 : (nI c < nI (2 ^ n)) = (c < 2 ^ n) := propext (nI_ltI (by omega) (by omega))
        simp [eV, eI, eL, eR, e1, e2, eDI, eDL, eFI, eFL, eFR, eAI, eAZ, eAR, eLen, aN, aC, xV, xS, eX, eIf, eC_b, cA, cO, cN, sSk, sSq, sI, sL, sR, sInc, sF, sFO, sAI, sAZ, sAO, sX, sXp, sIf, sCut, sSqs, sSw, sRt, sRz_g, is01_b, is01_0, is01_1, sRv, sBk, sCt, sCp, lset, lclr, lcut, lini, lx, Value.category, ixOf, b2i_0, b2i_1, bit_nI (show n < 32 by omega), l1]
      case h6 =>
        by_cases hlt : c < 2 ^ n
        · have go := fun y (hy : y = chT (aP A) (aR A) v x n (c + 1)) => hX (2 ^ n - (c + 1)) [.ref 2, .int (nI v), .int (nI x), .int up, .int (nI n), .long (lN y), .null, .int (nI (c + 1)), .null] (hp scr s1) (by rw [hz]; omega) ⟨c + 1, rfl, hlt, by rw [hy], rfl⟩
          have pl := pop_le (show n ≤ 16 by omega) hlt
          have en : nI n - nI (pop c) = nI (n - pop c) := nI_sub pl
          have e10 : (10 : Int32) - nI x = nI (10 - x) := by rw [show (10 : Int32) = nI 10 from rfl, nI_sub hx]
          simp only [hlt, decide_true, if_true]
          simp [eV, eI, eL, eR, e1, e2, eDI, eDL, eFI, eFL, eFR, eAI, eAZ, eAR, eLen, aN, aC, xV, xS, eX, eIf, eC_b, cA, cO, cN, sSk, sSq, sI, sL, sR, sInc, sF, sFO, sAI, sAZ, sAO, sX, sXp, sIf, sCut, sSqs, sSw, sRt, sRz_g, is01_b, is01_0, is01_1, sRv, sBk, sCt, sCp, lset, lclr, lcut, lini, lx, Value.category, ixOf, b2i_0, b2i_1, t_pop scr s1 (show c < 65536 by omega), T_PL, G_row, ix80 (show c < 64 by omega) (by decide), g2 c hlt]
          by_cases q : nI v ≤ gv (aP A) (aR A) c
          · simp [q, e10, nI_l (show 10 - x < 2 ^ 31 by omega), nI_l (show x < 2 ^ 31 by omega), en]
            refine s_PL_power scr s1 (10 - x) (show pop c < 1000 by omega) _ ⟨_, rfl, ?_⟩
            refine s_PL_power scr s1 x (show n - pop c < 1000 by omega) _ ⟨_, rfl, ?_⟩
            simp [lN_mul, lN_add, L_p1]
            exact go _ (by rw [chT, if_pos q])
          · simp [q, L_p1]
            exact go _ (by rw [chT, if_neg q]; rfl)
        · have ec : c = 2 ^ n := by omega
          subst ec
          have bd := chT_le (P := aP A) (w := aR A) (v := v) b2 hx (2 ^ n) (Nat.le_refl _)
          simp only [hlt, decide_false, Bool.false_eq_true, if_false]
          have h10 := s_PL_power scr s1 10 (show n < 1000 by omega)
          simp [eV, eI, eL, eR, e1, e2, eDI, eDL, eFI, eFL, eFR, eAI, eAZ, eAR, eLen, aN, aC, xV, xS, eX, eIf, eC_b, cA, cO, cN, sSk, sSq, sI, sL, sR, sInc, sF, sFO, sAI, sAZ, sAO, sX, sXp, sIf, sCut, sSqs, sSw, sRt, sRz_g, is01_b, is01_0, is01_1, sRv, sBk, sCt, sCp, lset, lclr, lcut, lini, lx, Value.category, ixOf, b2i_0, b2i_1, lN_i]
          refine h10 _ ⟨_, rfl, ?_⟩
          rw [lN_i]
          refine s_PL_partOfFraction scr s1 (B := 64000000) (by omega) ?_ (Nat.pow_pos (by omega)) (Nat.le_trans (Nat.pow_le_pow_right (by omega) b2) (by decide)) up _ ⟨_, rfl, ?_⟩
          · have := bdI_nI (N := chT (aP A) (aR A) v x n (2 ^ n)) (by omega)
            exact ⟨by have := this.1; omega, by have := this.2; omega⟩
          · simpa using fs s1 g1
    · have b3 : 6 < n := by omega
      simp only [b2, if_false] at h0
      simp [eV, eI, eL, eR, e1, e2, eDI, eDL, eFI, eFL, eFR, eAI, eAZ, eAR, eLen, aN, aC, xV, xS, eX, eIf, eC_b, cA, cO, cN, sSk, sSq, sI, sL, sR, sInc, sF, sFO, sAI, sAZ, sAO, sX, sXp, sIf, sCut, sSqs, sSw, sRt, sRz_g, is01_b, is01_0, is01_1, sRv, sBk, sCt, sCp, lset, lclr, lcut, lini, lx, Value.category, ixOf, b2i_0, b2i_1, b3]
      simpa using h0
theorem r_chance {A : AS} (hA : okA A) (scr : List Int32) {s : MS} (h : IR A s) (v x up : Int32) (Q : Option Value → HV → Prop) (hQ : ∀ s', Fr Ft s s' → IR A s' → Q (some (.int (chA A v x up))) (hp scr s')) : X_R_chance [.ref 65, .int v, .int x, .int up] (hp scr s) Q := by
  have h' := h
  have h0 := hQ s Fr.rf h
  have fz := fun s' (g : Fr Fz s s') => hQ s' (IR_z g (fun _ _ z => z) h').1 (IR_z g (fun _ _ z => z) h').2
  have hP := hA.2.1
  have h16 := hP.1
  have okw := hA.2.2.1
  obtain ⟨i1, i2, i3, i4, i5, i6⟩ := h
  unfold chA at h0 fz
  have t1 := fun Q => t_in scr s v 0 99 (A := 0) (B := 99) rfl rfl Q
  have t2 := fun Q => t_in scr s x 0 10 (A := 0) (B := 10) rfl rfl Q
  simp [X_R_chance, B_R_chance, lini, lx, Value.category]
  rw [sSq_if (t := !(rng 0 99 v && rng 0 10 x)) (by
    intro K
    simp [eV, eI, eL, eR, e1, e2, eDI, eDL, eFI, eFL, eFR, eAI, eAZ, eAR, eLen, aN, aC, xV, xS, eX, eIf, eC_b, cA, cO, cN, sSk, sSq, sI, sL, sR, sInc, sF, sFO, sAI, sAZ, sAO, sX, sXp, sIf, sCut, sSqs, sSw, sRt, sRz_g, is01_b, is01_0, is01_1, sRv, sBk, sCt, sCp, lset, lclr, lcut, lini, lx, Value.category, ixOf, b2i_0, b2i_1, t1, t2, nb]
    cases rng 0 99 v <;> cases rng 0 10 x <;> simp)]
  cases hr : (rng 0 99 v && rng 0 10 x) with
  | false =>
    rw [hr] at h0
    simp [eV, eI, eL, eR, e1, e2, eDI, eDL, eFI, eFL, eFR, eAI, eAZ, eAR, eLen, aN, aC, xV, xS, eX, eIf, eC_b, cA, cO, cN, sSk, sSq, sI, sL, sR, sInc, sF, sFO, sAI, sAZ, sAO, sX, sXp, sIf, sCut, sSqs, sSw, sRt, sRz_g, is01_b, is01_0, is01_1, sRv, sBk, sCt, sCp, lset, lclr, lcut, lini, lx, Value.category, ixOf, b2i_0, b2i_1]
    simpa using h0
  | true =>
    rw [hr] at fz
    rw [Bool.and_eq_true] at hr
    obtain ⟨v, hv, rfl⟩ := rng_n (N := 99) (by decide) hr.1
    obtain ⟨x, hx, rfl⟩ := rng_n (N := 10) (by decide) hr.2
    rw [nI_clamp (by omega), nI_clamp (by omega)] at fz
    have sl := stL_lt hP
    have sn : (stL (aP A)).Nodup := fl_nd _ _
    have l16 : (stL (aP A)).length ≤ 16 := by
      have := cnt_len sl sn
      have := cnt_le (fun i => (setN (stL (aP A))).testBit i) 16
      omega
    simp only [Bool.not_true, Bool.false_eq_true, if_false, sSk_eq]
    refine sSq_S1 (ls' := [.ref 65, .int (nI v), .int (nI x), .int up, .int (nI (stL (aP A)).length), .null, .null]) (scr := scr) (I := fun s1 => Fr (fun r _ => r = 88) s s1 ∧ ((stL (aP A)).length ≤ 6 → ∀ q, q < (stL (aP A)).length → s1.1 88 q = nI ((stL (aP A)).getD q 0))) ?h1 ?h2
    case h1 =>
      intro kn hkn
      simp [eV, eI, eL, eR, e1, e2, eDI, eDL, eFI, eFL, eFR, eAI, eAZ, eAR, eLen, aN, aC, xV, xS, eX, eIf, eC_b, cA, cO, cN, sSk, sSq, sI, sL, sR, sInc, sF, sFO, sAI, sAZ, sAO, sX, sXp, sIf, sCut, sSqs, sSw, sRt, sRz_g, is01_b, is01_0, is01_1, sRv, sBk, sCt, sCp, lset, lclr, lcut, lini, lx, Value.category, ixOf, b2i_0, b2i_1, T_R]
      exact s_R_layStores scr hP i2 _ fun s1 g1 g2 => ⟨_, rfl, hkn s1 ⟨g1, g2⟩⟩
    rintro s1 ⟨g1, g2⟩
    have m1 : mR (aP A) s1 := mR_fr g1 (by omega) (by omega) i2
    have w1 : mRw 71 (aR A) s1 := mRw_fr g1 (by omega) i3
    generalize hn : (stL (aP A)).length = n at *
    have l6 : (6 < nI n) = (6 < n) := by rw [show (6 : Int32) = nI 6 from rfl]; exact propext (nI_ltI (by decide) (by omega))
    rw [sSq_if (t := decide (6 < n)) (by intro K; simp [eV, eI, eL, eR, e1, e2, eDI, eDL, eFI, eFL, eFR, eAI, eAZ, eAR, eLen, aN, aC, xV, xS, eX, eIf, eC_b, cA, cO, cN, sSk, sSq, sI, sL, sR, sInc, sF, sFO, sAI, sAZ, sAO, sX, sXp, sIf, sCut, sSqs, sSw, sRt, sRz_g, is01_b, is01_0, is01_1, sRv, sBk, sCt, sCp, lset, lclr, lcut, lini, lx, Value.category, ixOf, b2i_0, b2i_1, l6])]
    by_cases b2 : n ≤ 6
    · have b3 : ¬ 6 < n := by omega
      have g2 := g2 b2
      obtain ⟨p0, p64⟩ := pow2 b2
      simp only [b2, if_true] at fz
      simp only [b3, decide_false, Bool.false_eq_true, if_false, sSk_eq]
      simp [eV, eI, eL, eR, e1, e2, eDI, eDL, eFI, eFL, eFR, eAI, eAZ, eAR, eLen, aN, aC, xV, xS, eX, eIf, eC_b, cA, cO, cN, sSk, sSq, sI, sL, sR, sInc, sF, sFO, sAI, sAZ, sAO, sX, sXp, sIf, sCut, sSqs, sSw, sRt, sRz_g, is01_b, is01_0, is01_1, sRv, sBk, sCt, sCp, lset, lclr, lcut, lini, lx, Value.category, ixOf, b2i_0, b2i_1]
      refine lp_ind (fun z ls h => ∃ c s2, z = 2 ^ n - c ∧ c ≤ 2 ^ n ∧ ls = [.ref 65, .int (nI v), .int (nI x), .int up, .int (nI n), .int (nI (chT (aP A) (aR A) v x n c)), .int (nI c)] ∧ h = hp scr s2 ∧ Fr FQ s1 s2) ?_ ⟨0, s1, rfl, by omega, rfl, rfl, Fr.rf⟩
      rintro z ls h' ⟨c, s2, hz, hc, rfl, rfl, f1⟩ X hX
      have m2 : mR (aP A) s2 := mR_fr f1 (by omega) (by omega) m1
      have w2 : mRw 71 (aR A) s2 := mRw_fr f1 (by omega) w1
      have st2 : ∀ q, q < n → s2.1 88 q = nI ((stL (aP A)).getD q 0) := fun q hq => by rw [f1.2 _ _ (by omega)]; exact g2 q hq
      refine cX (t := decide (c < 2 ^ n)) (h' := hp scr s2) ?h5 ?h6
      case h5 =>
        intro K
        have l1 : (nI c < nI (2 ^ n)) = (c < 2 ^ n) := propext (nI_ltI (by omega) (by omega))
        simp [eV, eI, eL, eR, e1, e2, eDI, eDL, eFI, eFL, eFR, eAI, eAZ, eAR, eLen, aN, aC, xV, xS, eX, eIf, eC_b, cA, cO, cN, sSk, sSq, sI, sL, sR, sInc, sF, sFO, sAI, sAZ, sAO, sX, sXp, sIf, sCut, sSqs, sSw, sRt, sRz_g, is01_b, is01_0, is01_1, sRv, sBk, sCt, sCp, lset, lclr, lcut, lini, lx, Value.category, ixOf, b2i_0, b2i_1, bit_nI (show n < 32 by omega), l1]
      case h6 =>
        by_cases hlt : c < 2 ^ n
        · have go := fun s3 (k1 : Fr FQ s1 s3) y (hy : y = chT (aP A) (aR A) v x n (c + 1)) => hX (2 ^ n - (c + 1)) [.ref 65, .int (nI v), .int (nI x), .int up, .int (nI n), .int (nI y), .int (nI (c + 1))] (hp scr s3) (by rw [hz]; omega) ⟨c + 1, s3, rfl, hlt, by rw [hy], rfl, k1⟩
          have pl := pop_le (show n ≤ 16 by omega) hlt
          have en : nI n - nI (pop c) = nI (n - pop c) := nI_sub pl
          have e10 : (10 : Int32) - nI x = nI (10 - x) := by rw [show (10 : Int32) = nI 10 from rfl, nI_sub hx]
          simp only [hlt, decide_true, if_true]
          simp [eV, eI, eL, eR, e1, e2, eDI, eDL, eFI, eFL, eFR, eAI, eAZ, eAR, eLen, aN, aC, xV, xS, eX, eIf, eC_b, cA, cO, cN, sSk, sSq, sI, sL, sR, sInc, sF, sFO, sAI, sAZ, sAO, sX, sXp, sIf, sCut, sSqs, sSw, sRt, sRz_g, is01_b, is01_0, is01_1, sRv, sBk, sCt, sCp, lset, lclr, lcut, lini, lx, Value.category, ixOf, b2i_0, b2i_1, T_R]
          have key := s_R_gainsBy scr hP m2 okw w2 (by rw [hn]; exact b2) (by rw [hn]; exact st2) (c := c) (by omega)
          rw [hn] at key
          refine key _ fun s3 k1 => ⟨_, rfl, ?_⟩
          have k2 : Fr FQ s1 s3 := f1.tr k1 fun _ _ z => z
          by_cases q : nI v ≤ gv (aP A) (aR A) c
          · simp [q, e10]
            refine t_ones scr s3 _ ⟨_, rfl, ?_⟩
            refine s_R_power scr s3 (10 - x) (show pop c < 1000 by omega) _ ⟨_, rfl, ?_⟩
            refine t_ones scr s3 _ ⟨_, rfl, ?_⟩
            simp [en]
            refine s_R_power scr s3 x (show n - pop c < 1000 by omega) _ ⟨_, rfl, ?_⟩
            simp [nI_mul, nI_add, L_p1]
            exact go s3 k2 _ (by rw [chT, if_pos q])
          · simp [q, L_p1]
            exact go s3 k2 _ (by rw [chT, if_neg q]; rfl)
        · have ec : c = 2 ^ n := by omega
          subst ec
          have bd := chT_le (P := aP A) (w := aR A) (v := v) b2 hx (2 ^ n) (Nat.le_refl _)
          simp only [hlt, decide_false, Bool.false_eq_true, if_false]
          have h10 := s_R_power scr s2 10 (show n < 1000 by omega)
          simp [eV, eI, eL, eR, e1, e2, eDI, eDL, eFI, eFL, eFR, eAI, eAZ, eAR, eLen, aN, aC, xV, xS, eX, eIf, eC_b, cA, cO, cN, sSk, sSq, sI, sL, sR, sInc, sF, sFO, sAI, sAZ, sAO, sX, sXp, sIf, sCut, sSqs, sSw, sRt, sRz_g, is01_b, is01_0, is01_1, sRv, sBk, sCt, sCp, lset, lclr, lcut, lini, lx, Value.category, ixOf, b2i_0, b2i_1]
          refine h10 _ ⟨_, rfl, ?_⟩
          refine s_R_fraction scr s2 (B := 64000000) (by omega) ?_ (Nat.pow_pos (by omega)) (Nat.le_trans (Nat.pow_le_pow_right (by omega) b2) (by decide)) up _ ⟨_, rfl, ?_⟩
          · have := bdI_nI (N := chT (aP A) (aR A) v x n (2 ^ n)) (by omega)
            exact ⟨by have := this.1; omega, by have := this.2; omega⟩
          · simpa using fz s2 ((g1.wk fun r k z => by omega).tr f1 fun r k z => by omega)
    · have b3 : 6 < n := by omega
      have := fz s1 (g1.wk fun r k z => by omega)
      simp only [b2, if_false] at this
      simp [eV, eI, eL, eR, e1, e2, eDI, eDL, eFI, eFL, eFR, eAI, eAZ, eAR, eLen, aN, aC, xV, xS, eX, eIf, eC_b, cA, cO, cN, sSk, sSq, sI, sL, sR, sInc, sF, sFO, sAI, sAZ, sAO, sX, sXp, sIf, sCut, sSqs, sSw, sRt, sRz_g, is01_b, is01_0, is01_1, sRv, sBk, sCt, sCp, lset, lclr, lcut, lini, lx, Value.category, ixOf, b2i_0, b2i_1, b3]
      simpa using this
