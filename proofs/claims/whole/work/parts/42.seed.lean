/-! the least store of a cell, and the roots -/
def LSp (p : Nat → Bool) (lo n : Nat) : Option Nat → Prop
  | none => ∀ j, lo ≤ j → j < n → p j = false
  | some m => lo ≤ m ∧ m < n ∧ p m = true ∧ ∀ j, lo ≤ j → j < m → p j = false
theorem LS_uniq {p : Nat → Bool} {lo n : Nat} {o u : Option Nat} (h1 : LSp p lo n o) (h2 : LSp p lo n u) : o = u := by
  cases o with
  | none =>
    cases u with
    | none => rfl
    | some m =>
      obtain ⟨a, b, c, d⟩ := h2
      have := h1 m a b
      rw [c] at this
      exact absurd this (by simp)
  | some k =>
    obtain ⟨a, b, c, d⟩ := h1
    cases u with
    | none =>
      have := h2 k a b
      rw [c] at this
      exact absurd this (by simp)
    | some m =>
      obtain ⟨a2, b2, c2, d2⟩ := h2
      rcases Nat.lt_trichotomy k m with q | q | q
      · have := d2 k a q
        rw [c] at this
        exact absurd this (by simp)
      · rw [q]
      · have := d m a2 q
        rw [c2] at this
        exact absurd this (by simp)
def lstO (p : Nat → Bool) : Nat → Option Nat
  | 0 => none
  | n + 1 => match lstO p n with
    | some m => some m
    | none => if p n then some n else none
theorem lstO_LS (p : Nat → Bool) : ∀ n, LSp p 0 n (lstO p n)
  | 0 => by
    show ∀ j, 0 ≤ j → j < 0 → p j = false
    intro j _ h
    omega
  | n + 1 => by
    have ih := lstO_LS p n
    unfold lstO
    split
    · next m hm =>
      rw [hm] at ih
      obtain ⟨a, b, c, d⟩ := ih
      exact ⟨a, by omega, c, d⟩
    · next hm =>
      rw [hm] at ih
      split
      · next q => exact ⟨Nat.zero_le _, by omega, q, fun j a b => ih j a b⟩
      · next q =>
        intro j a b
        rcases Nat.lt_succ_iff_lt_or_eq.mp b with r | r
        · exact ih j a r
        · rw [r]; simpa using q
theorem lstO_eq {p : Nat → Bool} {n : Nat} {o : Option Nat} (h : LSp p 0 n o) : lstO p n = o := LS_uniq (lstO_LS p n) h
def pSt (P : PC) (out kp : Nat → Bool) (r c : Nat) (i : Nat) : Bool := decide (pK P i = 6) && decide (pa P i = r) && decide (pb P i = c) && !kp i && !out i
def rO (P : PC) (out kp : Nat → Bool) (r c k : Nat) : Option Nat := lstO (pSt P out kp r (c + k)) P.1
def rtB (P : PC) (out kp : Nat → Bool) (w r c : Nat) : List Nat := tab (fun k => (rO P out kp r c k).getD 0) w
def rtAll (P : PC) (out kp : Nat → Bool) (w r c : Nat) : Bool := allB (fun k => (rO P out kp r c k).isSome) w
def rtOk (P : PC) (d : Nat → Nat → Bool) (out kp : Nat → Bool) (w r c : Nat) : Bool := rtAll P out kp w r c && pPk P d w (rtB P out kp w r c)
theorem rO_some {P : PC} {out kp : Nat → Bool} {r c k m : Nat} (h : rO P out kp r c k = some m) : m < P.1 ∧ pK P m = 6 ∧ kp m = false ∧ out m = false := by
  have := lstO_LS (pSt P out kp r (c + k)) P.1
  unfold rO at h
  rw [h] at this
  obtain ⟨-, b, q, -⟩ := this
  unfold pSt at q
  simp only [Bool.and_eq_true, decide_eq_true_eq, Bool.not_eq_true'] at q
  exact ⟨b, q.1.1.1.1, q.1.2, q.2⟩
theorem rt_wf {P : PC} {out kp : Nat → Bool} {w r c : Nat} (h : rtAll P out kp w r c = true) : wfP P w (rtB P out kp w r c) ∧ ∀ k, k < w → pK P (ln (rtB P out kp w r c) k) = 6 ∧ kp (ln (rtB P out kp w r c) k) = false ∧ out (ln (rtB P out kp w r c) k) = false := by
  unfold rtAll at h
  rw [allB_iff] at h
  have key : ∀ k, k < w → ∃ m, rO P out kp r c k = some m := fun k hk => Option.isSome_iff_exists.mp (h k hk)
  constructor
  · refine wfP_mk fun k hk => ?_
    obtain ⟨m, e⟩ := key k hk
    rw [e]
    exact (rO_some e).1
  · intro k hk
    unfold rtB
    rw [tab_ln _ hk]
    obtain ⟨m, e⟩ := key k hk
    rw [e]
    exact (rO_some e).2
theorem cIf {c : PX Bool} {a b : PS} {kn kb kc : LV → HV → Prop} {kr : Option Value → HV → Prop} {ls : LV} {h h' : HV} {t : Bool} (hc : ∀ K : Bool → HV → Prop, c ls h K ↔ K t h') (hr : if t then a kn kb kc kr ls h' else b kn kb kc kr ls h') : sIf c a b kn kb kc kr ls h := (hc _).mpr hr
theorem s_Pack_leastStore {P : PC} {b : Nat} (hb : pB b) (scr : List Int32) {s : MS} (hP : okP P) (hm : mC P 6 s) {out kp : Nat → Bool} (hob : ∀ k, k < 16 → bt (s.1 (b + 6) 4) k = out k) (hkb : ∀ k, k < 16 → bt (s.1 b 11) k = kp k) {r c : Nat} (hr : r < 2) (hc : c < 100) (Q : Option Value → HV → Prop)
    (h : Q (some (.int (match lstO (pSt P out kp r c) P.1 with | some m => nI m | none => -9))) (hp scr s)) : X_Pack_leastStore [.ref b, .int (nI r), .int (nI c)] (hp scr s) Q := by
  have h16 := hP.1
  have bf := pbf hb
  generalize hF : pSt P out kp r c = F at h
  simp [X_Pack_leastStore, B_Pack_leastStore, eV, eI, eL, eR, e1, e2, eDI, eDL, eFI, eFL, eFR, eAI, eAZ, eAR, eLen, aN, aC, xV, xS, eX, eIf, eC_b, cA, cO, cN, sSk, sSq, sI, sL, sR, sInc, sF, sFO, sAI, sAZ, sAO, sX, sXp, sIf, sCut, sSqs, sSw, sRt, sRz_g, is01_b, is01_0, is01_1, sRv, sBk, sCt, sCp, lset, lclr, lcut, lini, lx, Value.category, ixOf, b2i_0, b2i_1]
  refine lp_ind (fun z ls h => ∃ k, z = P.1 - k ∧ k ≤ P.1 ∧ (∀ j, j < k → F j = false) ∧ ls = [.ref b, .int (nI r), .int (nI c), .int (nI k)] ∧ h = hp scr s) ?_ ⟨0, rfl, by omega, fun j hj => by omega, rfl, rfl⟩
  rintro z ls h' ⟨k, hz, hk, hj, rfl, rfl⟩ X hX
  refine cX (t := decide (k < P.1)) (h' := hp scr s) ?h1 ?h2
  case h1 =>
    intro K
    simp [eV, eI, eL, eR, e1, e2, eDI, eDL, eFI, eFL, eFR, eAI, eAZ, eAR, eLen, aN, aC, xV, xS, eX, eIf, eC_b, cA, cO, cN, sSk, sSq, sI, sL, sR, sInc, sF, sFO, sAI, sAZ, sAO, sX, sXp, sIf, sCut, sSqs, sSw, sRt, sRz_g, is01_b, is01_0, is01_1, sRv, sBk, sCt, sCp, lset, lclr, lcut, lini, lx, Value.category, ixOf, b2i_0, b2i_1, T_Pack hb, T_Code c6, bf, hm.1]
    simp (disch := omega) only [LIT, L_0le, L_0lt, L_0eq, L_eq0, L_le0, L_lt0, L_1eq, L_eq1, L_1le, L_1lt, L_lt1, L_le1, L_p1, nI_ltI, nI_leI, nI_eq, nI_add, nI_clamp]
  case h2 =>
    by_cases hlt : k < P.1
    · have kk := (hP.2 k hlt).1
      have gk := mC6 hm hlt
      simp only [hlt, decide_true, if_true]
      refine cIf (t := F k) (h' := hp scr s) ?h3 ?h4
      case h3 =>
        intro K
        rw [← hF]
        unfold pSt
        have hq := fun Q => t_holds scr s (s.1 b 11 ||| s.1 (b + 6) 4) (show k < 32 by omega) Q
        rw [b_or, hob k (by omega), hkb k (by omega)] at hq
        by_cases c1 : pK P k = 6
        · obtain ⟨-, u1, u2⟩ := memf hP hlt (by unfold pMem; simp [c1])
          have g1 := gk.1
          have g2 := gk.2.1
          have g3 := gk.2.2.1
          rw [if_pos (Or.inr c1)] at g2 g3
          simp [eV, eI, eL, eR, e1, e2, eDI, eDL, eFI, eFL, eFR, eAI, eAZ, eAR, eLen, aN, aC, xV, xS, eX, eIf, eC_b, cA, cO, cN, sSk, sSq, sI, sL, sR, sInc, sF, sFO, sAI, sAZ, sAO, sX, sXp, sIf, sCut, sSqs, sSw, sRt, sRz_g, is01_b, is01_0, is01_1, sRv, sBk, sCt, sCp, lset, lclr, lcut, lini, lx, Value.category, ixOf, b2i_0, b2i_1, T_Pack hb, T_Code c6, G6, bf, ixf hP.1 hlt, g1, g2, g3, hq]
          simp (disch := omega) only [LIT, L_0le, L_0lt, L_0eq, L_eq0, L_le0, L_lt0, L_1eq, L_eq1, L_1le, L_1lt, L_lt1, L_le1, L_p1, nI_ltI, nI_leI, nI_eq, nI_add, nI_clamp]
          by_cases c2 : pa P k = r <;> by_cases c3 : pb P k = c <;> simp [c1, c2, c3, b2i_0]
        · have g1 := gk.1
          simp [eV, eI, eL, eR, e1, e2, eDI, eDL, eFI, eFL, eFR, eAI, eAZ, eAR, eLen, aN, aC, xV, xS, eX, eIf, eC_b, cA, cO, cN, sSk, sSq, sI, sL, sR, sInc, sF, sFO, sAI, sAZ, sAO, sX, sXp, sIf, sCut, sSqs, sSw, sRt, sRz_g, is01_b, is01_0, is01_1, sRv, sBk, sCt, sCp, lset, lclr, lcut, lini, lx, Value.category, ixOf, b2i_0, b2i_1, T_Pack hb, T_Code c6, G6, bf, ixf hP.1 hlt, g1]
          simp (disch := omega) only [LIT, L_0le, L_0lt, L_0eq, L_eq0, L_le0, L_lt0, L_1eq, L_eq1, L_1le, L_1lt, L_lt1, L_le1, L_p1, nI_ltI, nI_leI, nI_eq, nI_add, nI_clamp]
          simp [c1]
      case h4 =>
        cases hFk : F k with
        | true =>
          have := lstO_eq (p := F) (n := P.1) (o := some k) ⟨Nat.zero_le _, hlt, hFk, fun j _ q => hj j q⟩
          rw [this] at h
          simp [eV, eI, eL, eR, e1, e2, eDI, eDL, eFI, eFL, eFR, eAI, eAZ, eAR, eLen, aN, aC, xV, xS, eX, eIf, eC_b, cA, cO, cN, sSk, sSq, sI, sL, sR, sInc, sF, sFO, sAI, sAZ, sAO, sX, sXp, sIf, sCut, sSqs, sSw, sRt, sRz_g, is01_b, is01_0, is01_1, sRv, sBk, sCt, sCp, lset, lclr, lcut, lini, lx, Value.category, ixOf, b2i_0, b2i_1]
          exact h
        | false =>
          simp [eV, eI, eL, eR, e1, e2, eDI, eDL, eFI, eFL, eFR, eAI, eAZ, eAR, eLen, aN, aC, xV, xS, eX, eIf, eC_b, cA, cO, cN, sSk, sSq, sI, sL, sR, sInc, sF, sFO, sAI, sAZ, sAO, sX, sXp, sIf, sCut, sSqs, sSw, sRt, sRz_g, is01_b, is01_0, is01_1, sRv, sBk, sCt, sCp, lset, lclr, lcut, lini, lx, Value.category, ixOf, b2i_0, b2i_1, L_p1]
          refine hX _ _ _ (by rw [hz]; omega) ⟨k + 1, rfl, hlt, fun j h2 => ?_, rfl, rfl⟩
          rcases Nat.lt_succ_iff_lt_or_eq.mp h2 with q | q
          · exact hj j q
          · rw [q]; exact hFk
    · have : k = P.1 := by omega
      subst this
      have := lstO_eq (p := F) (n := P.1) (o := none) fun j _ q => hj j q
      rw [this] at h
      simp only [hlt, decide_false, Bool.false_eq_true, if_false]
      exact h
