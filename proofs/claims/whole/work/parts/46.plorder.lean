def mPt (b : Nat) (L : List (List Nat)) (s : MS) : Prop := ∀ i, i < 16 → mk (s.1 (b + 1) i) (nd L i)
def fBy (P : PC) (g : Nat → Nat → Bool) (N : Nat → Bool) (n k : Nat) : Bool := !allB (fun j => !(N j && g k j)) n
theorem s_Pack_followedBy {P : PC} {b : Nat} (hb : pB b) (scr : List Int32) {s : MS} (hP : okP P) (hm : mC P 6 s) {f : Nat → Nat → Bool} (hf : mFD f (b + 7) (b + 8) P.1 s) {x : Int32} {N : Nat → Bool} (hx : mk x N) (Q : Option Value → HV → Prop)
    (h : ∀ y, mk y (fBy P (gF f) N P.1) → Q (some (.int y)) (hp scr s)) : X_Pack_followedBy [.ref b, .int x] (hp scr s) Q := by
  have h16 := hP.1
  have bf := pbf hb
  simp [X_Pack_followedBy, B_Pack_followedBy, eV, eI, eL, eR, e1, e2, eDI, eDL, eFI, eFL, eFR, eAI, eAZ, eAR, eLen, aN, aC, xV, xS, eX, eIf, eC_b, cA, cO, cN, sSk, sSq, sI, sL, sR, sInc, sF, sFO, sAI, sAZ, sAO, sX, sXp, sIf, sCut, sSqs, sSw, sRt, sRz_g, is01_b, is01_0, is01_1, sRv, sBk, sCt, sCp, lset, lclr, lcut, lini, lx, Value.category, ixOf, b2i_0, b2i_1]
  refine lp_ind (fun z ls h => ∃ k y, z = P.1 - k ∧ k ≤ P.1 ∧ mk y (fBy P (gF f) N k) ∧ ls = [.ref b, .int x, .int y, .int (nI k)] ∧ h = hp scr s) ?_ ⟨0, 0, rfl, by omega, fun k hk => by rw [b_0]; rfl, rfl, rfl⟩
  rintro z ls h' ⟨k, y, hz, hk, hy, rfl, rfl⟩ X hX
  refine cX (t := decide (k < P.1)) (h' := hp scr s) ?h1 ?h2
  case h1 =>
    intro K
    simp [eV, eI, eL, eR, e1, e2, eDI, eDL, eFI, eFL, eFR, eAI, eAZ, eAR, eLen, aN, aC, xV, xS, eX, eIf, eC_b, cA, cO, cN, sSk, sSq, sI, sL, sR, sInc, sF, sFO, sAI, sAZ, sAO, sX, sXp, sIf, sCut, sSqs, sSw, sRt, sRz_g, is01_b, is01_0, is01_1, sRv, sBk, sCt, sCp, lset, lclr, lcut, lini, lx, Value.category, ixOf, b2i_0, b2i_1, T_Pack hb, T_Code c6, bf, hm.1]
    simp (disch := omega) only [LIT, L_0le, L_0lt, L_0eq, L_eq0, L_le0, L_lt0, L_1eq, L_eq1, L_1le, L_1lt, L_lt1, L_le1, L_p1, nI_ltI, nI_leI, nI_eq, nI_add, nI_clamp]
  case h2 =>
    by_cases hlt : k < P.1
    · have hq := fun Q => t_holds scr s x (show k < 32 by omega) Q
      rw [hx k (by omega)] at hq
      have nx : ∀ m, fBy P (gF f) N (k + 1) m = (fBy P (gF f) N k m || (N k && gF f m k)) := by
        intro m
        simp only [fBy, allB]
        cases allB (fun j => !(N j && gF f m j)) k <;> cases N k && gF f m k <;> rfl
      simp only [hlt, decide_true, if_true]
      simp [eV, eI, eL, eR, e1, e2, eDI, eDL, eFI, eFL, eFR, eAI, eAZ, eAR, eLen, aN, aC, xV, xS, eX, eIf, eC_b, cA, cO, cN, sSk, sSq, sI, sL, sR, sInc, sF, sFO, sAI, sAZ, sAO, sX, sXp, sIf, sCut, sSqs, sSw, sRt, sRz_g, is01_b, is01_0, is01_1, sRv, sBk, sCt, sCp, lset, lclr, lcut, lini, lx, Value.category, ixOf, b2i_0, b2i_1, hq, b2i_0, T_Pack hb, G_Pack hb, bf, ixf hP.1 hlt, L_p1]
      split
      · next q =>
        refine hX _ _ _ (by rw [hz]; omega) ⟨k + 1, _, rfl, hlt, fun m hm2 => ?_, rfl, rfl⟩
        rw [nx, b_or, hy m hm2, (hf k hlt m hm2).1, q]; rfl
      · next q =>
        simp only [Bool.not_eq_true] at q
        refine hX _ _ _ (by rw [hz]; omega) ⟨k + 1, y, rfl, hlt, fun m hm2 => ?_, rfl, rfl⟩
        rw [nx, hy m hm2, q]; simp
    · have : k = P.1 := by omega
      subst this
      simp only [hlt, decide_false, Bool.false_eq_true, if_false]
      simp [eV, eI, eL, eR, e1, e2, eDI, eDL, eFI, eFL, eFR, eAI, eAZ, eAR, eLen, aN, aC, xV, xS, eX, eIf, eC_b, cA, cO, cN, sSk, sSq, sI, sL, sR, sInc, sF, sFO, sAI, sAZ, sAO, sX, sXp, sIf, sCut, sSqs, sSw, sRt, sRz_g, is01_b, is01_0, is01_1, sRv, sBk, sCt, sCp, lset, lclr, lcut, lini, lx, Value.category, ixOf, b2i_0, b2i_1]
      exact h y hy
theorem rdy_mask {P : PC} {f : Nat → Nat → Bool} {L : List (List Nat)} {D : Nat → Bool} {i : Nat} {y d x : Int32} (h16 : P.1 ≤ 16) (hy : mk y (fBy P (gF f) (nd L i) P.1)) (hd : mk d D) (hx : mk x (nd L i)) : (y &&& ~~~(d ||| x) = 0) = (rdy P (gF f) L D i = true) := by
  rw [b_eq0]
  unfold rdy
  rw [allB_iff]
  apply propext
  constructor
  · intro q j hj
    cases c : nd L i j with
    | false => rfl
    | true =>
      simp only [Bool.not_true, Bool.false_or]
      rw [allB_iff]
      intro k hk
      have := q k (by omega)
      rw [b_and, b_cmp _ (by omega), b_or, hy k (by omega), hd k (by omega), hx k (by omega)] at this
      cases c1 : gF f k j with
      | false => rfl
      | true =>
        have e : fBy P (gF f) (nd L i) P.1 k = true := by
          unfold fBy
          rw [Bool.not_eq_true', Bool.eq_false_iff, Ne, allB_iff]
          intro z
          have := z j hj
          rw [c, c1] at this
          simp at this
        rw [e] at this
        cases c2 : D k <;> cases c3 : nd L i k <;> rw [c2, c3] at this <;> simp at this ⊢
  · intro q k hk
    rw [b_and, b_cmp _ hk, b_or, hy k hk, hd k hk, hx k hk]
    cases e : fBy P (gF f) (nd L i) P.1 k with
    | false => rfl
    | true =>
      unfold fBy at e
      rw [Bool.not_eq_true', Bool.eq_false_iff, Ne, allB_iff] at e
      simp only [Classical.not_forall] at e
      obtain ⟨j, hj, e⟩ := e
      simp only [Bool.not_eq_true', Bool.not_eq_false, Bool.and_eq_true] at e
      have a := q j hj
      rw [e.1] at a
      simp only [Bool.not_true, Bool.false_or] at a
      rw [allB_iff] at a
      have kl : k < P.1 := by
        have := e.2
        unfold gF at this
        simp only [Bool.and_eq_true, decide_eq_true_eq] at this
        omega
      have := a k kl
      rw [e.2] at this
      simp only [Bool.not_true, Bool.false_or, Bool.or_eq_true] at this
      rcases this with r | r <;> simp [r]
theorem cIf1 {c : PX Bool} {a b : PS} {kn kb kc : LV → HV → Prop} {kr : Option Value → HV → Prop} {ls : LV} {h h' : HV} {t : Bool} (hc : ∀ K : Bool → HV → Prop, K t h' → c ls h K) (hr : if t then a kn kb kc kr ls h' else b kn kb kc kr ls h') : sIf c a b kn kb kc kr ls h := hc _ hr
theorem s_Pack_leastReady {P : PC} {b : Nat} (hb : pB b) (scr : List Int32) {s : MS} (hP : okP P) (hm : mC P 6 s) {f : Nat → Nat → Bool} (hf : mFD f (b + 7) (b + 8) P.1 s) {L : List (List Nat)} (hL : mPt b L s) {d : Int32} {D : Nat → Bool} (hd : mk d D) (Q : Option Value → HV → Prop)
    (h : Q (some (.int (vO (nxt P (gF f) L D)))) (hp scr s)) : X_Pack_leastReady [.ref b, .int d] (hp scr s) Q := by
  have h16 := hP.1
  have bf := pbf hb
  unfold nxt at h
  generalize hF : (fun i => !D i && rdy P (gF f) L D i) = F at h
  simp [X_Pack_leastReady, B_Pack_leastReady, eV, eI, eL, eR, e1, e2, eDI, eDL, eFI, eFL, eFR, eAI, eAZ, eAR, eLen, aN, aC, xV, xS, eX, eIf, eC_b, cA, cO, cN, sSk, sSq, sI, sL, sR, sInc, sF, sFO, sAI, sAZ, sAO, sX, sXp, sIf, sCut, sSqs, sSw, sRt, sRz_g, is01_b, is01_0, is01_1, sRv, sBk, sCt, sCp, lset, lclr, lcut, lini, lx, Value.category, ixOf, b2i_0, b2i_1]
  refine lp_ind (fun z ls h => ∃ k, z = P.1 - k ∧ k ≤ P.1 ∧ (∀ j, j < k → F j = false) ∧ ls = [.ref b, .int d, .int (nI k)] ∧ h = hp scr s) ?_ ⟨0, rfl, by omega, fun j hj => by omega, rfl, rfl⟩
  rintro z ls h' ⟨k, hz, hk, hj, rfl, rfl⟩ X hX
  refine cX (t := decide (k < P.1)) (h' := hp scr s) ?h1 ?h2
  case h1 =>
    intro K
    simp [eV, eI, eL, eR, e1, e2, eDI, eDL, eFI, eFL, eFR, eAI, eAZ, eAR, eLen, aN, aC, xV, xS, eX, eIf, eC_b, cA, cO, cN, sSk, sSq, sI, sL, sR, sInc, sF, sFO, sAI, sAZ, sAO, sX, sXp, sIf, sCut, sSqs, sSw, sRt, sRz_g, is01_b, is01_0, is01_1, sRv, sBk, sCt, sCp, lset, lclr, lcut, lini, lx, Value.category, ixOf, b2i_0, b2i_1, T_Pack hb, T_Code c6, bf, hm.1]
    simp (disch := omega) only [LIT, L_0le, L_0lt, L_0eq, L_eq0, L_le0, L_lt0, L_1eq, L_eq1, L_1le, L_1lt, L_lt1, L_le1, L_p1, nI_ltI, nI_leI, nI_eq, nI_add, nI_clamp]
  case h2 =>
    by_cases hlt : k < P.1
    · simp only [hlt, decide_true, if_true]
      refine cIf1 (t := F k) (h' := hp scr s) ?h3 ?h4
      case h3 =>
        intro K hK
        have hq := fun Q => t_holds scr s d (show k < 32 by omega) Q
        rw [hd k (by omega)] at hq
        have e : F k = (!D k && rdy P (gF f) L D k) := by rw [← hF]
        rw [e] at hK
        simp [eV, eI, eL, eR, e1, e2, eDI, eDL, eFI, eFL, eFR, eAI, eAZ, eAR, eLen, aN, aC, xV, xS, eX, eIf, eC_b, cA, cO, cN, sSk, sSq, sI, sL, sR, sInc, sF, sFO, sAI, sAZ, sAO, sX, sXp, sIf, sCut, sSqs, sSw, sRt, sRz_g, is01_b, is01_0, is01_1, sRv, sBk, sCt, sCp, lset, lclr, lcut, lini, lx, Value.category, ixOf, b2i_0, b2i_1, hq, b2i_0]
        cases hDk : D k with
        | true =>
          rw [hDk] at hK
          simpa using hK
        | false =>
          rw [hDk] at hK
          simp [T_Pack hb, G_Pack hb, bf, ixf hP.1 hlt]
          refine s_Pack_followedBy hb scr hP hm hf (hL k (by omega)) _ fun y hy => ⟨y, rfl, ?_⟩
          have := rdy_mask h16 hy hd (hL k (by omega))
          simp [T_Pack hb, G_Pack hb, bf, ixf hP.1 hlt, this]
          exact hK
      case h4 =>
        cases hFk : F k with
        | true =>
          have := lstO_eq (p := F) (n := P.1) (o := some k) ⟨Nat.zero_le _, hlt, hFk, fun j _ q => hj j q⟩
          rw [this] at h
          simp [eV, eI, eL, eR, e1, e2, eDI, eDL, eFI, eFL, eFR, eAI, eAZ, eAR, eLen, aN, aC, xV, xS, eX, eIf, eC_b, cA, cO, cN, sSk, sSq, sI, sL, sR, sInc, sF, sFO, sAI, sAZ, sAO, sX, sXp, sIf, sCut, sSqs, sSw, sRt, sRz_g, is01_b, is01_0, is01_1, sRv, sBk, sCt, sCp, lset, lclr, lcut, lini, lx, Value.category, ixOf, b2i_0, b2i_1]
          exact h
        | false =>
          simp [eV, eI, eL, eR, e1, e2, eDI, eDL, eFI, eFL, eFR, eAI, eAZ, eAR, eLen, aN, aC, xV, xS, eX, eIf, eC_b, cA, cO, cN, sSk, sSq, sI, sL, sR, sInc, sF, sFO, sAI, sAZ, sAO, sX, sXp, sIf, sCut, sSqs, sSw, sRt, sRz_g, is01_b, is01_0, is01_1, sRv, sBk, sCt, sCp, lset, lclr, lcut, lini, lx, Value.category, ixOf, b2i_0, b2i_1, L_p1]
          refine hX _ _ _ (by rw [hz]; omega) ⟨k + 1, rfl, hlt, fun j h2 => ?_, rfl, rfl⟩
          rcases Nat.lt_succ_iff_lt_or_eq.mp h2 with q | q
          · exact hj j q
          · rw [q]; exact hFk
    · have : k = P.1 := by omega
      subst this
      have := lstO_eq (p := F) (n := P.1) (o := none) fun j _ q => hj j q
      rw [this] at h
      simp only [hlt, decide_false, Bool.false_eq_true, if_false]
      exact h
