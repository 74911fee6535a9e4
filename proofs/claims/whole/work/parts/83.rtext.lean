/-! the reference reads -/
theorem rng_sub {c d N : Nat} (hc : c < 256) (hd : d < 256) (hN : N < 256) : rng 0 (nI N) (nI c - nI d) = (decide (d ≤ c) && decide (c ≤ d + N)) := by
  rcases sub_case hc hd with ⟨q, e⟩ | ⟨q, e⟩
  · rw [e, rng_nI (by omega) (by omega), decide_eq_true q, Bool.true_and, decide_eq_decide]
    omega
  · unfold rng
    rw [decide_eq_true e, decide_eq_false (show ¬ d ≤ c by omega)]
    rfl
theorem rng_two {c a b : Nat} (hc : c < 256) (ha : a < 256) (hb : b < 256) : rng (nI a) (nI b) (nI c) = (decide (a ≤ c) && decide (c ≤ b)) := by
  unfold rng
  have e1' : (nI c < nI a) = ¬ (a ≤ c) := by rw [nI_ltI (by omega) (by omega)]; apply propext; omega
  have e2' : (nI b < nI c) = ¬ (c ≤ b) := by rw [nI_ltI (by omega) (by omega)]; apply propext; omega
  simp only [e1', e2']
  by_cases p : a ≤ c <;> by_cases q : c ≤ b <;> simp [p, q]
abbrev Fp : Nat → Nat → Prop := fun r k => (90 ≤ r ∧ r ≤ 93) ∨ (r = 65 ∧ 40 ≤ k)
/-- the block as read so far -/
def mRb (P : PC) (s : MS) : Prop := s.1 65 43 = nI P.1 ∧ ∀ i, i < P.1 → s.1 90 i = nI (pK P i) ∧ s.1 91 i = nI (pa P i) ∧ (pK P i ≠ 1 → s.1 92 i = nI (pb P i)) ∧ (pK P i = 6 → s.1 93 i = nI (pc P i))
theorem mRb_fr {P : PC} {F : Nat → Nat → Prop} {s s' : MS} (h : Fr F s s') (a : ¬ F 65 43) (b : ∀ r k, 90 ≤ r → r ≤ 93 → k < P.1 → ¬ F r k) (hm : mRb P s) : mRb P s' := by
  refine ⟨by rw [h.2 _ _ a]; exact hm.1, fun i hi => ?_⟩
  rw [h.2 _ _ (b 90 i (by omega) (by omega) hi), h.2 _ _ (b 91 i (by omega) (by omega) hi), h.2 _ _ (b 92 i (by omega) (by omega) hi), h.2 _ _ (b 93 i (by omega) (by omega) hi)]
  exact hm.2 i hi
def mRd (σ : PSt) (s : MS) : Prop := mRb σ.2.2.1 s ∧ (2 ≤ σ.1 → s.1 65 40 = nI σ.2.1.1) ∧ (3 ≤ σ.1 → s.1 65 41 = nI σ.2.1.2.1) ∧ (4 ≤ σ.1 → s.1 65 42 = nI σ.2.1.2.2) ∧ (σ.1 < 4 → s.1 65 48 = 1 ∧ s.1 65 49 = nI (σ.1 - 1)) ∧ (σ.1 = 4 → s.1 65 48 = 0) ∧ (σ.1 = 5 → s.1 65 48 = 2 ∧ s.1 65 49 = nI σ.2.2.2.2.length ∧ s.1 90 σ.2.2.1.1 = nI σ.2.2.2.1 ∧ ∀ q, q < σ.2.2.2.2.length → s.1 (91 + q) σ.2.2.1.1 = nI (σ.2.2.2.2.getD q 0))
theorem s_R_takeHead (scr : List Int32) {s : MS} {p : Nat} {hh : Nat × Nat × Nat} {P : PC} {k : Nat} {ps : List Nat} (p1 : 1 ≤ p) (p3 : p ≤ 3) (hM : mRd (p, hh, P, k, ps) s) {c : Nat} (hc : c < 256) (Q : Option Value → HV → Prop) (h : ∀ s' b, Fr Fp s s' → b = (pLet (p, hh, P, k, ps) c).isSome → (∀ σ', pLet (p, hh, P, k, ps) c = some σ' → mRd σ' s') → Q (some (.int (b2i b))) (hp scr s')) : X_R_takeHead [.ref 65, .int (nI c - 48)] (hp scr s) Q := by
  obtain ⟨h1, h2, h3, h4, h5, h6, h7⟩ := hM
  dsimp only at h1 h2 h3 h4 h5 h6 h7
  obtain ⟨h5a, h5b⟩ := h5 (by omega)
  have sub : 48 ≤ c → nI c - 48 = nI (c - 48) := fun q => nI_sub (a := c) (b := 48) q
  have pl : pLet (p, hh, P, k, ps) c = if hdOk p c then some (p + 1, hdPut p c hh, P, k, ps) else none := by simp only [pLet]; rw [if_pos (by omega)]
  rw [pl] at h
  have t8 := fun s1 Q => t_in scr s1 (nI c - 48) 0 8 (A := 0) (B := 8) rfl rfl Q
  have t1 := fun s1 Q => t_in scr s1 (nI c - 48) 0 1 (A := 0) (B := 1) rfl rfl Q
  have r8 : rng 0 8 (nI c - 48) = (decide (48 ≤ c) && decide (c ≤ 48 + 8)) := rng_sub (d := 48) (N := 8) hc (by decide) (by decide)
  have r1 : rng 0 1 (nI c - 48) = (decide (48 ≤ c) && decide (c ≤ 48 + 1)) := rng_sub (d := 48) (N := 1) hc (by decide) (by decide)
  rcases (show p = 1 ∨ p = 2 ∨ p = 3 by omega) with rfl | rfl | rfl
  · have h5b : s.1 65 49 = 0 := h5b
    simp [X_R_takeHead, B_R_takeHead, eV, eI, eL, eR, e1, e2, eDI, eDL, eFI, eFL, eFR, eAI, eAZ, eAR, eLen, aN, aC, xV, xS, eX, eIf, eC_b, cA, cO, cN, sSk, sSq, sI, sL, sR, sInc, sF, sFO, sAI, sAZ, sAO, sX, sXp, sIf, sCut, sSqs, sSw, sRt, sRz_g, is01_b, is01_0, is01_1, sRv, sBk, sCt, sCp, lset, lclr, lcut, lini, lx, Value.category, ixOf, b2i_0, b2i_1, T_R, U_R, h5b, up_get, t8, is01_b]
    have e : rng 0 8 (nI c - 48) = hdOk 1 c := by rw [r8]; rfl
    rw [e]
    refine h _ _ ((Fr.rf.up _ (by omega)).up _ (by omega)) (by cases hdOk 1 c <;> rfl) fun σ' hs => ?_
    cases ho : hdOk 1 c with
    | false => rw [ho] at hs; cases hs
    | true =>
      rw [ho] at hs
      cases hs
      simp [hdOk] at ho
      refine ⟨mRb_fr (F := fun r k => r = 65 ∧ (k = 40 ∨ k = 49)) ((Fr.rf.up _ (by omega)).up _ (by omega)) (by omega) (by omega) h1, fun _ => ?_, fun q => by dsimp only at q; omega, fun q => by dsimp only at q; omega, fun _ => ⟨?_, ?_⟩, fun q => by dsimp only at q; omega, fun q => by dsimp only at q; omega⟩
      · simp [up_get, hdPut]; exact sub ho.1
      · simp [up_get]; exact h5a
      · simp [up_get]; rfl
  · have h5b : s.1 65 49 = 1 := h5b
    simp [X_R_takeHead, B_R_takeHead, eV, eI, eL, eR, e1, e2, eDI, eDL, eFI, eFL, eFR, eAI, eAZ, eAR, eLen, aN, aC, xV, xS, eX, eIf, eC_b, cA, cO, cN, sSk, sSq, sI, sL, sR, sInc, sF, sFO, sAI, sAZ, sAO, sX, sXp, sIf, sCut, sSqs, sSw, sRt, sRz_g, is01_b, is01_0, is01_1, sRv, sBk, sCt, sCp, lset, lclr, lcut, lini, lx, Value.category, ixOf, b2i_0, b2i_1, T_R, U_R, h5b, up_get, t1, is01_b, show (1 : Int32) + 1 = 2 from rfl]
    have e : rng 0 1 (nI c - 48) = hdOk 2 c := by
      rw [r1]
      unfold hdOk
      by_cases q1 : c = 48
      · subst q1; rfl
      · by_cases q2 : c = 49
        · subst q2; rfl
        · simp [q1, q2]; omega
    rw [e]
    refine h _ _ ((Fr.rf.up _ (by omega)).up _ (by omega)) (by cases hdOk 2 c <;> rfl) fun σ' hs => ?_
    cases ho : hdOk 2 c with
    | false => rw [ho] at hs; cases hs
    | true =>
      rw [ho] at hs
      cases hs
      simp [hdOk] at ho
      refine ⟨mRb_fr (F := fun r k => r = 65 ∧ (k = 41 ∨ k = 49)) ((Fr.rf.up _ (by omega)).up _ (by omega)) (by omega) (by omega) h1, fun _ => ?_, fun _ => ?_, fun q => by dsimp only at q; omega, fun _ => ⟨?_, ?_⟩, fun q => by dsimp only at q; omega, fun q => by dsimp only at q; omega⟩
      · simp [up_get, hdPut]; exact h2 (by omega)
      · simp [up_get, hdPut]; exact sub (by omega)
      · simp [up_get]; exact h5a
      · simp [up_get]; rfl
  · have h5b : s.1 65 49 = 2 := h5b
    have l2 : (nI c - 48 = 2) = (c = 50) := by
      rcases sub_case (b := 48) hc (by decide) with ⟨q, e⟩ | ⟨q, e⟩
      · rw [show nI c - 48 = nI (c - 48) from e, show (2 : Int32) = nI 2 from rfl, leq _ _ (by omega) (by decide)]; apply propext; omega
      · have e : nI c - 48 < 0 := e
        apply propext
        constructor
        · intro z; rw [z] at e; exact absurd e (by decide)
        · intro z; omega
    have l4 : (nI c - 48 = 4) = (c = 52) := by
      rcases sub_case (b := 48) hc (by decide) with ⟨q, e⟩ | ⟨q, e⟩
      · rw [show nI c - 48 = nI (c - 48) from e, show (4 : Int32) = nI 4 from rfl, leq _ _ (by omega) (by decide)]; apply propext; omega
      · have e : nI c - 48 < 0 := e
        apply propext
        constructor
        · intro z; rw [z] at e; exact absurd e (by decide)
        · intro z; omega
    have fin := fun b (hb : b = hdOk 3 c) => h (up (up (up s 65 49 3) 65 42 (nI c - 48)) 65 48 0) b (((Fr.rf.up _ (by omega)).up _ (by omega)).up _ (by omega)) (by rw [hb]; cases hdOk 3 c <;> rfl) fun σ' hs => by
      cases ho : hdOk 3 c with
      | false => rw [ho] at hs; cases hs
      | true =>
        rw [ho] at hs
        cases hs
        simp [hdOk] at ho
        refine ⟨mRb_fr (F := fun r k => r = 65 ∧ (k = 42 ∨ k = 48 ∨ k = 49)) (((Fr.rf.up _ (by omega)).up _ (by omega)).up _ (by omega)) (by omega) (by omega) h1, fun _ => ?_, fun _ => ?_, fun _ => ?_, fun q => by dsimp only at q; omega, fun _ => ?_, fun q => by dsimp only at q; omega⟩
        · simp [up_get, hdPut]; exact h2 (by omega)
        · simp [up_get, hdPut]; exact h3 (by omega)
        · simp [up_get, hdPut]; exact sub (by omega)
        · simp [up_get]
    simp [X_R_takeHead, B_R_takeHead, eV, eI, eL, eR, e1, e2, eDI, eDL, eFI, eFL, eFR, eAI, eAZ, eAR, eLen, aN, aC, xV, xS, eX, eIf, eC_b, cA, cO, cN, sSk, sSq, sI, sL, sR, sInc, sF, sFO, sAI, sAZ, sAO, sX, sXp, sIf, sCut, sSqs, sSw, sRt, sRz_g, is01_b, is01_0, is01_1, sRv, sBk, sCt, sCp, lset, lclr, lcut, lini, lx, Value.category, ixOf, b2i_0, b2i_1, T_R, U_R, h5b, up_get, show (2 : Int32) + 1 = 3 from rfl, l2, l4]
    unfold hdOk at fin
    by_cases q1 : c = 50
    · have := fin true (by simp [q1])
      simp [q1]
      simpa [b2i, q1] using this
    · by_cases q2 : c = 52
      · have := fin true (by simp [q2])
        simp [q2]
        simpa [b2i, q2] using this
      · have := fin false (by simp [q1, q2])
        simp [q1, q2]
        simpa [b2i] using this
