def mTP (b w : Nat) (kp : Nat → Bool) (T : TS) (s : MS) : Prop :=
  s.1 (b + 10) 7 = nI w ∧ (∀ k, k < 32 → bt (s.1 (b + 10) 8) k = kp k) ∧ s.1 (b + 10) 3 = nI T.1.length ∧ s.1 (b + 10) 4 = mS T.1.flatten ∧ s.1 (b + 10) 6 = nI T.2.1.length ∧ s.1 (b + 10) 9 = mS T.2.2.1 ∧ s.1 (b + 10) 10 = nI T.2.2.2 ∧
  (∀ p, p < T.1.length → s.1 (b + 11) p = nI (encN (T.1.getD p []))) ∧ ∀ q, q < T.2.1.length → s.1 (b + 12) q = nI (encN (T.2.1.getD q []))
abbrev FT (b : Nat) : Nat → Nat → Prop := fun r _ => r = b + 10 ∨ r = b + 11 ∨ r = b + 12
theorem mFD_fr {f : Nat → Nat → Bool} {cf cd n : Nat} {F : Nat → Nat → Prop} {s s' : MS} (h : Fr F s s') (a : ∀ k, ¬ F cf k) (b : ∀ k, ¬ F cd k) (hm : mFD f cf cd n s) : mFD f cf cd n s' := by
  intro i hi k hk
  rw [h.2 _ _ (a _), h.2 _ _ (b _)]
  exact hm i hi k hk
theorem setN_or (a b : List Nat) : setN a ||| setN b = setN (a ++ b) := by
  apply Nat.eq_of_testBit_eq
  intro i
  rw [Nat.testBit_or, setN_bit, setN_bit, setN_bit, Bool.eq_iff_iff]
  simp
theorem mS_or (a b : List Nat) : mS a ||| mS b = mS (a ++ b) := by
  unfold mS
  rw [nI_or, setN_or]
theorem s_Tree_operands {P : PC} {b : Nat} (hb : pB b) (scr : List Int32) {s : MS} (hP : okP P) {w : Nat} (hw : w = 2 ∨ w = 4) (hwd : s.1 (b + 10) 7 = nI w) {B : List Nat} (hB : wfP P w B) {m : Int32} {v : Nat → Nat} (hv : ∀ k, k < w → (bt m k = false → s.1 11 (ln B k) = nI (v k)) ∧ (bt m k = true → s.1 12 (ln B k) = nI (v k)) ∧ v k < 16) (Q : Option Value → HV → Prop)
    (h : Q (some (.int (nI (encN (tab v w))))) (hp scr s)) : X_Tree_operands [.ref (b + 10), .int (nI (encN B)), .int m] (hp scr s) Q := by
  have h16 := hP.1
  have bf := pbf hb
  have hWB := wfP_B hP hB
  have w4 : w ≤ 4 := by omega
  simp [X_Tree_operands, B_Tree_operands, eV, eI, eL, eR, e1, e2, eDI, eDL, eFI, eFL, eFR, eAI, eAZ, eAR, eLen, aN, aC, xV, xS, eX, eIf, eC_b, cA, cO, cN, sSk, sSq, sI, sL, sR, sInc, sF, sFO, sAI, sAZ, sAO, sX, sXp, sIf, sCut, sSqs, sSw, sRt, sRz_g, is01_b, is01_0, is01_1, sRv, sBk, sCt, sCp, lset, lclr, lcut, lini, lx, Value.category, ixOf, b2i_0, b2i_1]
  refine lp_ind (fun z ls h => ∃ k, z = w - k ∧ k ≤ w ∧ ls = [.ref (b + 10), .int (nI (encN B)), .int m, .int (nI (encN (tab v k))), .int (nI k), .null] ∧ h = hp scr s) ?_ ⟨0, rfl, by omega, rfl, rfl⟩
  rintro z ls h' ⟨k, hz, hk, rfl, rfl⟩ X hX
  simp [eV, eI, eL, eR, e1, e2, eDI, eDL, eFI, eFL, eFR, eAI, eAZ, eAR, eLen, aN, aC, xV, xS, eX, eIf, eC_b, cA, cO, cN, sSk, sSq, sI, sL, sR, sInc, sF, sFO, sAI, sAZ, sAO, sX, sXp, sIf, sCut, sSqs, sSw, sRt, sRz_g, is01_b, is01_0, is01_1, sRv, sBk, sCt, sCp, lset, lclr, lcut, lini, lx, Value.category, ixOf, b2i_0, b2i_1, T_Pack hb, bf, hwd]
  simp (disch := omega) only [LIT, L_0le, L_0lt, L_0eq, L_eq0, L_le0, L_lt0, L_1eq, L_eq1, L_1le, L_1lt, L_lt1, L_le1, L_p1, nI_ltI, nI_leI, nI_eq, nI_add, nI_clamp]
  split
  · next hlt =>
    have Lk := wfP_ln hB hlt
    obtain ⟨v1, v2, v3⟩ := hv k hlt
    have wl := s_withLane scr s (b := tab v k) (fun x hx => by obtain ⟨l, hl, rfl⟩ := tab_mem hx; exact (hv l (by omega)).2.2) (by rw [tab_len]; omega) v3
    rw [tab_len, ← tab_s] at wl
    simp [s_inLane scr s w4 hWB (show k < 4 by omega), t_holds scr s _ (show k < 32 by omega), T_Pack hb, T_Code c6, G6, bf, ixf hP.1 Lk, b2i_0]
    cases hbt : bt m k with
    | false =>
      simp [v1 hbt, wl]
      exact hX _ _ _ (by omega) ⟨k + 1, rfl, hlt, rfl, rfl⟩
    | true =>
      simp [v2 hbt, wl]
      exact hX _ _ _ (by omega) ⟨k + 1, rfl, hlt, rfl, rfl⟩
  · have : k = w := by omega
    subst this
    exact h
