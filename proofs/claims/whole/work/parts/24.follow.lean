theorem mR_fr {P : PC} {F : Nat → Nat → Prop} {s s' : MS} (h : Fr F s s') (a : ¬ F 65 2) (b : ∀ r k, 67 ≤ r → r ≤ 70 → ¬ F r k) (hm : mR P s) : mR P s' := by
  refine ⟨by rw [h.2 _ _ a]; exact hm.1, fun i hi => ?_⟩
  rw [h.2 _ _ (b 67 i (by omega) (by omega)), h.2 _ _ (b 68 i (by omega) (by omega)), h.2 _ _ (b 69 i (by omega) (by omega)), h.2 _ _ (b 70 i (by omega) (by omega))]
  exact hm.2 i hi
theorem mC_fr {P : PC} {c : Nat} {F : Nat → Nat → Prop} {s s' : MS} (h : Fr F s s') (a : ¬ F c 6) (b : ∀ r k, c < r → r ≤ c + 6 → ¬ F r k) (hm : mC P c s) : mC P c s' := by
  refine ⟨by rw [h.2 _ _ a]; exact hm.1, fun i hi => ?_⟩
  rw [h.2 _ _ (b (c + 1) i (by omega) (by omega)), h.2 _ _ (b (c + 2) i (by omega) (by omega)), h.2 _ _ (b (c + 3) i (by omega) (by omega)), h.2 _ _ (b (c + 4) i (by omega) (by omega)), h.2 _ _ (b (c + 5) i (by omega) (by omega)), h.2 _ _ (b (c + 6) i (by omega) (by omega))]
  exact hm.2 i hi
theorem mRow_fr {r base known w : Nat} {F : Nat → Nat → Prop} {s s' : MS} (h : Fr F s s') (a : ∀ k, ¬ F r k) (hm : mRow r s base known w) : mRow r s' base known w := by
  unfold mRow
  rw [h.2 _ _ (a _), h.2 _ _ (a _), h.2 _ _ (a _)]
  exact hm
/-- the dependences so far -/
def dmp (f : Nat → Nat → Bool) (i j k : Nat) : Bool := (List.range i).any (fun m => f m j && (decide (k = m) || pDep f k m))
theorem dmp_0 (f : Nat → Nat → Bool) (j k : Nat) : dmp f 0 j k = false := rfl
theorem dmp_s (f : Nat → Nat → Bool) (i j k : Nat) : dmp f (i + 1) j k = (dmp f i j k || f i j && (decide (k = i) || pDep f k i)) := by
  unfold dmp
  rw [List.range_succ, List.any_append]
  simp
theorem dmp_all (f : Nat → Nat → Bool) (j k : Nat) : dmp f j j k = pDep f k j := (pDep_eq f k j).symm
theorem lts (f : Nat → Nat → Bool) (j k i : Nat) : (decide (k < i + 1) && f k j) = ((decide (k < i) && f k j) || (decide (k = i) && f i j)) := by
  by_cases h : k = i
  · subst h; simp
  · have : (k < i + 1) = (k < i) := by apply propext; omega
    simp [this, h]
/-- rows of masks: who follows, who depends, below j -/
def mFD (f : Nat → Nat → Bool) (cf cd j : Nat) (s : MS) : Prop := ∀ a, a < j → ∀ k, k < 32 → bt (s.1 cf a) k = (decide (k < a) && f k a) ∧ bt (s.1 cd a) k = pDep f k a
theorem s_R_layFollows {P : PC} (scr : List Int32) {s : MS} (hP : okP P) (hm : mR P s) {r : Nat} (hr : r = 71 ∨ r = 72) {base known w : Nat} (hw : mRow r s base known w) (hs : okS base known w) {out : Nat → Bool} (ho : ∀ k, k < 16 → bt (s.1 65 18) k = out k) (Q : Option Value → HV → Prop)
    (h : ∀ s', Fr (fun r k => r = 78 ∨ r = 79) s s' → mFD (pFol P base known out) 78 79 P.1 s' → Q none (hp scr s')) : X_R_layFollows [.ref 65, .ref r] (hp scr s) Q := by
  have h16 := hP.1
  have stay : ∀ s', Fr (fun r k => r = 78 ∨ r = 79) s s' → mR P s' ∧ mRow r s' base known w ∧ ∀ k, k < 16 → bt (s'.1 65 18) k = out k := fun s' g => ⟨mR_fr g (by omega) (by omega) hm, mRow_fr g (by omega) hw, fun k hk => by rw [g.2 _ _ (by omega)]; exact ho k hk⟩
  simp [X_R_layFollows, B_R_layFollows, eV, eI, eL, eR, e1, e2, eDI, eDL, eFI, eFL, eFR, eAI, eAZ, eAR, eLen, aN, aC, xV, xS, eX, eIf, eC_b, cA, cO, cN, sSk, sSq, sI, sL, sR, sInc, sF, sFO, sAI, sAZ, sAO, sX, sXp, sIf, sCut, sSqs, sSw, sRt, sRz_g, is01_b, is01_0, is01_1, sRv, sBk, sCt, sCp, lset, lclr, lcut, lini, lx, Value.category, ixOf, b2i_0, b2i_1]
  refine lp_ind (fun z ls h => ∃ j s', z = P.1 - j ∧ j ≤ P.1 ∧ ls = [.ref 65, .ref r, .int (nI j), .null] ∧ h = hp scr s' ∧ Fr (fun r k => r = 78 ∨ r = 79) s s' ∧ mFD (pFol P base known out) 78 79 j s') ?_ ⟨0, s, rfl, by omega, rfl, rfl, Fr.rf, fun a ha => by omega⟩
  rintro z ls h' ⟨j, s1, hz, hj, rfl, rfl, g1, g2⟩ X hX
  obtain ⟨m1, m2, m3⟩ := stay s1 g1
  simp [eV, eI, eL, eR, e1, e2, eDI, eDL, eFI, eFL, eFR, eAI, eAZ, eAR, eLen, aN, aC, xV, xS, eX, eIf, eC_b, cA, cO, cN, sSk, sSq, sI, sL, sR, sInc, sF, sFO, sAI, sAZ, sAO, sX, sXp, sIf, sCut, sSqs, sSw, sRt, sRz_g, is01_b, is01_0, is01_1, sRv, sBk, sCt, sCp, lset, lclr, lcut, lini, lx, Value.category, ixOf, b2i_0, b2i_1, T_R, m1.1]
  simp (disch := omega) only [LIT, L_0le, L_0lt, L_0eq, L_eq0, L_le0, L_lt0, L_1eq, L_eq1, L_1le, L_1lt, L_lt1, L_le1, L_p1, nI_ltI, nI_leI, nI_eq, nI_add, nI_clamp]
  split
  · next hlt =>
    simp [G_R, T_R, ixf hP.1 hlt]
    refine lp_ind (fun z ls h => ∃ i s', z = j - i ∧ i ≤ j ∧ ls = [.ref 65, .ref r, .int (nI j), .int (nI i)] ∧ h = hp scr s' ∧ Fr (fun r k => r = 78 ∨ r = 79) s s' ∧ mFD (pFol P base known out) 78 79 j s' ∧ ∀ k, k < 32 → bt (s'.1 78 j) k = (decide (k < i) && pFol P base known out k j) ∧ bt (s'.1 79 j) k = dmp (pFol P base known out) i j k) ?_ ⟨0, _, rfl, by omega, rfl, rfl, (g1.up 0 (Or.inl rfl)).up 0 (Or.inr rfl), ?_, ?_⟩
    · rintro z ls h' ⟨i, s2, hz, hi, rfl, rfl, f1, f2, f3⟩ X2 hX2
      obtain ⟨n1, n2, n3⟩ := stay s2 f1
      simp [eV, eI, eL, eR, e1, e2, eDI, eDL, eFI, eFL, eFR, eAI, eAZ, eAR, eLen, aN, aC, xV, xS, eX, eIf, eC_b, cA, cO, cN, sSk, sSq, sI, sL, sR, sInc, sF, sFO, sAI, sAZ, sAO, sX, sXp, sIf, sCut, sSqs, sSw, sRt, sRz_g, is01_b, is01_0, is01_1, sRv, sBk, sCt, sCp, lset, lclr, lcut, lini, lx, Value.category, ixOf, b2i_0, b2i_1]
      simp (disch := omega) only [LIT, L_0le, L_0lt, L_0eq, L_eq0, L_le0, L_lt0, L_1eq, L_eq1, L_1le, L_1lt, L_lt1, L_le1, L_p1, nI_ltI, nI_leI, nI_eq, nI_add, nI_clamp]
      split
      · next hlt2 =>
        have hi2 : i < P.1 := by omega
        simp [s_R_doesFollow scr hP n1 hr n2 hs n3 hi2 hlt, T_R, G_R, ixf hP.1 hlt, ixf hP.1 hi2]
        split
        · next hf =>
          rw [b2i_0] at hf
          refine hX2 _ _ _ ?_ ⟨i + 1, s2, rfl, by omega, rfl, rfl, f1, f2, fun k hk => ?_⟩
          · omega
          · rw [(f3 k hk).1, (f3 k hk).2, dmp_s, lts (pFol P base known out) j k i, hf]
            simp
        · next hf =>
          have hf2 : pFol P base known out i j = true := by
            rw [b2i_0] at hf
            simpa using hf
          have hne : i ≠ j := by omega
          refine hX2 _ _ _ ?_ ⟨i + 1, _, rfl, by omega, rfl, rfl, (f1.up _ (Or.inl rfl)).up _ (Or.inr rfl), fun a ha k hk => ?_, fun k hk => ?_⟩
          · omega
          · simp [up_get, Nat.ne_of_lt ha, f2 a ha k hk]
          · simp only [up_get, and_true, if_true, Nat.reduceEqDiff, false_and, if_false, hne, and_false]
            rw [b_or, b_or, b_or, b_bit (by omega) hk, (f3 k hk).1, (f3 k hk).2, (f2 i hlt2 k hk).2, dmp_s, lts (pFol P base known out) j k i, hf2]
            simp
      · have : i = j := by omega
        subst this
        refine hX _ _ _ ?_ ⟨i + 1, s2, rfl, by omega, rfl, rfl, f1, fun a ha k hk => ?_⟩
        · omega
        · rcases Nat.lt_succ_iff_lt_or_eq.mp ha with q | q
          · exact f2 a q k hk
          · subst q
            rw [(f3 k hk).1, (f3 k hk).2, dmp_all]
            exact ⟨rfl, rfl⟩
    · intro a ha k hk
      simp [up_get, Nat.ne_of_lt ha, g2 a ha k hk]
    · intro k hk
      simp [up_get, b_0, dmp_0]
  · have : j = P.1 := by omega
    subst this
    exact h s1 g1 g2
