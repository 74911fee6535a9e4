def pG (P : PC) (out : Nat → Bool) (a k : Nat) : Bool := !out a && !out k && pUses P k a
def uB (g : Nat → Nat → Bool) (j i a k : Nat) : Bool := (decide (k < j) && decide (a < k) && g a k) || (decide (k = j) && decide (a < i) && g a j)
theorem pFol_out (P : PC) (base known : Nat) (out : Nat → Bool) (i j : Nat) : pFol P base known out i j = (!out i && !out j && pFol P base known noOut i j) := by
  unfold pFol noOut
  simp
def mU (g : Nat → Nat → Bool) (ub n : Nat) (s : MS) : Prop := ∀ a, a < n → ∀ k, k < 32 → bt (s.1 ub a) k = (decide (k < n) && decide (a < k) && g a k)
abbrev FL (b : Nat) : Nat → Nat → Prop := fun r k => r = b + 7 ∨ r = b + 8 ∨ r = b + 9 ∨ (r = b + 6 ∧ k = 4)
theorem up_same {s : MS} {r k : Nat} {x : Int32} : (up s r k x).1 r k = x := if_pos ⟨rfl, rfl⟩
theorem uB_s (g : Nat → Nat → Bool) (j i a k : Nat) : uB g j (i + 1) a k = (uB g j i a k || (decide (k = j) && (decide (a = i) && g i j))) := by
  unfold uB
  rcases Nat.lt_trichotomy a i with q | q | q
  · have c1 : a < i + 1 := by omega
    have c2 : a ≠ i := by omega
    simp [q, c1, c2]
  · subst q
    by_cases r : k = j
    · subst r
      simp
    · simp [r]
  · have c1 : ¬ a < i + 1 := by omega
    have c2 : a ≠ i := by omega
    have c3 : ¬ a < i := by omega
    simp [c1, c2, c3]
theorem uB_e (g : Nat → Nat → Bool) (j a k : Nat) : uB g (j + 1) 0 a k = uB g j j a k := by
  unfold uB
  rcases Nat.lt_trichotomy k j with q | q | q
  · have c1 : k < j + 1 := by omega
    have c2 : k ≠ j := by omega
    simp [q, c1, c2]
  · subst q
    simp
  · have c1 : ¬ k < j + 1 := by omega
    have c2 : k ≠ j := by omega
    have c3 : ¬ k < j := by omega
    simp [c1, c2, c3]
theorem lk_fr {b : Nat} {c : Bool} {P : PC} {i j : Nat} {s s2 : MS} (g : Fr (FL b) s s2) : Fr (FL b) s (lk2 b c i j (lk1 b P i j s2)) := by
  have g1 : Fr (FL b) s (lk1 b P i j s2) := by
    unfold lk1
    split
    · exact g.up _ (Or.inr (Or.inr (Or.inl rfl)))
    · exact g
  unfold lk2
  split
  · exact (g1.up _ (Or.inl rfl)).up _ (Or.inr (Or.inl rfl))
  · exact g1
theorem lk_6 {b : Nat} {c : Bool} {P : PC} {i j : Nat} {s : MS} : (lk2 b c i j (lk1 b P i j s)).1 (b + 6) 4 = s.1 (b + 6) 4 := by
  unfold lk2 lk1
  split <;> split <;> simp [up_get]
theorem lk_7 {b : Nat} {c : Bool} {P : PC} {i j : Nat} {s : MS} (hi : i < 32) (a : Nat) {k : Nat} (hk : k < 32) : bt ((lk2 b c i j (lk1 b P i j s)).1 (b + 7) a) k = (bt (s.1 (b + 7) a) k || (c && (decide (a = j) && decide (k = i)))) := by
  unfold lk2 lk1
  by_cases q : a = j
  · subst q
    cases c <;> cases pUses P a i <;> simp [up_get, b_or, b_bit hi hk]
  · cases c <;> cases pUses P j i <;> simp [up_get, q]
theorem lk_8 {b : Nat} {c : Bool} {P : PC} {i j : Nat} {s : MS} (hi : i < 32) (a : Nat) {k : Nat} (hk : k < 32) : bt ((lk2 b c i j (lk1 b P i j s)).1 (b + 8) a) k = (bt (s.1 (b + 8) a) k || (c && (decide (a = j) && (decide (k = i) || bt (s.1 (b + 8) i) k)))) := by
  unfold lk2 lk1
  by_cases q : a = j
  · subst q
    cases c <;> cases pUses P a i <;> simp [up_get, b_or, b_bit hi hk, Bool.or_comm]
  · cases c <;> cases pUses P j i <;> simp [up_get, q]
theorem lk_9 {b : Nat} {c : Bool} {P : PC} {i j : Nat} {s : MS} (hj : j < 32) (a : Nat) {k : Nat} (hk : k < 32) : bt ((lk2 b c i j (lk1 b P i j s)).1 (b + 9) a) k = (bt (s.1 (b + 9) a) k || (pUses P j i && (decide (a = i) && decide (k = j)))) := by
  unfold lk2 lk1
  by_cases q : a = i
  · subst q
    cases c <;> cases pUses P j a <;> simp [up_get, b_or, b_bit hj hk]
  · cases c <;> cases pUses P j i <;> simp [up_get, q]
theorem s_Links_find {P : PC} {b : Nat} (hb : pB b) (scr : List Int32) {s : MS} (hP : okP P) (hm : mC P 6 s) {base known w : Nat} (hs : okS base known w) {out : Nat → Bool} {om : Int32} (ho : ∀ k, k < 16 → bt om k = out k) (Q : Option Value → HV → Prop)
    (h : ∀ s', Fr (FL b) s s' → mFD (pFol P base known out) (b + 7) (b + 8) P.1 s' → mU (pG P out) (b + 9) P.1 s' → s'.1 (b + 6) 4 = om → Q none (hp scr s')) : X_Links_find [.ref (b + 6), .int (nI base), .int (nI known), .int om] (hp scr s) Q := by
  have h16 := hP.1
  have bf := pbf hb
  have stay : ∀ s', Fr (FL b) s s' → mC P 6 s' := fun s' g => mC_fr g (by omega) (by omega) hm
  have hU := U_Pack hb
  simp [X_Links_find, B_Links_find, eV, eI, eL, eR, e1, e2, eDI, eDL, eFI, eFL, eFR, eAI, eAZ, eAR, eLen, aN, aC, xV, xS, eX, eIf, eC_b, cA, cO, cN, sSk, sSq, sI, sL, sR, sInc, sF, sFO, sAI, sAZ, sAO, sX, sXp, sIf, sCut, sSqs, sSw, sRt, sRz_g, is01_b, is01_0, is01_1, sRv, sBk, sCt, sCp, lset, lclr, lcut, lini, lx, Value.category, ixOf, b2i_0, b2i_1, T_Pack hb, U_Pack hb, bf]
  refine lp_ind (fun z ls h => ∃ j s', z = P.1 - j ∧ j ≤ P.1 ∧ ls = [.ref (b + 6), .int (nI base), .int (nI known), .int om, .int (nI j), .null] ∧ h = hp scr s' ∧ Fr (FL b) s s' ∧ s'.1 (b + 6) 4 = om ∧ mFD (pFol P base known out) (b + 7) (b + 8) j s' ∧ ∀ a, a < j → ∀ k, k < 32 → bt (s'.1 (b + 9) a) k = uB (pG P out) j 0 a k) ?_ ⟨0, _, rfl, by omega, rfl, rfl, Fr.rf.up om (Or.inr (Or.inr (Or.inr ⟨rfl, rfl⟩))), up_same, fun a ha => by omega, fun a ha => by omega⟩
  rintro z ls h' ⟨j, s1, hz, hj, rfl, rfl, g1, g0, g2, g3⟩ X hX
  have m1 := stay s1 g1
  simp [eV, eI, eL, eR, e1, e2, eDI, eDL, eFI, eFL, eFR, eAI, eAZ, eAR, eLen, aN, aC, xV, xS, eX, eIf, eC_b, cA, cO, cN, sSk, sSq, sI, sL, sR, sInc, sF, sFO, sAI, sAZ, sAO, sX, sXp, sIf, sCut, sSqs, sSw, sRt, sRz_g, is01_b, is01_0, is01_1, sRv, sBk, sCt, sCp, lset, lclr, lcut, lini, lx, Value.category, ixOf, b2i_0, b2i_1, T_Pack hb, T_Code c6, bf, m1.1]
  simp (disch := omega) only [LIT, L_0le, L_0lt, L_0eq, L_eq0, L_le0, L_lt0, L_1eq, L_eq1, L_1le, L_1lt, L_lt1, L_le1, L_p1, nI_ltI, nI_leI, nI_eq, nI_add, nI_clamp]
  split
  · next hlt =>
    simp [G_Pack hb, T_Pack hb, ixf hP.1 hlt, bf]
    refine lp_ind (fun z ls h => ∃ i s', z = j - i ∧ i ≤ j ∧ ls = [.ref (b + 6), .int (nI base), .int (nI known), .int om, .int (nI j), .int (nI i)] ∧ h = hp scr s' ∧ Fr (FL b) s s' ∧ s'.1 (b + 6) 4 = om ∧ mFD (pFol P base known out) (b + 7) (b + 8) j s' ∧ (∀ k, k < 32 → bt (s'.1 (b + 7) j) k = (decide (k < i) && pFol P base known out k j) ∧ bt (s'.1 (b + 8) j) k = dmp (pFol P base known out) i j k) ∧ ∀ a, a ≤ j → ∀ k, k < 32 → bt (s'.1 (b + 9) a) k = uB (pG P out) j i a k) ?_ ⟨0, _, rfl, by omega, rfl, rfl, ((g1.up 0 (Or.inl rfl)).up 0 (Or.inr (Or.inl rfl))).up 0 (Or.inr (Or.inr (Or.inl rfl))), ?_, ?_, ?_, ?_⟩
    · rintro z ls h' ⟨i, s2, hz, hi, rfl, rfl, f1, f0, f2, f3, f4⟩ X2 hX2
      have n1 := stay s2 f1
      simp [eV, eI, eL, eR, e1, e2, eDI, eDL, eFI, eFL, eFR, eAI, eAZ, eAR, eLen, aN, aC, xV, xS, eX, eIf, eC_b, cA, cO, cN, sSk, sSq, sI, sL, sR, sInc, sF, sFO, sAI, sAZ, sAO, sX, sXp, sIf, sCut, sSqs, sSw, sRt, sRz_g, is01_b, is01_0, is01_1, sRv, sBk, sCt, sCp, lset, lclr, lcut, lini, lx, Value.category, ixOf, b2i_0, b2i_1]
      simp (disch := omega) only [LIT, L_0le, L_0lt, L_0eq, L_eq0, L_le0, L_lt0, L_1eq, L_eq1, L_1le, L_1lt, L_lt1, L_le1, L_p1, nI_ltI, nI_leI, nI_eq, nI_add, nI_clamp]
      split
      · next hlt2 =>
        have hi2 : i < P.1 := by omega
        have O1 := fun Q => t_holds scr s2 om (show i < 32 by omega) Q
        have O2 := fun Q => t_holds scr s2 om (show j < 32 by omega) Q
        rw [ho i (by omega)] at O1
        rw [ho j (by omega)] at O2
        simp [T_Pack hb, bf, f0, O1, O2, s_Links_link hb scr hP n1 hs hi2 hlt, b2i_0]
        have hE := pFol_out P base known out i j
        split
        · next q =>
          rw [q] at hE
          simp at hE
          refine hX2 _ _ _ ?_ ⟨i + 1, s2, rfl, by omega, rfl, rfl, f1, f0, f2, fun k hk => ?_, fun a ha k hk => ?_⟩
          · omega
          · rw [(f3 k hk).1, (f3 k hk).2, dmp_s, lts (pFol P base known out) j k i, hE]
            simp
          · rw [f4 a ha k hk, uB_s]
            simp [pG, q]
        · next q =>
          split
          · next q2 =>
            rw [q2] at hE
            simp at hE
            refine hX2 _ _ _ ?_ ⟨i + 1, s2, rfl, by omega, rfl, rfl, f1, f0, f2, fun k hk => ?_, fun a ha k hk => ?_⟩
            · omega
            · rw [(f3 k hk).1, (f3 k hk).2, dmp_s, lts (pFol P base known out) j k i, hE]
              simp
            · rw [f4 a ha k hk, uB_s]
              simp [pG, q2]
          · next q2 =>
            simp only [Bool.not_eq_true] at q q2
            rw [q, q2] at hE
            simp at hE
            refine hX2 _ _ _ ?_ ⟨i + 1, _, rfl, by omega, rfl, rfl, lk_fr f1, lk_6.trans f0, fun a ha k hk => ?_, fun k hk => ?_, fun a ha k hk => ?_⟩
            · omega
            · rw [lk_7 (by omega) a hk, lk_8 (by omega) a hk]
              simp [Nat.ne_of_lt ha, f2 a ha k hk]
            · rw [lk_7 (by omega) j hk, lk_8 (by omega) j hk, (f3 k hk).1, (f3 k hk).2, (f2 i hlt2 k hk).2, dmp_s, lts (pFol P base known out) j k i, hE]
              cases pFol P base known noOut i j <;> simp
            · rw [lk_9 (by omega) a hk, f4 a ha k hk, uB_s]
              simp [pG, q, q2]
              cases pUses P j i <;> simp [Bool.and_comm]
      · have : i = j := by omega
        subst this
        refine hX _ _ _ ?_ ⟨i + 1, s2, rfl, by omega, rfl, rfl, f1, f0, fun a ha k hk => ?_, fun a ha k hk => ?_⟩
        · omega
        · rcases Nat.lt_succ_iff_lt_or_eq.mp ha with q | q
          · exact f2 a q k hk
          · subst q
            rw [(f3 k hk).1, (f3 k hk).2, dmp_all]
            exact ⟨rfl, rfl⟩
        · rw [f4 a (by omega) k hk, uB_e]
    · simp [up_get, g0]
    · intro a ha k hk
      simp [up_get, Nat.ne_of_lt ha, g2 a ha k hk]
    · intro k hk
      simp [up_get, b_0, dmp_0]
    · intro a ha k hk
      simp only [up_get]
      by_cases q : a = j
      · subst q
        simp [b_0, uB]
        intro x y
        omega
      · simp [q, g3 a (by omega) k hk, uB]
  · have : j = P.1 := by omega
    subst this
    refine h s1 g1 g2 (fun a ha k hk => ?_) g0
    rw [g3 a ha k hk]
    simp [uB]
