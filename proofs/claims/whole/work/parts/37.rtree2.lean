abbrev FA : Nat → Nat → Prop := fun r k => r = 82 ∨ r = 83 ∨ (r = 65 ∧ k = 29)
theorem ln_inj {w : Nat} {B : List Nat} (hl : B.length = w) (hn : B.Nodup) {k l : Nat} (hk : k < w) (hl2 : l < w) (e : ln B k = ln B l) : k = l := by
  have := (nd_ln hl).mp hn
  rcases Nat.lt_trichotomy k l with q | q | q
  · exact absurd e (this l k hl2 q)
  · exact q
  · exact absurd e.symm (this k l hk q)
theorem s_R_addPack {P : PC} (scr : List Int32) {s : MS} (hP : okP P) {w : Nat} (hw : w = 2 ∨ w = 4) (t1 : s.1 65 19 = nI w) {B : List Nat} (hB : wfP P w B) (hn : B.Nodup) {a : Nat} (ha : a + 4 ≤ 80) (hBm : mB w a B s) (Q : Option Value → HV → Prop)
    (h : ∀ s', Fr FA s s' → s'.1 65 29 = s.1 65 29 + 1 → (∀ j, j < w → s'.1 82 (ln B j) = s.1 65 29 ∧ s'.1 83 (ln B j) = nI j) → (∀ i, B.contains i = false → s'.1 82 i = s.1 82 i ∧ s'.1 83 i = s.1 83 i) → Q none (hp scr s')) : X_R_addPack [.ref 65, .int (nI a)] (hp scr s) Q := by
  have h16 := hP.1
  simp [X_R_addPack, B_R_addPack, eV, eI, eL, eR, e1, e2, eDI, eDL, eFI, eFL, eFR, eAI, eAZ, eAR, eLen, aN, aC, xV, xS, eX, eIf, eC_b, cA, cO, cN, sSk, sSq, sI, sL, sR, sInc, sF, sFO, sAI, sAZ, sAO, sX, sXp, sIf, sCut, sSqs, sSw, sRt, sRz_g, is01_b, is01_0, is01_1, sRv, sBk, sCt, sCp, lset, lclr, lcut, lini, lx, Value.category, ixOf, b2i_0, b2i_1]
  refine lp_ind (fun z ls h => ∃ k s', z = w - k ∧ k ≤ w ∧ ls = [.ref 65, .int (nI a), .int (nI k)] ∧ h = hp scr s' ∧ Fr (fun r _ => r = 82 ∨ r = 83) s s' ∧ (∀ j, j < k → s'.1 82 (ln B j) = s.1 65 29 ∧ s'.1 83 (ln B j) = nI j) ∧ (∀ i, B.contains i = false → s'.1 82 i = s.1 82 i ∧ s'.1 83 i = s.1 83 i)) ?_ ⟨0, s, rfl, by omega, rfl, rfl, Fr.rf, fun j hj => by omega, fun i _ => ⟨rfl, rfl⟩⟩
  rintro z ls h' ⟨k, s1, hz, hk, rfl, rfl, g1, g2, g3⟩ X hX
  have e19 : s1.1 65 19 = nI w := by rw [g1.2 _ _ (by omega), t1]
  have e29 : s1.1 65 29 = s.1 65 29 := g1.2 _ _ (by omega)
  simp [eV, eI, eL, eR, e1, e2, eDI, eDL, eFI, eFL, eFR, eAI, eAZ, eAR, eLen, aN, aC, xV, xS, eX, eIf, eC_b, cA, cO, cN, sSk, sSq, sI, sL, sR, sInc, sF, sFO, sAI, sAZ, sAO, sX, sXp, sIf, sCut, sSqs, sSw, sRt, sRz_g, is01_b, is01_0, is01_1, sRv, sBk, sCt, sCp, lset, lclr, lcut, lini, lx, Value.category, ixOf, b2i_0, b2i_1, T_R, U_R, e19]
  simp (disch := omega) only [LIT, L_0le, L_0lt, L_0eq, L_eq0, L_le0, L_lt0, L_1eq, L_eq1, L_1le, L_1lt, L_lt1, L_le1, L_p1, nI_ltI, nI_leI, nI_eq, nI_add, nI_clamp]
  split
  · next hlt =>
    have Lk := wfP_ln hB hlt
    have eB : s1.1 84 (a + k) = nI (ln B k) := by rw [g1.2 _ _ (by omega)]; exact hBm k hlt
    have cB : B.contains (ln B k) = true := by simpa using ln_mem (wfP_B hP hB) hlt
    simp [eB, G_R, T_R, ix80 (show a + k < 80 by omega) (by decide), ixf hP.1 Lk, nI_pos', up_get, e29]
    refine hX _ _ _ (by omega) ⟨k + 1, _, rfl, hlt, rfl, rfl, (g1.up _ (Or.inl rfl)).up _ (Or.inr rfl), fun j hj => ?_, fun i hi => ?_⟩
    · simp only [up_get]
      by_cases c : j = k
      · subst c; simp
      · have : ln B j ≠ ln B k := fun e => c (ln_inj hB.1 hn (by omega) hlt e)
        simp [this]
        exact g2 j (by omega)
    · have : i ≠ ln B k := by rintro rfl; rw [cB] at hi; simp at hi
      simp [up_get, this]
      exact g3 i hi
  · have : k = w := by omega
    subst this
    refine h _ ((g1.wk fun r k z => z.elim Or.inl fun q => Or.inr (Or.inl q)).up _ (Or.inr (Or.inr ⟨rfl, rfl⟩))) ?_ (fun j hj => ?_) (fun i hi => ?_)
    · simp [up_get, e29]
    · simp [up_get]; exact g2 j hj
    · simp [up_get]; exact g3 i hi
theorem addPack_mTR {P : PC} {w : Nat} {kp : Nat → Bool} {T : TS} {s s' : MS} {B : List Nat} (hP : okP P) (hT : mTR P w kp T s) (hA : ∀ B, B ∈ T.1 → wfP P w B) (hd : ∀ k, k < w → T.1.flatten.contains (ln B k) = false) (hB : wfP P w B) (g1 : Fr FA s s') (g2 : s'.1 65 29 = s.1 65 29 + 1) (g3 : ∀ j, j < w → s'.1 82 (ln B j) = s.1 65 29 ∧ s'.1 83 (ln B j) = nI j) (g4 : ∀ i, B.contains i = false → s'.1 82 i = s.1 82 i ∧ s'.1 83 i = s.1 83 i) : mTR P w kp (T.1 ++ [B], T.2) s' := by
  obtain ⟨t1, t2, t3, t4, t5, t6, t7, t8, t9⟩ := hT
  refine ⟨by rw [g1.2 _ _ (by omega), t1], fun i hi => by rw [g1.2 _ _ (by omega)]; exact t2 i hi, ?_, by rw [g1.2 _ _ (by omega), t4], by rw [g1.2 _ _ (by omega), t5], by rw [g1.2 _ _ (by omega), t6], fun q hq k hk => by rw [g1.2 _ _ (by omega)]; exact t7 q hq k hk, fun i hi hc => ?_, fun p hp k hk => ?_⟩
  · rw [g2, t3, L_p1]; simp
  · have e : (T.1 ++ [B]).flatten.contains i = (T.1.flatten.contains i || B.contains i) := by
      rw [Bool.eq_iff_iff]; simp
    rw [e, Bool.or_eq_false_iff] at hc
    rw [(g4 i hc.2).1]
    exact t8 i hi hc.1
  · rw [getD_app hp]
    simp only [List.length_append, List.length_singleton] at hp
    split
    · next q =>
      rw [(g3 k hk).1, (g3 k hk).2, t3, q]
      exact ⟨rfl, rfl⟩
    · next q =>
      have hp' : p < T.1.length := by omega
      have : B.contains (ln (T.1.getD p []) k) = false := by
        rw [Bool.eq_false_iff]
        intro c
        rw [List.contains_iff_mem] at c
        obtain ⟨l, hl, e⟩ := (mem_ln (wfP_B hP hB)).mp c
        have := hd l hl
        rw [e, (in_flat hP hA).mpr ⟨p, k, hp', hk, rfl⟩] at this
        simp at this
      rw [(g4 _ this).1, (g4 _ this).2]
      exact t9 p hp' k hk
theorem s_R_isTreePack {P : PC} (scr : List Int32) {s : MS} (hP : okP P) {w n : Nat} (hw : w = 2 ∨ w = 4) {kp : Nat → Bool} {T : TS} (ho : okT P w T n) (hT : mTR P w kp T s) {B : List Nat} (hB : wfP P w B) {a : Nat} (ha : a + 4 ≤ 80) (hBm : mB w a B s) (Q : Option Value → HV → Prop)
    (h : Q (some (.int (b2i (T.1.contains B)))) (hp scr s)) : X_R_isTreePack [.ref 65, .int (nI a)] (hp scr s) Q := by
  have h16 := hP.1
  have t1 := hT.1
  have l8 := okT_8 hP hw ho
  have w0 : 0 < w := by omega
  have L0 := wfP_ln hB w0
  have B0 := hBm 0 w0
  rw [Nat.add_zero] at B0
  generalize hF : (fun k => decide (s.1 82 (ln B k) ≠ -9) && decide (s.1 82 (ln B k) = s.1 82 (ln B 0)) && decide (s.1 83 (ln B k) = nI k)) = F
  have hFw : T.1.contains B = allB F w := by
    rw [Bool.eq_iff_iff, allB_iff, List.contains_iff_mem]
    subst hF
    simp only [Bool.and_eq_true, decide_eq_true_eq]
    constructor
    · intro m
      obtain ⟨p, hp, e⟩ := List.getElem_of_mem m
      have e2 : T.1.getD p [] = B := by rw [List.getD_eq_getElem?_getD, List.getElem?_eq_getElem hp]; exact e
      have t9 := hT.2.2.2.2.2.2.2.2 p hp
      rw [e2] at t9
      intro k hk
      rw [(t9 k hk).1, (t9 k hk).2, (t9 0 w0).1]
      refine ⟨⟨fun q => ?_, rfl⟩, rfl⟩
      rw [nI_n9 (by omega)] at q
      exact q
    · intro q
      have c0 : T.1.flatten.contains (ln B 0) = true := by
        have := (q 0 w0).1.1
        rw [Ne, tr_none hP hw ho hT L0] at this
        simpa using this
      obtain ⟨p, l, hp, hl, e⟩ := (in_flat hP ho.1).mp c0
      have t9 := hT.2.2.2.2.2.2.2.2
      have v0 := (t9 p hp l hl).1
      rw [e] at v0
      have : B = T.1.getD p [] := by
        refine ext_ln (wfP_B hP hB) (wfP_B hP (ho.1 _ (getD_mem hp))) fun k hk => ?_
        obtain ⟨⟨q1, q2⟩, q3⟩ := q k hk
        have ck : T.1.flatten.contains (ln B k) = true := by
          rw [Ne, tr_none hP hw ho hT (wfP_ln hB hk)] at q1
          simpa using q1
        obtain ⟨p2, l2, hp2, hl2, e2⟩ := (in_flat hP ho.1).mp ck
        have v2 := t9 p2 hp2 l2 hl2
        rw [e2] at v2
        rw [v2.1, v0] at q2
        rw [v2.2] at q3
        rw [nI_eq (by omega) (by omega)] at q2 q3
        subst q2 q3
        exact e2.symm
      rw [this]
      exact getD_mem hp
  rw [hFw] at h
  simp [X_R_isTreePack, B_R_isTreePack, eV, eI, eL, eR, e1, e2, eDI, eDL, eFI, eFL, eFR, eAI, eAZ, eAR, eLen, aN, aC, xV, xS, eX, eIf, eC_b, cA, cO, cN, sSk, sSq, sI, sL, sR, sInc, sF, sFO, sAI, sAZ, sAO, sX, sXp, sIf, sCut, sSqs, sSw, sRt, sRz_g, is01_b, is01_0, is01_1, sRv, sBk, sCt, sCp, lset, lclr, lcut, lini, lx, Value.category, ixOf, b2i_0, b2i_1]
  refine lp_ind (fun z ls h => ∃ k, z = w - k ∧ k ≤ w ∧ ls = [.ref 65, .int (nI a), .int (b2i (allB F k)), .int (nI k), .null] ∧ h = hp scr s) ?_ ⟨0, rfl, by omega, rfl, rfl⟩
  rintro z ls h' ⟨k, hz, hk, rfl, rfl⟩ X hX
  refine cX (t := decide (k < w)) (h' := hp scr s) ?h1 ?h2
  case h1 =>
    intro K
    simp [eV, eI, eL, eR, e1, e2, eDI, eDL, eFI, eFL, eFR, eAI, eAZ, eAR, eLen, aN, aC, xV, xS, eX, eIf, eC_b, cA, cO, cN, sSk, sSq, sI, sL, sR, sInc, sF, sFO, sAI, sAZ, sAO, sX, sXp, sIf, sCut, sSqs, sSw, sRt, sRz_g, is01_b, is01_0, is01_1, sRv, sBk, sCt, sCp, lset, lclr, lcut, lini, lx, Value.category, ixOf, b2i_0, b2i_1, T_R, t1]
    simp (disch := omega) only [LIT, L_0le, L_0lt, L_0eq, L_eq0, L_le0, L_lt0, L_1eq, L_eq1, L_1le, L_1lt, L_lt1, L_le1, L_p1, nI_ltI, nI_leI, nI_eq, nI_add, nI_clamp]
  case h2 =>
    by_cases hlt : k < w
    · have Lk := wfP_ln hB hlt
      have go := fun (x : Bool) (hx : allB F (k + 1) = x) => hX (w - (k + 1)) [.ref 65, .int (nI a), .int (b2i x), .int (nI (k + 1)), .null] (hp scr s) (by rw [hz]; omega) ⟨k + 1, rfl, hlt, by rw [hx], rfl⟩
      rw [allB] at go
      have n3 : F k = (decide (s.1 82 (ln B k) ≠ -9) && decide (s.1 82 (ln B k) = s.1 82 (ln B 0)) && decide (s.1 83 (ln B k) = nI k)) := by rw [← hF]
      generalize allB F k = u at go ⊢
      simp only [hlt, decide_true, if_true]
      simp [eV, eI, eL, eR, e1, e2, eDI, eDL, eFI, eFL, eFR, eAI, eAZ, eAR, eLen, aN, aC, xV, xS, eX, eIf, eC_b, cA, cO, cN, sSk, sSq, sI, sL, sR, sInc, sF, sFO, sAI, sAZ, sAO, sX, sXp, sIf, sCut, sSqs, sSw, sRt, sRz_g, is01_b, is01_0, is01_1, sRv, sBk, sCt, sCp, lset, lclr, lcut, lini, lx, Value.category, ixOf, b2i_0, b2i_1, hBm k hlt, B0, G_R, T_R, ix80 (show a + k < 80 by omega) (by decide), ix80 (show a < 80 by omega) (by decide), ixf hP.1 Lk, ixf hP.1 L0, nI_pos', nI_add, L_p1]
      rw [n3] at go
      by_cases h2 : s.1 82 (ln B k) = s.1 82 (ln B 0)
      · cases u <;> by_cases h1 : s.1 82 (ln B 0) = -9 <;> simp [h1, h2] at go ⊢ <;> exact go
      · cases u <;> by_cases h1 : s.1 82 (ln B k) = -9 <;> simp [h1, h2] at go ⊢ <;> exact go
    · have : k = w := by omega
      subst this
      simp only [hlt, decide_false, Bool.false_eq_true, if_false]
      simp [eV, eI, eL, eR, e1, e2, eDI, eDL, eFI, eFL, eFR, eAI, eAZ, eAR, eLen, aN, aC, xV, xS, eX, eIf, eC_b, cA, cO, cN, sSk, sSq, sI, sL, sR, sInc, sF, sFO, sAI, sAZ, sAO, sX, sXp, sIf, sCut, sSqs, sSw, sRt, sRz_g, is01_b, is01_0, is01_1, sRv, sBk, sCt, sCp, lset, lclr, lcut, lini, lx, Value.category, ixOf, b2i_0, b2i_1]
      exact h
