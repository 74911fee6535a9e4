/-- a row that numbers the packs of a list -/
def NR (P : PC) (w c : Nat) (L : List (List Nat)) (s : MS) : Prop := (∀ i, i < P.1 → L.flatten.contains i = false → s.1 c i = -9) ∧ ∀ p, p < L.length → ∀ k, k < w → s.1 c (ln (L.getD p []) k) = nI p
theorem NR_fr {P : PC} {w c : Nat} {L : List (List Nat)} {F : Nat → Nat → Prop} {s s' : MS} (h : Fr F s s') (a : ∀ k, ¬ F c k) (hm : NR P w c L s) : NR P w c L s' := ⟨fun i hi hc => by rw [h.2 _ _ (a _)]; exact hm.1 i hi hc, fun p hp k hk => by rw [h.2 _ _ (a _)]; exact hm.2 p hp k hk⟩
def sm (L : List (List Nat)) (i j : Nat) : Bool := L.any (fun B => B.contains i && B.contains j)
theorem sm_iff {L : List (List Nat)} {i j : Nat} : sm L i j = true ↔ ∃ B, B ∈ L ∧ i ∈ B ∧ j ∈ B := by
  unfold sm
  rw [List.any_eq_true]
  simp only [Bool.and_eq_true, List.contains_iff_mem]
theorem nd_app (K T : List (List Nat)) (i j : Nat) : nd (K ++ T) i j = (decide (i = j) || (sm K i j || sm T i j)) := by
  unfold nd sm
  rw [List.any_append]
theorem NR_sm {P : PC} {w c : Nat} {L : List (List Nat)} {s : MS} (hP : okP P) (hA : ∀ B, B ∈ L → wfP P w B) (hl : L.length ≤ 100) (h : NR P w c L s) {i j : Nat} (hi : i < P.1) (hj : j < P.1) : (s.1 c i ≠ -9 ∧ s.1 c j = s.1 c i) = (sm L i j = true) := by
  rw [sm_iff]
  apply propext
  have none : ∀ k, k < P.1 → s.1 c k ≠ -9 → L.flatten.contains k = true := by
    intro k hk q
    cases e : L.flatten.contains k with
    | true => rfl
    | false => exact absurd (h.1 k hk e) q
  constructor
  · rintro ⟨a, b⟩
    obtain ⟨p, k, hp, hk, e⟩ := (in_flat hP hA).mp (none i hi a)
    obtain ⟨p2, k2, hp2, hk2, e2⟩ := (in_flat hP hA).mp (none j hj (by rw [b]; exact a))
    have v := h.2 p hp k hk
    have v2 := h.2 p2 hp2 k2 hk2
    rw [e] at v
    rw [e2] at v2
    rw [v, v2, nI_eq (by omega) (by omega)] at b
    subst b
    refine ⟨_, getD_mem hp2, ?_, ?_⟩
    · rw [← e]; exact ln_mem (wfP_B hP (hA _ (getD_mem hp))) hk
    · rw [← e2]; exact ln_mem (wfP_B hP (hA _ (getD_mem hp2))) hk2
  · rintro ⟨B, b1, b2, b3⟩
    obtain ⟨p, hp, e⟩ := List.getElem_of_mem b1
    have e2 : L.getD p [] = B := by rw [List.getD_eq_getElem?_getD, List.getElem?_eq_getElem hp]; exact e
    obtain ⟨k, hk, r1⟩ := (mem_ln (wfP_B hP (hA B b1))).mp b2
    obtain ⟨l, hl2, r2⟩ := (mem_ln (wfP_B hP (hA B b1))).mp b3
    have v := h.2 p hp k hk
    have v2 := h.2 p hp l hl2
    rw [e2, r1] at v
    rw [e2, r2] at v2
    rw [v, v2]
    refine ⟨fun q => ?_, rfl⟩
    rw [nI_n9 (by omega)] at q
    exact q
theorem s_R_nodeOf {P : PC} (scr : List Int32) {s : MS} (hP : okP P) (hm : mR P s) {w : Nat} {K T : List (List Nat)} (hK : ∀ B, B ∈ K → wfP P w B) (hT : ∀ B, B ∈ T → wfP P w B) (lK : K.length ≤ 100) (lT : T.length ≤ 100) (nK : NR P w 80 K s) (nT : NR P w 82 T s) {i : Nat} (hi : i < P.1) (Q : Option Value → HV → Prop)
    (h : ∀ y, mk y (nd (K ++ T) i) → Q (some (.int y)) (hp scr s)) : X_R_nodeOf [.ref 65, .int (nI i)] (hp scr s) Q := by
  have h16 := hP.1
  have wl : ∀ j, nd (K ++ T) i j = true → j < P.1 := fun j q => nd_lt (w := w) (fun B hB => by
    rcases List.mem_append.mp hB with r | r
    · exact hK B r
    · exact hT B r) hi q
  simp [X_R_nodeOf, B_R_nodeOf, eV, eI, eL, eR, e1, e2, eDI, eDL, eFI, eFL, eFR, eAI, eAZ, eAR, eLen, aN, aC, xV, xS, eX, eIf, eC_b, cA, cO, cN, sSk, sSq, sI, sL, sR, sInc, sF, sFO, sAI, sAZ, sAO, sX, sXp, sIf, sCut, sSqs, sSw, sRt, sRz_g, is01_b, is01_0, is01_1, sRv, sBk, sCt, sCp, lset, lclr, lcut, lini, lx, Value.category, ixOf, b2i_0, b2i_1]
  refine lp_ind (fun z ls h => ∃ k y, z = P.1 - k ∧ k ≤ P.1 ∧ mk y (fun j => decide (i = j) || decide (j < k) && nd (K ++ T) i j) ∧ ls = [.ref 65, .int (nI i), .int y, .int (nI k), .null, .null] ∧ h = hp scr s) ?_ ⟨0, _, rfl, by omega, fun k hk => ?_, rfl, rfl⟩
  · rintro z ls h' ⟨k, y, hz, hk, hy, rfl, rfl⟩ X hX
    refine cX (t := decide (k < P.1)) (h' := hp scr s) ?h1 ?h2
    case h1 =>
      intro K
      simp [eV, eI, eL, eR, e1, e2, eDI, eDL, eFI, eFL, eFR, eAI, eAZ, eAR, eLen, aN, aC, xV, xS, eX, eIf, eC_b, cA, cO, cN, sSk, sSq, sI, sL, sR, sInc, sF, sFO, sAI, sAZ, sAO, sX, sXp, sIf, sCut, sSqs, sSw, sRt, sRz_g, is01_b, is01_0, is01_1, sRv, sBk, sCt, sCp, lset, lclr, lcut, lini, lx, Value.category, ixOf, b2i_0, b2i_1, T_R, hm.1]
      simp (disch := omega) only [LIT, L_0le, L_0lt, L_0eq, L_eq0, L_le0, L_lt0, L_1eq, L_eq1, L_1le, L_1lt, L_lt1, L_le1, L_p1, nI_ltI, nI_leI, nI_eq, nI_add, nI_clamp]
    case h2 =>
      by_cases hlt : k < P.1
      · have a1 := NR_sm hP hK lK nK hi hlt
        have a2 := NR_sm hP hT lT nT hi hlt
        have ap := nd_app K T i k
        have nx : ∀ j, (decide (i = j) || decide (j < k + 1) && nd (K ++ T) i j) = ((decide (i = j) || decide (j < k) && nd (K ++ T) i j) || (decide (j = k) && (sm K i k || sm T i k))) := by
          intro j
          by_cases c : j = k
          · subst c; simp [ap, Bool.or_comm]
          · have : (j < k + 1) = (j < k) := by apply propext; omega
            simp [this, c]
        simp only [hlt, decide_true, if_true, sCut]
        rw [sSq_C (t := sm K i k) ?h3 (by simp)]
        case h3 =>
          intro K2
          rw [show sm K i k = decide (s.1 80 i ≠ -9 ∧ s.1 80 k = s.1 80 i) by rw [Bool.eq_iff_iff, decide_eq_true_eq, a1]]
          by_cases c : s.1 80 i = -9 <;> simp [eV, eI, eL, eR, e1, e2, eDI, eDL, eFI, eFL, eFR, eAI, eAZ, eAR, eLen, aN, aC, xV, xS, eX, eIf, eC_b, cA, cO, cN, sSk, sSq, sI, sL, sR, sInc, sF, sFO, sAI, sAZ, sAO, sX, sXp, sIf, sCut, sSqs, sSw, sRt, sRz_g, is01_b, is01_0, is01_1, sRv, sBk, sCt, sCp, lset, lclr, lcut, lini, lx, Value.category, ixOf, b2i_0, b2i_1, T_R, G_R, ixf hP.1 hi, ixf hP.1 hlt, c]
        rw [sSq_C (t := sm T i k) ?h4 (by simp [lset])]
        case h4 =>
          intro K2
          rw [show sm T i k = decide (s.1 82 i ≠ -9 ∧ s.1 82 k = s.1 82 i) by rw [Bool.eq_iff_iff, decide_eq_true_eq, a2]]
          by_cases c : s.1 82 i = -9 <;> simp [eV, eI, eL, eR, e1, e2, eDI, eDL, eFI, eFL, eFR, eAI, eAZ, eAR, eLen, aN, aC, xV, xS, eX, eIf, eC_b, cA, cO, cN, sSk, sSq, sI, sL, sR, sInc, sF, sFO, sAI, sAZ, sAO, sX, sXp, sIf, sCut, sSqs, sSw, sRt, sRz_g, is01_b, is01_0, is01_1, sRv, sBk, sCt, sCp, lset, lclr, lcut, lini, lx, Value.category, ixOf, b2i_0, b2i_1, T_R, G_R, ixf hP.1 hi, ixf hP.1 hlt, c]
        have go := fun y2 (hy2 : mk y2 (fun j => decide (i = j) || decide (j < k + 1) && nd (K ++ T) i j)) => hX (P.1 - (k + 1)) [.ref 65, .int (nI i), .int y2, .int (nI (k + 1)), .null, .null] (hp scr s) (by rw [hz]; omega) ⟨k + 1, y2, rfl, hlt, hy2, rfl, rfl⟩
        cases c1 : sm K i k <;> cases c2 : sm T i k <;> rw [c1, c2] at nx <;> simp [eV, eI, eL, eR, e1, e2, eDI, eDL, eFI, eFL, eFR, eAI, eAZ, eAR, eLen, aN, aC, xV, xS, eX, eIf, eC_b, cA, cO, cN, sSk, sSq, sI, sL, sR, sInc, sF, sFO, sAI, sAZ, sAO, sX, sXp, sIf, sCut, sSqs, sSw, sRt, sRz_g, is01_b, is01_0, is01_1, sRv, sBk, sCt, sCp, lset, lclr, lcut, lini, lx, Value.category, ixOf, b2i_0, b2i_1, b2i, L_p1]
        · exact go _ fun j hj => by rw [hy j hj]; dsimp only; rw [nx]; simp
        · exact go _ fun j hj => by rw [b_or, hy j hj, b_bit (by omega) hj]; dsimp only; rw [nx]; simp
        · exact go _ fun j hj => by rw [b_or, hy j hj, b_bit (by omega) hj]; dsimp only; rw [nx]; simp
        · exact go _ fun j hj => by rw [b_or, hy j hj, b_bit (by omega) hj]; dsimp only; rw [nx]; simp
      · have : k = P.1 := by omega
        subst this
        simp only [hlt, decide_false, Bool.false_eq_true, if_false]
        simp [eV, eI, eL, eR, e1, e2, eDI, eDL, eFI, eFL, eFR, eAI, eAZ, eAR, eLen, aN, aC, xV, xS, eX, eIf, eC_b, cA, cO, cN, sSk, sSq, sI, sL, sR, sInc, sF, sFO, sAI, sAZ, sAO, sX, sXp, sIf, sCut, sSqs, sSw, sRt, sRz_g, is01_b, is01_0, is01_1, sRv, sBk, sCt, sCp, lset, lclr, lcut, lini, lx, Value.category, ixOf, b2i_0, b2i_1]
        refine h y fun j hj => ?_
        rw [hy j hj]
        dsimp only
        cases c : nd (K ++ T) i j with
        | false =>
          have : i ≠ j := by rintro rfl; rw [nd_self] at c; simp at c
          simp [this]
        | true => rw [decide_eq_true (wl j c)]; simp
  · rw [b_bit (by omega) hk]
    simp [eq_comm]
