/-! runs: memory, values, where it stopped -/
abbrev RS : Type := (Nat → Int32) × (Nat → Int32) × Int32
def fset (g : Nat → Int32) (i : Nat) (x : Int32) : Nat → Int32 := fun j => if j = i then x else g j
def pOne (P : PC) (base : Nat) (M : RS) (i : Nat) : RS :=
  if pK P i = 0 then (M.1, fset M.2.1 i (M.1 (pAddr P base i)), M.2.2)
  else if pK P i = 1 then (M.1, fset M.2.1 i (nI (pa P i)), M.2.2)
  else if pK P i = 2 then (M.1, fset M.2.1 i (M.2.1 (pa P i) + M.2.1 (pb P i)), M.2.2)
  else if pK P i = 3 then (M.1, fset M.2.1 i (M.2.1 (pa P i) - M.2.1 (pb P i)), M.2.2)
  else if pK P i = 4 then (M.1, fset M.2.1 i (M.2.1 (pa P i) * M.2.1 (pb P i)), M.2.2)
  else if pK P i = 5 then (if M.2.1 (pb P i) = 0 then (M.1, M.2.1, nI i) else (M.1, fset M.2.1 i (M.2.1 (pa P i) / M.2.1 (pb P i)), M.2.2))
  else (fset M.1 (pAddr P base i) (M.2.1 (pc P i)), M.2.1, M.2.2)
def pStep (P : PC) (base : Nat) (M : RS) (i : Nat) : RS := if M.2.2 = -9 then pOne P base M i else M
def pRun (P : PC) (base : Nat) (row : Nat → Int32) (l : List Nat) : RS := l.foldl (pStep P base) (row, fun _ => 0, -9)
theorem pRun_ap (P : PC) (base : Nat) (row : Nat → Int32) (l : List Nat) (i : Nat) : pRun P base row (l ++ [i]) = pStep P base (pRun P base row l) i := by
  unfold pRun; rw [List.foldl_append]; rfl
theorem pRun_stay {P : PC} {base : Nat} {row : Nat → Int32} {l : List Nat} (h : (pRun P base row l).2.2 ≠ -9) (m : List Nat) : pRun P base row (l ++ m) = pRun P base row l := by
  unfold pRun at h ⊢
  rw [List.foldl_append]
  generalize l.foldl (pStep P base) (row, fun _ => 0, -9) = M at h
  induction m with
  | nil => rfl
  | cons a t ih =>
    rw [List.foldl_cons]
    have : pStep P base M a = M := by unfold pStep; rw [if_neg h]
    rw [this]; exact ih
theorem pOne_zero {P : PC} {base : Nat} {M : RS} {i x : Nat} (hx : x ≠ i) : (pOne P base M i).2.1 x = M.2.1 x := by
  unfold pOne
  repeat' split
  all_goals first | rfl | (simp only [fset]; rw [if_neg hx])
theorem pRun_zero (P : PC) (base : Nat) (row : Nat → Int32) : ∀ (l : List Nat) (x : Nat), x ∉ l → (pRun P base row l).2.1 x = 0 := by
  have key : ∀ (l : List Nat) (M : RS) (x : Nat), x ∉ l → M.2.1 x = 0 → (l.foldl (pStep P base) M).2.1 x = 0 := by
    intro l
    induction l with
    | nil => intro M x _ h; exact h
    | cons a t ih =>
      intro M x hx h
      rw [List.foldl_cons]
      refine ih _ x (fun q => hx (List.mem_cons_of_mem _ q)) ?_
      unfold pStep
      split
      · rw [pOne_zero (by rintro rfl; exact hx List.mem_cons_self)]; exact h
      · exact h
  exact fun l x hx => key l _ x hx rfl
theorem pAddr_lt {P : PC} {base i : Nat} (hP : okP P) (hi : i < P.1) (hm : pMem P i = true) (hb : base ≤ 8) : pAddr P base i < 16 := by
  obtain ⟨-, h1, h2⟩ := memf hP hi hm
  unfold pAddr
  split <;> omega
/-- the class's machine -/
def mMa (base : Nat) (M : RS) (s : MS) : Prop := (∀ a, a < 16 → s.1 62 a = M.1 a) ∧ (∀ i, i < 16 → s.1 63 i = M.2.1 i) ∧ s.1 61 3 = M.2.2 ∧ s.1 61 4 = nI base
abbrev FM : Nat → Nat → Prop := fun r _ => r = 61 ∨ r = 62 ∨ r = 63
theorem up_arr {s : MS} {r i : Nat} {x : Int32} {g : Nat → Int32} (h : ∀ a, a < 16 → s.1 r a = g a) : ∀ a, a < 16 → (up s r i x).1 r a = fset g i x a := by
  intro a ha
  simp only [up_get, true_and, fset]
  split
  · rfl
  · exact h a ha
theorem up_oth {s : MS} {r c i : Nat} {x : Int32} {g : Nat → Int32} (hr : c ≠ r) (h : ∀ a, a < 16 → s.1 c a = g a) : ∀ a, a < 16 → (up s r i x).1 c a = g a := by
  intro a ha
  simp only [up_get, hr, false_and, if_false]
  exact h a ha
theorem s_Mach_carryOut {P : PC} (scr : List Int32) {s : MS} (hP : okP P) (hm : mC P 6 s) {base : Nat} (hb : base ≤ 8) {M : RS} (hM : mMa base M s) {i : Nat} (hi : i < P.1) (Q : Option Value → HV → Prop)
    (h : ∀ s', Fr FM s s' → mMa base (pOne P base M i) s' → Q none (hp scr s')) : X_Mach_carryOut [.ref 61, .int (nI i)] (hp scr s) Q := by
  have h16 := hP.1
  have h3 := hP.2 i hi
  unfold okI at h3
  obtain ⟨g1, g2, g3, g4, g5, g6⟩ := mC6 hm hi
  obtain ⟨v1, v2, v3, v4⟩ := hM
  have k7 : pK P i = 0 ∨ pK P i = 1 ∨ pK P i = 2 ∨ pK P i = 3 ∨ pK P i = 4 ∨ pK P i = 5 ∨ pK P i = 6 := by omega
  generalize hLd : (if pK P i = 6 then pc P i else if 2 ≤ pK P i then pa P i else 0) = L at g5
  generalize hRd : (if 2 ≤ pK P i ∧ pK P i ≤ 5 then pb P i else 0) = R at g6
  have hL : L < 16 := by
    rw [← hLd]
    rcases k7 with k | k | k | k | k | k | k <;> simp [k] at h3 ⊢ <;> omega
  have hR : R < 16 := by
    rw [← hRd]
    rcases k7 with k | k | k | k | k | k | k <;> simp [k] at h3 ⊢ <;> omega
  have hL3 := ix80 hL (by decide)
  have hR3 := ix80 hR (by decide)
  have i16 : i < 16 := by omega
  have bin : ∀ x, x = (pOne P base M i).2.1 i → 2 ≤ pK P i → pK P i ≤ 5 → (pOne P base M i).1 = M.1 → (pOne P base M i).2.2 = M.2.2 → Q none (hp scr (up s 63 i x)) := by
    intro x hx k2 k5 e1 e2
    refine h _ (Fr.rf.up _ (by omega)) ⟨by rw [e1]; exact up_oth (by decide) v1, fun a ha => ?_, by simp [up_get, v3, e2], by simp [up_get, v4]⟩
    simp only [up_get, true_and]
    split
    · next q => rw [q, hx]
    · next q => rw [pOne_zero q]; exact v2 a ha
  rcases k7 with k | k | k | k | k | k | k
  · have hme : pMem P i = true := by unfold pMem; simp [k]
    have al := pAddr_lt hP hi hme hb
    have g1' : s.1 7 i = 0 := by rw [g1, k]; rfl
    unfold pOne at h
    rw [if_pos k] at h
    simp [X_Mach_carryOut, B_Mach_carryOut, eV, eI, eL, eR, e1, e2, eDI, eDL, eFI, eFL, eFR, eAI, eAZ, eAR, eLen, aN, aC, xV, xS, eX, eIf, eC_b, cA, cO, cN, sSk, sSq, sI, sL, sR, sInc, sF, sFO, sAI, sAZ, sAO, sX, sXp, sIf, sCut, sSqs, sSw, sRt, sRz_g, is01_b, is01_0, is01_1, sRv, sBk, sCt, sCp, lset, lclr, lcut, lini, lx, Value.category, ixOf, b2i_0, b2i_1, T_Mach, T_Code c6, G6, G_Mach, ixf hP.1 hi, g1', g5, g6, hL3, hR3, v4, s_Code_addressOf c6 scr hP hm hi hme hb, ix80 al (by decide), v1 _ al]
    exact h _ (Fr.rf.up _ (by omega)) ⟨up_oth (by decide) v1, up_arr v2, by simp [up_get, v3], by simp [up_get, v4]⟩
  · have g1' : s.1 7 i = 1 := by rw [g1, k]; rfl
    unfold pOne at h
    rw [if_neg (by omega), if_pos k] at h
    rw [if_pos k] at g4
    simp [X_Mach_carryOut, B_Mach_carryOut, eV, eI, eL, eR, e1, e2, eDI, eDL, eFI, eFL, eFR, eAI, eAZ, eAR, eLen, aN, aC, xV, xS, eX, eIf, eC_b, cA, cO, cN, sSk, sSq, sI, sL, sR, sInc, sF, sFO, sAI, sAZ, sAO, sX, sXp, sIf, sCut, sSqs, sSw, sRt, sRz_g, is01_b, is01_0, is01_1, sRv, sBk, sCt, sCp, lset, lclr, lcut, lini, lx, Value.category, ixOf, b2i_0, b2i_1, T_Mach, T_Code c6, G6, G_Mach, ixf hP.1 hi, g1', g4, g5, g6, hL3, hR3, v4]
    exact h _ (Fr.rf.up _ (by omega)) ⟨up_oth (by decide) v1, up_arr v2, by simp [up_get, v3], by simp [up_get, v4]⟩
  · have g1' : s.1 7 i = 2 := by rw [g1, k]; rfl
    have eL : L = pa P i := by rw [← hLd]; simp [k]
    have eR : R = pb P i := by rw [← hRd]; simp [k]
    subst eL eR
    simp [X_Mach_carryOut, B_Mach_carryOut, eV, eI, eL, eR, e1, e2, eDI, eDL, eFI, eFL, eFR, eAI, eAZ, eAR, eLen, aN, aC, xV, xS, eX, eIf, eC_b, cA, cO, cN, sSk, sSq, sI, sL, sR, sInc, sF, sFO, sAI, sAZ, sAO, sX, sXp, sIf, sCut, sSqs, sSw, sRt, sRz_g, is01_b, is01_0, is01_1, sRv, sBk, sCt, sCp, lset, lclr, lcut, lini, lx, Value.category, ixOf, b2i_0, b2i_1, T_Mach, T_Code c6, G6, G_Mach, ixf hP.1 hi, g1', g5, g6, hL3, hR3, v4, v2 _ hL, v2 _ hR]
    exact bin _ (by simp [pOne, k, fset]) (by omega) (by omega) (by simp [pOne, k]) (by simp [pOne, k])
  · have g1' : s.1 7 i = 3 := by rw [g1, k]; rfl
    have eL : L = pa P i := by rw [← hLd]; simp [k]
    have eR : R = pb P i := by rw [← hRd]; simp [k]
    subst eL eR
    simp [X_Mach_carryOut, B_Mach_carryOut, eV, eI, eL, eR, e1, e2, eDI, eDL, eFI, eFL, eFR, eAI, eAZ, eAR, eLen, aN, aC, xV, xS, eX, eIf, eC_b, cA, cO, cN, sSk, sSq, sI, sL, sR, sInc, sF, sFO, sAI, sAZ, sAO, sX, sXp, sIf, sCut, sSqs, sSw, sRt, sRz_g, is01_b, is01_0, is01_1, sRv, sBk, sCt, sCp, lset, lclr, lcut, lini, lx, Value.category, ixOf, b2i_0, b2i_1, T_Mach, T_Code c6, G6, G_Mach, ixf hP.1 hi, g1', g5, g6, hL3, hR3, v4, v2 _ hL, v2 _ hR]
    exact bin _ (by simp [pOne, k, fset]) (by omega) (by omega) (by simp [pOne, k]) (by simp [pOne, k])
  · have g1' : s.1 7 i = 4 := by rw [g1, k]; rfl
    have eL : L = pa P i := by rw [← hLd]; simp [k]
    have eR : R = pb P i := by rw [← hRd]; simp [k]
    subst eL eR
    simp [X_Mach_carryOut, B_Mach_carryOut, eV, eI, eL, eR, e1, e2, eDI, eDL, eFI, eFL, eFR, eAI, eAZ, eAR, eLen, aN, aC, xV, xS, eX, eIf, eC_b, cA, cO, cN, sSk, sSq, sI, sL, sR, sInc, sF, sFO, sAI, sAZ, sAO, sX, sXp, sIf, sCut, sSqs, sSw, sRt, sRz_g, is01_b, is01_0, is01_1, sRv, sBk, sCt, sCp, lset, lclr, lcut, lini, lx, Value.category, ixOf, b2i_0, b2i_1, T_Mach, T_Code c6, G6, G_Mach, ixf hP.1 hi, g1', g5, g6, hL3, hR3, v4, v2 _ hL, v2 _ hR]
    exact bin _ (by simp [pOne, k, fset]) (by omega) (by omega) (by simp [pOne, k]) (by simp [pOne, k])
  · have g1' : s.1 7 i = 5 := by rw [g1, k]; rfl
    have eL : L = pa P i := by rw [← hLd]; simp [k]
    have eR : R = pb P i := by rw [← hRd]; simp [k]
    subst eL eR
    simp [X_Mach_carryOut, B_Mach_carryOut, eV, eI, eL, eR, e1, e2, eDI, eDL, eFI, eFL, eFR, eAI, eAZ, eAR, eLen, aN, aC, xV, xS, eX, eIf, eC_b, cA, cO, cN, sSk, sSq, sI, sL, sR, sInc, sF, sFO, sAI, sAZ, sAO, sX, sXp, sIf, sCut, sSqs, sSw, sRt, sRz_g, is01_b, is01_0, is01_1, sRv, sBk, sCt, sCp, lset, lclr, lcut, lini, lx, Value.category, ixOf, b2i_0, b2i_1, T_Mach, T_Code c6, U_Mach, G6, G_Mach, ixf hP.1 hi, g1', g5, g6, hL3, hR3, v4, v2 _ hL, v2 _ hR]
    by_cases y0 : M.2.1 (pb P i) = 0
    · simp [y0]
      refine h _ (Fr.rf.up _ (by omega)) ?_
      have e : pOne P base M i = (M.1, M.2.1, nI i) := by simp [pOne, k, y0]
      rw [e]
      exact ⟨up_oth (by decide) v1, up_oth (by decide) v2, by simp [up_get], by simp [up_get, v4]⟩
    · simp [y0]
      exact bin _ (by simp [pOne, k, fset, y0]) (by omega) (by omega) (by simp [pOne, k, y0]) (by simp [pOne, k, y0])
  · have hme : pMem P i = true := by unfold pMem; simp [k]
    have al := pAddr_lt hP hi hme hb
    have g1' : s.1 7 i = 6 := by rw [g1, k]; rfl
    have eL : L = pc P i := by rw [← hLd]; simp [k]
    subst eL
    have e : pOne P base M i = (fset M.1 (pAddr P base i) (M.2.1 (pc P i)), M.2.1, M.2.2) := by simp [pOne, k]
    rw [e] at h
    simp [X_Mach_carryOut, B_Mach_carryOut, eV, eI, eL, eR, e1, e2, eDI, eDL, eFI, eFL, eFR, eAI, eAZ, eAR, eLen, aN, aC, xV, xS, eX, eIf, eC_b, cA, cO, cN, sSk, sSq, sI, sL, sR, sInc, sF, sFO, sAI, sAZ, sAO, sX, sXp, sIf, sCut, sSqs, sSw, sRt, sRz_g, is01_b, is01_0, is01_1, sRv, sBk, sCt, sCp, lset, lclr, lcut, lini, lx, Value.category, ixOf, b2i_0, b2i_1, T_Mach, T_Code c6, G6, G_Mach, ixf hP.1 hi, g1', g5, g6, hL3, hR3, v4, s_Code_addressOf c6 scr hP hm hi hme hb, ix80 al (by decide), v2 _ hL]
    exact h _ (Fr.rf.up _ (by omega)) ⟨up_arr v1, up_oth (by decide) v2, by simp [up_get, v3], by simp [up_get, v4]⟩
