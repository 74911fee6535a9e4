def pB (b : Nat) : Prop := b = 35 ∨ b = 48
theorem pbf {b : Nat} (hb : pB b) : b ≠ 0 ∧ b ≠ 1 ∧ 35 ≤ b ∧ b ≤ 48 := by unfold pB at hb; omega
theorem c6 : (6 : Nat) = 6 ∨ (6 : Nat) = 13 := Or.inl rfl
/-- the code's facts at the cell 6, by numbers -/
theorem mC6 {P : PC} {s : MS} (h : mC P 6 s) {i : Nat} (hi : i < P.1) : s.1 7 i = nI (pK P i) ∧ s.1 8 i = nI (if pK P i = 0 ∨ pK P i = 6 then pa P i else 0) ∧ s.1 9 i = nI (if pK P i = 0 ∨ pK P i = 6 then pb P i else 0) ∧
  s.1 10 i = nI (if pK P i = 1 then pa P i else 0) ∧ s.1 11 i = nI (if pK P i = 6 then pc P i else if 2 ≤ pK P i then pa P i else 0) ∧ s.1 12 i = nI (if 2 ≤ pK P i ∧ pK P i ≤ 5 then pb P i else 0) := h.2 i hi
theorem G6 : (∀ (scr : List Int32) (s : MS) (k : Nat), k < 16 → hg (hp scr s) 7 k = some (.int (s.1 7 k)) ∧ hg (hp scr s) 8 k = some (.int (s.1 8 k)) ∧ hg (hp scr s) 9 k = some (.int (s.1 9 k)) ∧ hg (hp scr s) 10 k = some (.int (s.1 10 k)) ∧ hg (hp scr s) 11 k = some (.int (s.1 11 k)) ∧ hg (hp scr s) 12 k = some (.int (s.1 12 k))) ∧
  ∀ (scr : List Int32) (s : MS), hk (hp scr s) 7 = some 20 ∧ hk (hp scr s) 8 = some 20 ∧ hk (hp scr s) 9 = some 20 ∧ hk (hp scr s) 10 = some 20 ∧ hk (hp scr s) 11 = some 20 ∧ hk (hp scr s) 12 = some 20 := by
  have h := G_Code c6
  exact ⟨fun scr s k hk => ⟨h.2.1 scr s k hk, h.2.2.2.2.1 scr s k hk, h.2.2.2.2.2.2.2.1 scr s k hk, h.2.2.2.2.2.2.2.2.2.2.1 scr s k hk, h.2.2.2.2.2.2.2.2.2.2.2.2.2.1 scr s k hk, h.2.2.2.2.2.2.2.2.2.2.2.2.2.2.2.2.1 scr s k hk⟩, fun scr s => ⟨h.1 scr s, h.2.2.2.1 scr s, h.2.2.2.2.2.2.1 scr s, h.2.2.2.2.2.2.2.2.2.1 scr s, h.2.2.2.2.2.2.2.2.2.2.2.2.1 scr s, h.2.2.2.2.2.2.2.2.2.2.2.2.2.2.2.1 scr s⟩⟩
theorem sSk_eq {kn kb kc : LV → HV → Prop} {kr : Option Value → HV → Prop} {ls : LV} {h : HV} : sSk kn kb kc kr ls h = kn ls h := rfl
theorem s_Code_usesMemory {P : PC} {c : Nat} (hc : c = 6 ∨ c = 13) (scr : List Int32) {s : MS} (hP : okP P) (hm : mC P c s) {i : Nat} (hi : i < P.1) (Q : Option Value → HV → Prop) : X_Code_usesMemory [.ref c, .int (nI i)] (hp scr s) Q ↔ Q (some (.int (b2i (pMem P i)))) (hp scr s) := by
  have h3 := (hP.2 i hi).1
  simp [X_Code_usesMemory, B_Code_usesMemory, eV, eI, eL, eR, e1, e2, eDI, eDL, eFI, eFL, eFR, eAI, eAZ, eAR, eLen, aN, aC, xV, xS, eX, eIf, eC_b, cA, cO, cN, sSk, sSq, sI, sL, sR, sInc, sF, sFO, sAI, sAZ, sAO, sX, sXp, sIf, sCut, sSqs, sSw, sRt, sRz_g, is01_b, is01_0, is01_1, sRv, sBk, sCt, sCp, lset, lclr, lcut, lini, lx, Value.category, ixOf, b2i_0, b2i_1, T_Code hc, ccf hc, G_Code hc, ixf hP.1 hi, hm.2 i hi]
  simp (disch := omega) only [LIT, L_0le, L_0lt, L_0eq, L_eq0, L_le0, L_lt0, L_1eq, L_eq1, L_1le, L_1lt, L_lt1, L_le1, L_p1, nI_ltI, nI_leI, nI_eq, nI_add, nI_clamp]
  unfold pMem
  grind
def pClash (P : PC) (base known i j : Nat) : Bool := pMem P i && pMem P j && (decide (pK P i = 6) || decide (pK P j = 6)) && pMeet P base known i j
def pStop (P : PC) (i j : Nat) : Bool := (decide (pK P i = 5) && (decide (pK P j = 5) || decide (pK P j = 6))) || (decide (pK P j = 5) && (decide (pK P i = 5) || decide (pK P i = 6)))
theorem s_Links_clashInMemory {P : PC} {b : Nat} (hb : pB b) (scr : List Int32) {s : MS} (hP : okP P) (hm : mC P 6 s) {base known w : Nat} (hs : okS base known w) {i j : Nat} (hi : i < P.1) (hj : j < P.1) (Q : Option Value → HV → Prop) : X_Links_clashInMemory [.ref (b + 6), .int (nI i), .int (nI j), .int (nI base), .int (nI known)] (hp scr s) Q ↔ Q (some (.int (b2i (pClash P base known i j)))) (hp scr s) := by
  unfold pClash
  have g1 := mC6 hm hi
  have g2 := mC6 hm hj
  have ki := (hP.2 i hi).1
  have kj := (hP.2 j hj).1
  have A := ixf hP.1 hi
  have B := ixf hP.1 hj
  obtain ⟨b8, k1, -⟩ := hs
  simp [X_Links_clashInMemory, B_Links_clashInMemory, lini, lx, Value.category]
  rw [sSq_if (t := !(pMem P i && pMem P j && (decide (pK P i = 6) || decide (pK P j = 6)))) ?h1]
  case h1 =>
    intro K
    simp [eV, eI, eL, eR, e1, e2, eDI, eDL, eFI, eFL, eFR, eAI, eAZ, eAR, eLen, aN, aC, xV, xS, eX, eIf, eC_b, cA, cO, cN, sSk, sSq, sI, sL, sR, sInc, sF, sFO, sAI, sAZ, sAO, sX, sXp, sIf, sCut, sSqs, sSw, sRt, sRz_g, is01_b, is01_0, is01_1, sRv, sBk, sCt, sCp, lset, lclr, lcut, lini, lx, Value.category, ixOf, b2i_0, b2i_1, T_Pack hb, T_Code c6, G6, A, B, g1, g2, s_Code_usesMemory c6 scr hP hm hi, s_Code_usesMemory c6 scr hP hm hj, nb]
    simp (disch := omega) only [LIT, L_0le, L_0lt, L_0eq, L_eq0, L_le0, L_lt0, L_1eq, L_eq1, L_1le, L_1lt, L_lt1, L_le1, L_p1, nI_ltI, nI_leI, nI_eq, nI_add, nI_clamp]
    unfold pMem
    by_cases i0 : pK P i = 0 <;> by_cases j0 : pK P j = 0 <;> by_cases i6 : pK P i = 6 <;> by_cases j6 : pK P j = 6 <;> simp_all
  by_cases ht : (pMem P i && pMem P j && (decide (pK P i = 6) || decide (pK P j = 6))) = true
  · simp only [Bool.and_eq_true] at ht
    obtain ⟨⟨hmi, hmj⟩, h6⟩ := ht
    obtain ⟨-, i2, i3⟩ := memf hP hi hmi
    obtain ⟨-, j2, j3⟩ := memf hP hj hmj
    have mi : pK P i = 0 ∨ pK P i = 6 := by simpa [pMem] using hmi
    have mj : pK P j = 0 ∨ pK P j = 6 := by simpa [pMem] using hmj
    rw [if_pos mi, if_pos mi] at g1
    rw [if_pos mj, if_pos mj] at g2
    have x1 : pAddr P base i < 2 ^ 31 := by unfold pAddr; split <;> omega
    have x2 : pAddr P base j < 2 ^ 31 := by unfold pAddr; split <;> omega
    rw [hmi, hmj, h6, if_neg (by simp)]
    simp only [sSk_eq]
    rw [sSq_if (t := decide (pa P i = pa P j)) ?h2]
    case h2 =>
      intro K
      simp [eV, eI, eL, eR, e1, e2, eDI, eDL, eFI, eFL, eFR, eAI, eAZ, eAR, eLen, aN, aC, xV, xS, eX, eIf, eC_b, cA, cO, cN, sSk, sSq, sI, sL, sR, sInc, sF, sFO, sAI, sAZ, sAO, sX, sXp, sIf, sCut, sSqs, sSw, sRt, sRz_g, is01_b, is01_0, is01_1, sRv, sBk, sCt, sCp, lset, lclr, lcut, lini, lx, Value.category, ixOf, b2i_0, b2i_1, T_Pack hb, T_Code c6, G6, A, B, g1, g2]
      simp (disch := omega) only [LIT, L_0le, L_0lt, L_0eq, L_eq0, L_le0, L_lt0, L_1eq, L_eq1, L_1le, L_1lt, L_lt1, L_le1, L_p1, nI_ltI, nI_leI, nI_eq, nI_add, nI_clamp]
    unfold pMeet
    by_cases hr : pa P i = pa P j
    · rw [if_pos (by simpa using hr), if_pos hr, sRz_C (t := decide (pb P i = pb P j)) ?h3]
      case h3 =>
        intro K
        simp [eV, eI, eL, eR, e1, e2, eDI, eDL, eFI, eFL, eFR, eAI, eAZ, eAR, eLen, aN, aC, xV, xS, eX, eIf, eC_b, cA, cO, cN, sSk, sSq, sI, sL, sR, sInc, sF, sFO, sAI, sAZ, sAO, sX, sXp, sIf, sCut, sSqs, sSw, sRt, sRz_g, is01_b, is01_0, is01_1, sRv, sBk, sCt, sCp, lset, lclr, lcut, lini, lx, Value.category, ixOf, b2i_0, b2i_1, T_Pack hb, T_Code c6, G6, A, B, g1, g2]
        simp (disch := omega) only [LIT, L_0le, L_0lt, L_0eq, L_eq0, L_le0, L_lt0, L_1eq, L_eq1, L_1le, L_1lt, L_lt1, L_le1, L_p1, nI_ltI, nI_leI, nI_eq, nI_add, nI_clamp]
      simp
    · rw [if_neg (by simpa using hr), if_neg hr]
      simp only [sSk_eq]
      rw [sRz_C (t := decide (known = 0) || decide (pAddr P base i = pAddr P base j)) ?h3]
      case h3 =>
        intro K
        simp [eV, eI, eL, eR, e1, e2, eDI, eDL, eFI, eFL, eFR, eAI, eAZ, eAR, eLen, aN, aC, xV, xS, eX, eIf, eC_b, cA, cO, cN, sSk, sSq, sI, sL, sR, sInc, sF, sFO, sAI, sAZ, sAO, sX, sXp, sIf, sCut, sSqs, sSw, sRt, sRz_g, is01_b, is01_0, is01_1, sRv, sBk, sCt, sCp, lset, lclr, lcut, lini, lx, Value.category, ixOf, b2i_0, b2i_1, T_Pack hb, T_Code c6, G6, A, B, g1, g2, s_Code_addressOf c6 scr hP hm hi hmi b8, s_Code_addressOf c6 scr hP hm hj hmj b8]
        simp (disch := first | omega | assumption) only [LIT, L_0le, L_0lt, L_0eq, L_eq0, L_le0, L_lt0, L_1eq, L_eq1, L_1le, L_1lt, L_lt1, L_le1, L_p1, nI_ltI, nI_leI, nI_eq, nI_add, nI_clamp]
        by_cases hk : known = 0 <;> simp [hk]
      simp
  · rw [if_pos (by rw [Bool.not_eq_true] at ht; rw [ht]; rfl)]
    rw [show (pMem P i && pMem P j && (decide (pK P i = 6) || decide (pK P j = 6)) && pMeet P base known i j) = false by simp only [Bool.not_eq_true] at ht; rw [ht]; rfl]
    exact ⟨fun z => z.2, fun z => ⟨Or.inl rfl, z⟩⟩
theorem s_Links_clashByStop {P : PC} {b : Nat} (hb : pB b) (scr : List Int32) {s : MS} (hP : okP P) (hm : mC P 6 s) {i j : Nat} (hi : i < P.1) (hj : j < P.1) (Q : Option Value → HV → Prop) : X_Links_clashByStop [.ref (b + 6), .int (nI i), .int (nI j)] (hp scr s) Q ↔ Q (some (.int (b2i (pStop P i j)))) (hp scr s) := by
  unfold pStop
  have g1 := mC6 hm hi
  have g2 := mC6 hm hj
  have ki := (hP.2 i hi).1
  have kj := (hP.2 j hj).1
  have A := ixf hP.1 hi
  have B := ixf hP.1 hj
  simp [X_Links_clashByStop, B_Links_clashByStop, lini, lx, Value.category]
  rw [sSq_C (t := decide (pK P i = 5)) ?h1 (by simp)]
  case h1 =>
    intro K
    simp [eV, eI, eL, eR, e1, e2, eDI, eDL, eFI, eFL, eFR, eAI, eAZ, eAR, eLen, aN, aC, xV, xS, eX, eIf, eC_b, cA, cO, cN, sSk, sSq, sI, sL, sR, sInc, sF, sFO, sAI, sAZ, sAO, sX, sXp, sIf, sCut, sSqs, sSw, sRt, sRz_g, is01_b, is01_0, is01_1, sRv, sBk, sCt, sCp, lset, lclr, lcut, lini, lx, Value.category, ixOf, b2i_0, b2i_1, T_Pack hb, T_Code c6, G6, A, B, g1, g2]
    simp (disch := omega) only [LIT, L_0le, L_0lt, L_0eq, L_eq0, L_le0, L_lt0, L_1eq, L_eq1, L_1le, L_1lt, L_lt1, L_le1, L_p1, nI_ltI, nI_leI, nI_eq, nI_add, nI_clamp]
  rw [sSq_C (t := decide (pK P j = 5)) ?h2 (by simp [lset])]
  case h2 =>
    intro K
    simp [eV, eI, eL, eR, e1, e2, eDI, eDL, eFI, eFL, eFR, eAI, eAZ, eAR, eLen, aN, aC, xV, xS, eX, eIf, eC_b, cA, cO, cN, sSk, sSq, sI, sL, sR, sInc, sF, sFO, sAI, sAZ, sAO, sX, sXp, sIf, sCut, sSqs, sSw, sRt, sRz_g, is01_b, is01_0, is01_1, sRv, sBk, sCt, sCp, lset, lclr, lcut, lini, lx, Value.category, ixOf, b2i_0, b2i_1, T_Pack hb, T_Code c6, G6, A, B, g1, g2]
    simp (disch := omega) only [LIT, L_0le, L_0lt, L_0eq, L_eq0, L_le0, L_lt0, L_1eq, L_eq1, L_1le, L_1lt, L_lt1, L_le1, L_p1, nI_ltI, nI_leI, nI_eq, nI_add, nI_clamp]
  rw [sRz_C (t := (decide (pK P i = 5) && (decide (pK P j = 5) || decide (pK P j = 6))) || (decide (pK P j = 5) && (decide (pK P i = 5) || decide (pK P i = 6)))) ?h3]
  case h3 =>
    intro K
    simp [eV, eI, eL, eR, e1, e2, eDI, eDL, eFI, eFL, eFR, eAI, eAZ, eAR, eLen, aN, aC, xV, xS, eX, eIf, eC_b, cA, cO, cN, sSk, sSq, sI, sL, sR, sInc, sF, sFO, sAI, sAZ, sAO, sX, sXp, sIf, sCut, sSqs, sSw, sRt, sRz_g, is01_b, is01_0, is01_1, sRv, sBk, sCt, sCp, lset, lclr, lcut, lini, lx, Value.category, ixOf, b2i_0, b2i_1, T_Pack hb, T_Code c6, G6, A, B, g1, g2, nb]
    simp (disch := omega) only [LIT, L_0le, L_0lt, L_0eq, L_eq0, L_le0, L_lt0, L_1eq, L_eq1, L_1le, L_1lt, L_lt1, L_le1, L_p1, nI_ltI, nI_leI, nI_eq, nI_add, nI_clamp]
    by_cases i0 : pK P i = 5 <;> by_cases j0 : pK P j = 5 <;> by_cases i6 : pK P i = 6 <;> by_cases j6 : pK P j = 6 <;> simp_all
theorem sSq_I {i : Nat} {e : PX Int32} {r : PS} {kn kb kc : LV → HV → Prop} {kr : Option Value → HV → Prop} {ls : LV} {h h' : HV} {v : Int32} (hc : ∀ K : Int32 → HV → Prop, e ls h K ↔ K v h') (hi : i < ls.length) : sSq (sI i e) r kn kb kc kr ls h ↔ r kn kb kc kr (lset ls i (.int v)) h' :=
  (hc (fun x h1 => i < ls.length ∧ r kn kb kc kr (lset ls i (.int x)) h1)).trans ⟨fun z => z.2, fun z => ⟨hi, z⟩⟩
theorem sSq_S {a r : PS} {kn kb kc : LV → HV → Prop} {kr : Option Value → HV → Prop} {ls ls' : LV} {h h' : HV} (ha : ∀ kn' : LV → HV → Prop, a kn' kb kc kr ls h ↔ kn' ls' h') : sSq a r kn kb kc kr ls h ↔ r kn kb kc kr ls' h' := ha _
/-- what link does: to the users of i, then to what j follows and needs -/
def lk1 (b : Nat) (P : PC) (i j : Nat) (s : MS) : MS := if pUses P j i then up s (b + 9) i (s.1 (b + 9) i ||| (1 : Int32) <<< (nI j &&& 31)) else s
def lk2 (b : Nat) (c : Bool) (i j : Nat) (s : MS) : MS := if c then up (up s (b + 7) j (s.1 (b + 7) j ||| (1 : Int32) <<< (nI i &&& 31))) (b + 8) j (s.1 (b + 8) j ||| (s.1 (b + 8) i ||| (1 : Int32) <<< (nI i &&& 31))) else s
def noOut : Nat → Bool := fun _ => false
theorem pFol_no (P : PC) (base known i j : Nat) : pFol P base known noOut i j = (pUses P j i || pClash P base known i j || pStop P i j) := by
  unfold pFol noOut pClash pStop
  simp [Bool.or_assoc]
theorem s_Links_link {P : PC} {b : Nat} (hb : pB b) (scr : List Int32) {s : MS} (hP : okP P) (hm : mC P 6 s) {base known w : Nat} (hs : okS base known w) {i j : Nat} (hi : i < P.1) (hj : j < P.1) (Q : Option Value → HV → Prop) : X_Links_link [.ref (b + 6), .int (nI i), .int (nI j), .int (nI base), .int (nI known)] (hp scr s) Q ↔ Q none (hp scr (lk2 b (pFol P base known noOut i j) i j (lk1 b P i j s))) := by
  have h16 := hP.1
  have A := ixf hP.1 hi
  have B := ixf hP.1 hj
  have bf := pbf hb
  have hm1 : mC P 6 (lk1 b P i j s) := by
    unfold lk1
    split
    · exact mC_fr (F := fun r k => r = b + 9) (Fr.rf.up _ rfl) (by omega) (by omega) hm
    · exact hm
  simp [X_Links_link, B_Links_link, lini, lx, Value.category]
  rw [sSq_I (v := b2i (pUses P j i)) (h' := hp scr s) ?h1 (by simp)]
  case h1 =>
    intro K
    simp [eV, eI, eL, eR, e1, e2, eDI, eDL, eFI, eFL, eFR, eAI, eAZ, eAR, eLen, aN, aC, xV, xS, eX, eIf, eC_b, cA, cO, cN, sSk, sSq, sI, sL, sR, sInc, sF, sFO, sAI, sAZ, sAO, sX, sXp, sIf, sCut, sSqs, sSw, sRt, sRz_g, is01_b, is01_0, is01_1, sRv, sBk, sCt, sCp, lset, lclr, lcut, lini, lx, Value.category, ixOf, b2i_0, b2i_1, T_Pack hb, T_Code c6, G6, A, B, s_Code_operands c6 scr hP hm hj, t_holds scr s _ (show i < 32 by omega), uM_bit hP hj (show i < 32 by omega), nb]
  rw [sSq_S (ls' := lset [.ref (b + 6), .int (nI i), .int (nI j), .int (nI base), .int (nI known), .null] 5 (.int (b2i (pUses P j i)))) (h' := hp scr (lk1 b P i j s)) ?h2]
  case h2 =>
    intro kn
    unfold lk1
    simp [eV, eI, eL, eR, e1, e2, eDI, eDL, eFI, eFL, eFR, eAI, eAZ, eAR, eLen, aN, aC, xV, xS, eX, eIf, eC_b, cA, cO, cN, sSk, sSq, sI, sL, sR, sInc, sF, sFO, sAI, sAZ, sAO, sX, sXp, sIf, sCut, sSqs, sSw, sRt, sRz_g, is01_b, is01_0, is01_1, sRv, sBk, sCt, sCp, lset, lclr, lcut, lini, lx, Value.category, ixOf, b2i_0, b2i_1, T_Pack hb, G_Pack hb, A, B, bf]
    split <;> simp
  generalize lk1 b P i j s = s1 at hm1 ⊢
  rw [sSq_S (ls' := lset [.ref (b + 6), .int (nI i), .int (nI j), .int (nI base), .int (nI known), .null] 5 (.int (b2i (pUses P j i)))) (h' := hp scr (lk2 b (pFol P base known noOut i j) i j s1)) ?h3]
  case h3 =>
    intro kn
    rw [sIf_if (t := pFol P base known noOut i j) ?h4]
    case h4 =>
      intro K
      rw [pFol_no]
      simp [eV, eI, eL, eR, e1, e2, eDI, eDL, eFI, eFL, eFR, eAI, eAZ, eAR, eLen, aN, aC, xV, xS, eX, eIf, eC_b, cA, cO, cN, sSk, sSq, sI, sL, sR, sInc, sF, sFO, sAI, sAZ, sAO, sX, sXp, sIf, sCut, sSqs, sSw, sRt, sRz_g, is01_b, is01_0, is01_1, sRv, sBk, sCt, sCp, lset, lclr, lcut, lini, lx, Value.category, ixOf, b2i_0, b2i_1, T_Pack hb, s_Links_clashInMemory hb scr hP hm1 hs hi hj, s_Links_clashByStop hb scr hP hm1 hi hj, nb]
      cases pUses P j i <;> cases pClash P base known i j <;> cases pStop P i j <;> simp
    unfold lk2
    cases pFol P base known noOut i j
    · simp [eV, eI, eL, eR, e1, e2, eDI, eDL, eFI, eFL, eFR, eAI, eAZ, eAR, eLen, aN, aC, xV, xS, eX, eIf, eC_b, cA, cO, cN, sSk, sSq, sI, sL, sR, sInc, sF, sFO, sAI, sAZ, sAO, sX, sXp, sIf, sCut, sSqs, sSw, sRt, sRz_g, is01_b, is01_0, is01_1, sRv, sBk, sCt, sCp, lset, lclr, lcut, lini, lx, Value.category, ixOf, b2i_0, b2i_1]
    · simp [eV, eI, eL, eR, e1, e2, eDI, eDL, eFI, eFL, eFR, eAI, eAZ, eAR, eLen, aN, aC, xV, xS, eX, eIf, eC_b, cA, cO, cN, sSk, sSq, sI, sL, sR, sInc, sF, sFO, sAI, sAZ, sAO, sX, sXp, sIf, sCut, sSqs, sSw, sRt, sRz_g, is01_b, is01_0, is01_1, sRv, sBk, sCt, sCp, lset, lclr, lcut, lini, lx, Value.category, ixOf, b2i_0, b2i_1, T_Pack hb, G_Pack hb, A, B, bf, up_get]
  exact Iff.rfl
