/-- the set of the operands of an instruction -/
def uM (P : PC) (i : Nat) : Int32 := if pK P i < 2 then 0 else if pK P i = 6 then nI (2 ^ pc P i) else nI (2 ^ pa P i) ||| nI (2 ^ pb P i)
theorem bt_pow {m k : Nat} (hk : k < 32) : bt (nI (2 ^ m)) k = decide (m = k) := by
  rw [bt_nI, Nat.testBit_two_pow]
  simp [hk]
theorem uM_bit {P : PC} (hP : okP P) {i k : Nat} (hi : i < P.1) (hk : k < 32) : bt (uM P i) k = pUses P i k := by
  have h := (hP.2 i hi).1
  unfold uM pUses pBin
  split
  · rw [b_0]; simp; omega
  · split
    · next h6 => rw [bt_pow hk]; simp [h6]
    · rw [b_or, bt_pow hk, bt_pow hk]
      have : 2 ≤ pK P i ∧ pK P i ≤ 5 := by omega
      simp [this]; omega
theorem s_Code_operands {P : PC} {c : Nat} (hc : c = 6 ∨ c = 13) (scr : List Int32) {s : MS} (hP : okP P) (hm : mC P c s) {i : Nat} (hi : i < P.1) (Q : Option Value → HV → Prop) : X_Code_operands [.ref c, .int (nI i)] (hp scr s) Q ↔ Q (some (.int (uM P i))) (hp scr s) := by
  have h3 := hP.2 i hi
  have h16 := hP.1
  unfold okI at h3
  simp [X_Code_operands, B_Code_operands, eV, eI, eL, eR, e1, e2, eDI, eDL, eFI, eFL, eFR, eAI, eAZ, eAR, eLen, aN, aC, xV, xS, eX, eIf, eC_b, cA, cO, cN, sSk, sSq, sI, sL, sR, sInc, sF, sFO, sAI, sAZ, sAO, sX, sXp, sIf, sCut, sSqs, sSw, sRt, sRz_g, is01_b, is01_0, is01_1, sRv, sBk, sCt, sCp, lset, lclr, lcut, lini, lx, Value.category, ixOf, b2i_0, b2i_1, T_Code hc, ccf hc, G_Code hc, ixf hP.1 hi, hm.2 i hi]
  simp (disch := omega) only [LIT, L_0le, L_0lt, L_0eq, L_eq0, L_le0, L_lt0, L_1eq, L_eq1, L_1le, L_1lt, L_lt1, L_le1, L_p1, nI_ltI, nI_leI, nI_eq, nI_add, nI_clamp]
  unfold uM
  by_cases h0 : pK P i = 0
  · simp [h0, eV, eI, eL, eR, e1, e2, eDI, eDL, eFI, eFL, eFR, eAI, eAZ, eAR, eLen, aN, aC, xV, xS, eX, eIf, eC_b, cA, cO, cN, sSk, sSq, sI, sL, sR, sInc, sF, sFO, sAI, sAZ, sAO, sX, sXp, sIf, sCut, sSqs, sSw, sRt, sRz_g, is01_b, is01_0, is01_1, sRv, sBk, sCt, sCp, lset, lclr, lcut, lini, lx, Value.category, ixOf, b2i_0, b2i_1]
  by_cases h1 : pK P i = 1
  · simp [h1, eV, eI, eL, eR, e1, e2, eDI, eDL, eFI, eFL, eFR, eAI, eAZ, eAR, eLen, aN, aC, xV, xS, eX, eIf, eC_b, cA, cO, cN, sSk, sSq, sI, sL, sR, sInc, sF, sFO, sAI, sAZ, sAO, sX, sXp, sIf, sCut, sSqs, sSw, sRt, sRz_g, is01_b, is01_0, is01_1, sRv, sBk, sCt, sCp, lset, lclr, lcut, lini, lx, Value.category, ixOf, b2i_0, b2i_1]
  by_cases h6 : pK P i = 6
  · simp [h6, eV, eI, eL, eR, e1, e2, eDI, eDL, eFI, eFL, eFR, eAI, eAZ, eAR, eLen, aN, aC, xV, xS, eX, eIf, eC_b, cA, cO, cN, sSk, sSq, sI, sL, sR, sInc, sF, sFO, sAI, sAZ, sAO, sX, sXp, sIf, sCut, sSqs, sSw, sRt, sRz_g, is01_b, is01_0, is01_1, sRv, sBk, sCt, sCp, lset, lclr, lcut, lini, lx, Value.category, ixOf, b2i_0, b2i_1, T_Code hc, ccf hc, G_Code hc, ixf hP.1 hi, hm.2 i hi]
    rw [bit_nI (by omega)]
  · have hb : 2 ≤ pK P i ∧ pK P i ≤ 5 := by omega
    have hlt : ¬ pK P i < 2 := by omega
    simp [h0, h1, h6, hb, hlt, eV, eI, eL, eR, e1, e2, eDI, eDL, eFI, eFL, eFR, eAI, eAZ, eAR, eLen, aN, aC, xV, xS, eX, eIf, eC_b, cA, cO, cN, sSk, sSq, sI, sL, sR, sInc, sF, sFO, sAI, sAZ, sAO, sX, sXp, sIf, sCut, sSqs, sSw, sRt, sRz_g, is01_b, is01_0, is01_1, sRv, sBk, sCt, sCp, lset, lclr, lcut, lini, lx, Value.category, ixOf, b2i_0, b2i_1, T_Code hc, ccf hc, G_Code hc, ixf hP.1 hi, hm.2 i hi]
    rw [bit_nI (by omega), bit_nI (by omega)]
theorem s_Code_addressOf {P : PC} {c : Nat} (hc : c = 6 ∨ c = 13) (scr : List Int32) {s : MS} (hP : okP P) (hm : mC P c s) {i base : Nat} (hi : i < P.1) (hme : pMem P i = true) (hb : base ≤ 8) (Q : Option Value → HV → Prop) : X_Code_addressOf [.ref c, .int (nI i), .int (nI base)] (hp scr s) Q ↔ Q (some (.int (nI (pAddr P base i)))) (hp scr s) := by
  have h3 := hP.2 i hi
  unfold okI at h3
  have hme2 : pK P i = 0 ∨ pK P i = 6 := by simpa [pMem] using hme
  have ha : pa P i < 2 ∧ pb P i < 8 := by rcases hme2 with h | h <;> simp_all
  simp [X_Code_addressOf, B_Code_addressOf, eV, eI, eL, eR, e1, e2, eDI, eDL, eFI, eFL, eFR, eAI, eAZ, eAR, eLen, aN, aC, xV, xS, eX, eIf, eC_b, cA, cO, cN, sSk, sSq, sI, sL, sR, sInc, sF, sFO, sAI, sAZ, sAO, sX, sXp, sIf, sCut, sSqs, sSw, sRt, sRz_g, is01_b, is01_0, is01_1, sRv, sBk, sCt, sCp, lset, lclr, lcut, lini, lx, Value.category, ixOf, b2i_0, b2i_1, T_Code hc, ccf hc, G_Code hc, ixf hP.1 hi, hm.2 i hi, hme2]
  simp (disch := omega) only [LIT, L_0le, L_0lt, L_0eq, L_eq0, L_le0, L_lt0, L_1eq, L_eq1, L_1le, L_1lt, L_lt1, L_le1, L_p1, nI_ltI, nI_leI, nI_eq, nI_add, nI_clamp]
  unfold pAddr
  split
  · rw [nI_15, Nat.mod_eq_of_lt (by omega)]
  · rw [nI_15, Nat.mod_eq_of_lt (by omega)]
theorem s_R_isMemory {P : PC} (scr : List Int32) {s : MS} (hP : okP P) (hm : mR P s) {i : Nat} (hi : i < P.1) (Q : Option Value → HV → Prop) : X_R_isMemory [.ref 65, .int (nI i)] (hp scr s) Q ↔ Q (some (.int (b2i (pMem P i)))) (hp scr s) := by
  have h3 := (hP.2 i hi).1
  simp [X_R_isMemory, B_R_isMemory, eV, eI, eL, eR, e1, e2, eDI, eDL, eFI, eFL, eFR, eAI, eAZ, eAR, eLen, aN, aC, xV, xS, eX, eIf, eC_b, cA, cO, cN, sSk, sSq, sI, sL, sR, sInc, sF, sFO, sAI, sAZ, sAO, sX, sXp, sIf, sCut, sSqs, sSw, sRt, sRz_g, is01_b, is01_0, is01_1, sRv, sBk, sCt, sCp, lset, lclr, lcut, lini, lx, Value.category, ixOf, b2i_0, b2i_1, T_R, G_R, ixf hP.1 hi, hm.2 i hi]
  simp (disch := omega) only [LIT, L_0le, L_0lt, L_0eq, L_eq0, L_le0, L_lt0, L_1eq, L_eq1, L_1le, L_1lt, L_lt1, L_le1, L_p1, nI_ltI, nI_leI, nI_eq, nI_add, nI_clamp]
  unfold pMem
  grind
theorem s_R_in (scr : List Int32) (s : MS) (v a b : Int64) (Q : Option Value → HV → Prop) : X_R_in [.long v, .long a, .long b] (hp scr s) Q ↔ Q (some (.int (b2i (decide (a ≤ v) && decide (v ≤ b))))) (hp scr s) := by
  simp [X_R_in, B_R_in, eV, eI, eL, eR, e1, e2, eDI, eDL, eFI, eFL, eFR, eAI, eAZ, eAR, eLen, aN, aC, xV, xS, eX, eIf, eC_b, cA, cO, cN, sSk, sSq, sI, sL, sR, sInc, sF, sFO, sAI, sAZ, sAO, sX, sXp, sIf, sCut, sSqs, sSw, sRt, sRz_g, is01_b, is01_0, is01_1, sRv, sBk, sCt, sCp, lset, lclr, lcut, lini, lx, Value.category, ixOf, b2i_0, b2i_1]
  by_cases h : a ≤ v <;> simp [h]
theorem s_R_isBinary {P : PC} (scr : List Int32) {s : MS} (hP : okP P) (hm : mR P s) {i : Nat} (hi : i < P.1) (Q : Option Value → HV → Prop) : X_R_isBinary [.ref 65, .int (nI i)] (hp scr s) Q ↔ Q (some (.int (b2i (pBin P i)))) (hp scr s) := by
  have h3 := (hP.2 i hi).1
  simp [X_R_isBinary, B_R_isBinary, eV, eI, eL, eR, e1, e2, eDI, eDL, eFI, eFL, eFR, eAI, eAZ, eAR, eLen, aN, aC, xV, xS, eX, eIf, eC_b, cA, cO, cN, sSk, sSq, sI, sL, sR, sInc, sF, sFO, sAI, sAZ, sAO, sX, sXp, sIf, sCut, sSqs, sSw, sRt, sRz_g, is01_b, is01_0, is01_1, sRv, sBk, sCt, sCp, lset, lclr, lcut, lini, lx, Value.category, ixOf, b2i_0, b2i_1, T_R, G_R, ixf hP.1 hi, hm.2 i hi, s_R_in]
  simp (disch := omega) only [LITL, nI_l, lN_le, lN_lt, lN_eq]
  unfold pBin
  simp
theorem s_R_addressOf (scr : List Int32) {s : MS} {r : Nat} (hr : r = 71 ∨ r = 72) {a b base : Nat} (ha : a < 2) (hb : s.1 r 16 = nI base) (Q : Option Value → HV → Prop) : X_R_addressOf [.ref r, .int (nI a), .int (nI b)] (hp scr s) Q ↔ Q (some (.int (nI (if a = 0 then b else base + b)))) (hp scr s) := by
  have h2 : hk (hp scr s) r = some 20 ∧ hg (hp scr s) r 16 = some (.int (nI base)) ∧ r ≠ 1 := by
    rcases hr with rfl | rfl <;> simp [G_R, hb]
  simp [X_R_addressOf, B_R_addressOf, eV, eI, eL, eR, e1, e2, eDI, eDL, eFI, eFL, eFR, eAI, eAZ, eAR, eLen, aN, aC, xV, xS, eX, eIf, eC_b, cA, cO, cN, sSk, sSq, sI, sL, sR, sInc, sF, sFO, sAI, sAZ, sAO, sX, sXp, sIf, sCut, sSqs, sSw, sRt, sRz_g, is01_b, is01_0, is01_1, sRv, sBk, sCt, sCp, lset, lclr, lcut, lini, lx, Value.category, ixOf, b2i_0, b2i_1, h2, show (16 : Int32).toNatClampNeg = 16 from rfl]
  simp (disch := omega) only [LIT, L_0le, L_0lt, L_0eq, L_eq0, L_le0, L_lt0, L_1eq, L_eq1, L_1le, L_1lt, L_lt1, L_le1, L_p1, nI_ltI, nI_leI, nI_eq, nI_add, nI_clamp]
  split <;> rfl
theorem s_R_uses {P : PC} (scr : List Int32) {s : MS} (hP : okP P) (hm : mR P s) {i j : Nat} (hi : i < P.1) (hj : j < P.1) (Q : Option Value → HV → Prop) : X_R_uses [.ref 65, .int (nI j), .int (nI i)] (hp scr s) Q ↔ Q (some (.int (b2i (pUses P j i)))) (hp scr s) := by
  have h3 := hP.2 j hj
  unfold okI at h3
  have h16 := hP.1
  have hmj := hm.2 j hj
  simp [X_R_uses, B_R_uses, eV, eI, eL, eR, e1, e2, eDI, eDL, eFI, eFL, eFR, eAI, eAZ, eAR, eLen, aN, aC, xV, xS, eX, eIf, eC_b, cA, cO, cN, sSk, sSq, sI, sL, sR, sInc, sF, sFO, sAI, sAZ, sAO, sX, sXp, sIf, sCut, sSqs, sSw, sRt, sRz_g, is01_b, is01_0, is01_1, sRv, sBk, sCt, sCp, lset, lclr, lcut, lini, lx, Value.category, ixOf, b2i_0, b2i_1, T_R, G_R, ixf hP.1 hi, ixf hP.1 hj, hmj, s_R_isBinary scr hP hm hj]
  unfold pUses
  unfold pBin
  by_cases hb : 2 ≤ pK P j ∧ pK P j ≤ 5
  · have h1 : pK P j ≠ 1 := by omega
    have h6 : pK P j ≠ 6 := by omega
    simp [hb, hmj.2.2.1 h1, h6]
    simp (disch := omega) only [LIT, L_0le, L_0lt, L_0eq, L_eq0, L_le0, L_lt0, L_1eq, L_eq1, L_1le, L_1lt, L_lt1, L_le1, L_p1, nI_ltI, nI_leI, nI_eq, nI_add, nI_clamp]
    simp [h6]
    grind
  · have hb2 : ¬ (2 ≤ pK P j ∧ pK P j ≤ 5) := hb
    by_cases h6 : pK P j = 6
    · simp [h6, hmj.2.2.2 h6]
      simp (disch := omega) only [LIT, L_0le, L_0lt, L_0eq, L_eq0, L_le0, L_lt0, L_1eq, L_eq1, L_1le, L_1lt, L_lt1, L_le1, L_p1, nI_ltI, nI_leI, nI_eq, nI_add, nI_clamp]
      simp
    · have hb3 : (decide (2 ≤ pK P j) && decide (pK P j ≤ 5)) = false := by simp; omega
      simp [hb3, h6]
      intro h9
      rw [show (6 : Int32) = nI 6 from rfl, nI_eq (by omega) (by omega)] at h9
      exact absurd h9 h6
/-- the settings of a row of numbers -/
def mRow (r : Nat) (s : MS) (base known w : Nat) : Prop := s.1 r 16 = nI base ∧ s.1 r 17 = nI known ∧ s.1 r 18 = nI w
def okS (base known w : Nat) : Prop := base ≤ 8 ∧ known ≤ 1 ∧ (w = 2 ∨ w = 4)
theorem rowf {r : Nat} (hr : r = 71 ∨ r = 72) (scr : List Int32) (s : MS) : r ≠ 1 ∧ hk (hp scr s) r = some 20 ∧ ∀ k, k < 19 → hg (hp scr s) r k = some (.int (s.1 r k)) := by
  rcases hr with rfl | rfl <;> simp +contextual [G_R]
theorem memf {P : PC} {i : Nat} (hP : okP P) (hi : i < P.1) (h : pMem P i = true) : pK P i ≠ 1 ∧ pa P i < 2 ∧ pb P i < 8 := by
  have h3 := hP.2 i hi
  unfold okI at h3
  have h2 : pK P i = 0 ∨ pK P i = 6 := by simpa [pMem] using h
  rcases h2 with h2 | h2
  · have := h3.2.1 h2; omega
  · have := h3.2.2.2.2 h2; omega
theorem s_R_meet {P : PC} (scr : List Int32) {s : MS} (hP : okP P) (hm : mR P s) {r : Nat} (hr : r = 71 ∨ r = 72) {base known w : Nat} (hw : mRow r s base known w) (hs : okS base known w) {i j : Nat} (hi : i < P.1) (hj : j < P.1) (hmi : pMem P i = true) (hmj : pMem P j = true) (Q : Option Value → HV → Prop) : X_R_meet [.ref 65, .ref r, .int (nI i), .int (nI j)] (hp scr s) Q ↔ Q (some (.int (b2i (pMeet P base known i j)))) (hp scr s) := by
  obtain ⟨w1, w2, w3⟩ := hw
  obtain ⟨i1, i2, i3⟩ := memf hP hi hmi
  obtain ⟨j1, j2, j3⟩ := memf hP hj hmj
  have g1 := hm.2 i hi
  have g2 := hm.2 j hj
  have b8 := hs.1
  have k1 := hs.2.1
  simp [X_R_meet, B_R_meet, eV, eI, eL, eR, e1, e2, eDI, eDL, eFI, eFL, eFR, eAI, eAZ, eAR, eLen, aN, aC, xV, xS, eX, eIf, eC_b, cA, cO, cN, sSk, sSq, sI, sL, sR, sInc, sF, sFO, sAI, sAZ, sAO, sX, sXp, sIf, sCut, sSqs, sSw, sRt, sRz_g, is01_b, is01_0, is01_1, sRv, sBk, sCt, sCp, lset, lclr, lcut, lini, lx, Value.category, ixOf, b2i_0, b2i_1, T_R, G_R, ixf hP.1 hi, ixf hP.1 hj, g1, g2, i1, j1, rowf hr scr s, show (17 : Int32).toNatClampNeg = 17 from rfl, w2, s_R_addressOf scr hr i2 w1, s_R_addressOf scr hr j2 w1]
  simp (disch := omega) only [LIT, L_0le, L_0lt, L_0eq, L_eq0, L_le0, L_lt0, L_1eq, L_eq1, L_1le, L_1lt, L_lt1, L_le1, L_p1, nI_ltI, nI_leI, nI_eq, nI_add, nI_clamp]
  unfold pMeet
  by_cases h : pa P i = pa P j
  · simp [h]
    try simp (disch := omega) only [LIT, L_0le, L_0lt, L_0eq, L_eq0, L_le0, L_lt0, L_1eq, L_eq1, L_1le, L_1lt, L_lt1, L_le1, L_p1, nI_ltI, nI_leI, nI_eq, nI_add, nI_clamp]
  · simp [h]
    have x1 : (if pa P i = 0 then pb P i else base + pb P i) < 2 ^ 31 := by split <;> omega
    have x2 : (if pa P j = 0 then pb P j else base + pb P j) < 2 ^ 31 := by split <;> omega
    try simp (disch := first | omega | assumption) only [LIT, L_0le, L_0lt, L_0eq, L_eq0, L_le0, L_lt0, L_1eq, L_eq1, L_1le, L_1lt, L_lt1, L_le1, L_p1, nI_ltI, nI_leI, nI_eq, nI_add, nI_clamp]
    unfold pAddr
    by_cases hk : known = 0 <;> simp [hk]
theorem nb (t : Bool) : (!decide (b2i t = 0)) = t := by cases t <;> simp [b2i]
/-- step by step, where a condition comes to a value without a change -/
theorem sSq_if {c : PX Bool} {a b r : PS} {kn kb kc : LV → HV → Prop} {kr : Option Value → HV → Prop} {ls : LV} {h : HV} {t : Bool} (hc : ∀ K : Bool → HV → Prop, c ls h K ↔ K t h) : sSq (sIf c a b) r kn kb kc kr ls h ↔ if t then a (fun ls1 h1 => r kn kb kc kr ls1 h1) kb kc kr ls h else b (fun ls1 h1 => r kn kb kc kr ls1 h1) kb kc kr ls h := hc _
theorem sIf_if {c : PX Bool} {a b : PS} {kn kb kc : LV → HV → Prop} {kr : Option Value → HV → Prop} {ls : LV} {h : HV} {t : Bool} (hc : ∀ K : Bool → HV → Prop, c ls h K ↔ K t h) : sIf c a b kn kb kc kr ls h ↔ if t then a kn kb kc kr ls h else b kn kb kc kr ls h := hc _
theorem sSq_C {i : Nat} {c : PX Bool} {r : PS} {kn kb kc : LV → HV → Prop} {kr : Option Value → HV → Prop} {ls : LV} {h : HV} {t : Bool} (hc : ∀ K : Bool → HV → Prop, c ls h K ↔ K t h) (hi : i < ls.length) : sSq (sI i (eC c)) r kn kb kc kr ls h ↔ r kn kb kc kr (lset ls i (.int (b2i t))) h := by
  have e := hc (fun t h1 => i < ls.length ∧ r kn kb kc kr (lset ls i (.int (if t then 1 else 0))) h1)
  exact e.trans ⟨fun z => z.2, fun z => ⟨hi, z⟩⟩
theorem sRz_C {c : PX Bool} {kn kb kc : LV → HV → Prop} {kr : Option Value → HV → Prop} {ls : LV} {h : HV} {t : Bool} (hc : ∀ K : Bool → HV → Prop, c ls h K ↔ K t h) : sRz (eC c) kn kb kc kr ls h ↔ kr (some (.int (b2i t))) h := by
  have e := hc (fun t h1 => ((if t then (1 : Int32) else 0) = 0 ∨ (if t then (1 : Int32) else 0) = 1) ∧ kr (some (.int (if t then 1 else 0))) h1)
  exact e.trans ⟨fun z => z.2, fun z => ⟨by cases t <;> simp, z⟩⟩
theorem s_R_doesFollow {P : PC} (scr : List Int32) {s : MS} (hP : okP P) (hm : mR P s) {r : Nat} (hr : r = 71 ∨ r = 72) {base known w : Nat} (hw : mRow r s base known w) (hs : okS base known w) {out : Nat → Bool} (ho : ∀ k, k < 16 → bt (s.1 65 18) k = out k) {i j : Nat} (hi : i < P.1) (hj : j < P.1) (Q : Option Value → HV → Prop) : X_R_doesFollow [.ref 65, .ref r, .int (nI j), .int (nI i)] (hp scr s) Q ↔ Q (some (.int (b2i (pFol P base known out i j)))) (hp scr s) := by
  have g1 := hm.2 i hi
  have g2 := hm.2 j hj
  have ki := (hP.2 i hi).1
  have kj := (hP.2 j hj).1
  have h16 := hP.1
  have A := ixf hP.1 hi
  have B := ixf hP.1 hj
  have O1 := fun Q => t_has scr s (s.1 65 18) (show i < 32 by omega) Q
  have O2 := fun Q => t_has scr s (s.1 65 18) (show j < 32 by omega) Q
  rw [ho i (by omega)] at O1
  rw [ho j (by omega)] at O2
  simp [X_R_doesFollow, B_R_doesFollow, lini, lx, Value.category]
  rw [sSq_if (t := out i || out j) ?h1]
  case h1 =>
    intro K
    simp [eV, eI, eL, eR, e1, e2, eDI, eDL, eFI, eFL, eFR, eAI, eAZ, eAR, eLen, aN, aC, xV, xS, eX, eIf, eC_b, cA, cO, cN, sSk, sSq, sI, sL, sR, sInc, sF, sFO, sAI, sAZ, sAO, sX, sXp, sIf, sCut, sSqs, sSw, sRt, sRz_g, is01_b, is01_0, is01_1, sRv, sBk, sCt, sCp, lset, lclr, lcut, lini, lx, Value.category, ixOf, b2i_0, b2i_1, T_R, O1, O2]
    cases out i <;> cases out j <;> simp
  by_cases hout : (out i || out j) = true
  · have hf : pFol P base known out i j = false := by
      unfold pFol
      cases h1 : out i <;> cases h2 : out j <;> simp_all
    rw [if_pos hout, hf]
    exact ⟨fun z => z.2, fun z => ⟨Or.inl rfl, z⟩⟩
  rw [if_neg hout]
  show (sSq _ _) _ _ _ _ _ _ ↔ _
  rw [sSq_C (t := pMem P i && pMem P j && (decide (pK P i = 6) || decide (pK P j = 6)) && pMeet P base known i j) ?h2 (by simp)]
  case h2 =>
    intro K
    simp [eV, eI, eL, eR, e1, e2, eDI, eDL, eFI, eFL, eFR, eAI, eAZ, eAR, eLen, aN, aC, xV, xS, eX, eIf, eC_b, cA, cO, cN, sSk, sSq, sI, sL, sR, sInc, sF, sFO, sAI, sAZ, sAO, sX, sXp, sIf, sCut, sSqs, sSw, sRt, sRz_g, is01_b, is01_0, is01_1, sRv, sBk, sCt, sCp, lset, lclr, lcut, lini, lx, Value.category, ixOf, b2i_0, b2i_1, T_R, G_R, A, B, g1, g2, s_R_isMemory scr hP hm hi, s_R_isMemory scr hP hm hj]
    by_cases m1 : pMem P i = true
    · by_cases m2 : pMem P j = true
      · simp [m1, m2, s_R_meet scr hP hm hr hw hs hi hj m1 m2, nb]
        simp (disch := omega) only [LIT, L_0le, L_0lt, L_0eq, L_eq0, L_le0, L_lt0, L_1eq, L_eq1, L_1le, L_1lt, L_lt1, L_le1, L_p1, nI_ltI, nI_leI, nI_eq, nI_add, nI_clamp]
        by_cases k1 : pK P i = 6 <;> by_cases k2 : pK P j = 6 <;> simp [k1, k2]
      · simp [m1, m2]
    · simp [m1]
  rw [sSq_C (t := decide (pK P i = 5) && (decide (pK P j = 5) || decide (pK P j = 6))) ?h3 (by simp [lset])]
  case h3 =>
    intro K
    simp [eV, eI, eL, eR, e1, e2, eDI, eDL, eFI, eFL, eFR, eAI, eAZ, eAR, eLen, aN, aC, xV, xS, eX, eIf, eC_b, cA, cO, cN, sSk, sSq, sI, sL, sR, sInc, sF, sFO, sAI, sAZ, sAO, sX, sXp, sIf, sCut, sSqs, sSw, sRt, sRz_g, is01_b, is01_0, is01_1, sRv, sBk, sCt, sCp, lset, lclr, lcut, lini, lx, Value.category, ixOf, b2i_0, b2i_1, T_R, G_R, A, B, g1, g2]
    simp (disch := omega) only [LIT, L_0le, L_0lt, L_0eq, L_eq0, L_le0, L_lt0, L_1eq, L_eq1, L_1le, L_1lt, L_lt1, L_le1, L_p1, nI_ltI, nI_leI, nI_eq, nI_add, nI_clamp]
    by_cases k1 : pK P i = 5 <;> by_cases k2 : pK P j = 5 <;> simp [k1, k2]
  rw [sSq_C (t := decide (pK P j = 5) && (decide (pK P i = 5) || decide (pK P i = 6))) ?h4 (by simp [lset])]
  case h4 =>
    intro K
    simp [eV, eI, eL, eR, e1, e2, eDI, eDL, eFI, eFL, eFR, eAI, eAZ, eAR, eLen, aN, aC, xV, xS, eX, eIf, eC_b, cA, cO, cN, sSk, sSq, sI, sL, sR, sInc, sF, sFO, sAI, sAZ, sAO, sX, sXp, sIf, sCut, sSqs, sSw, sRt, sRz_g, is01_b, is01_0, is01_1, sRv, sBk, sCt, sCp, lset, lclr, lcut, lini, lx, Value.category, ixOf, b2i_0, b2i_1, T_R, G_R, A, B, g1, g2]
    simp (disch := omega) only [LIT, L_0le, L_0lt, L_0eq, L_eq0, L_le0, L_lt0, L_1eq, L_eq1, L_1le, L_1lt, L_lt1, L_le1, L_p1, nI_ltI, nI_leI, nI_eq, nI_add, nI_clamp]
    by_cases k1 : pK P i = 5 <;> by_cases k2 : pK P j = 5 <;> simp [k1, k2]
  have hf : pFol P base known out i j = (pUses P j i || (pMem P i && pMem P j && (decide (pK P i = 6) || decide (pK P j = 6)) && pMeet P base known i j) || (decide (pK P i = 5) && (decide (pK P j = 5) || decide (pK P j = 6))) || (decide (pK P j = 5) && (decide (pK P i = 5) || decide (pK P i = 6)))) := by
    have h1 : out i = false := by cases h : out i <;> simp_all
    have h2 : out j = false := by cases h : out j <;> simp_all
    unfold pFol
    rw [h1, h2]
    simp
  rw [hf]
  generalize (pMem P i && pMem P j && (decide (pK P i = 6) || decide (pK P j = 6)) && pMeet P base known i j) = t1
  generalize (decide (pK P i = 5) && (decide (pK P j = 5) || decide (pK P j = 6))) = t2
  generalize (decide (pK P j = 5) && (decide (pK P i = 5) || decide (pK P i = 6))) = t3
  rw [sRz_C (t := pUses P j i || t1 || t2 || t3) ?h5]
  case h5 =>
    intro K
    simp [eV, eI, eL, eR, e1, e2, eDI, eDL, eFI, eFL, eFR, eAI, eAZ, eAR, eLen, aN, aC, xV, xS, eX, eIf, eC_b, cA, cO, cN, sSk, sSq, sI, sL, sR, sInc, sF, sFO, sAI, sAZ, sAO, sX, sXp, sIf, sCut, sSqs, sSw, sRt, sRz_g, is01_b, is01_0, is01_1, sRv, sBk, sCt, sCp, lset, lclr, lcut, lini, lx, Value.category, ixOf, b2i_0, b2i_1, T_R, G_R, A, B, g1, g2, s_R_uses scr hP hm hi hj, nb]
    cases pUses P j i <;> cases t1 <;> cases t2 <;> cases t3 <;> simp
