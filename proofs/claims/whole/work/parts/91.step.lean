/-! the law's loop: one step for every call -/
def J (A : AS) (s : MS) : Prop := okA A ∧ IC A s ∧ IR A s ∧ s.2 2 = aX A ∧ s.2 65 = aX A
theorem J_m {A A' : AS} {s s1 s2 : MS} (hJ : J A s) (f1 : Fr Fc s s1) (g1 : IC A' s1) (f2 : Fr Ft s1 s2) (g2 : IR A' s2) (ok : okA A') (ex : aX A' = aX A) : J A' s2 := ⟨ok, IC_fr f2 (by omega) g1, g2, by rw [f2.1, f1.1, ex]; exact hJ.2.2.2.1, by rw [f2.1, f1.1, ex]; exact hJ.2.2.2.2⟩
theorem J_r {A : AS} {s s1 : MS} (hJ : J A s) (f1 : Fr Fc s s1) : IR A s1 := IR_fr f1 (by omega) hJ.2.2.1
/-- the words of the script at the place i -/
def At (scr : List Int32) (i : Nat) (x1 x2 x3 : Int32) : Prop := i < 4000 ∧ scr[i + 1]? = some x1 ∧ scr[i + 2]? = some x2 ∧ scr[i + 3]? = some x3
theorem At_p {scr : List Int32} {i : Nat} {x1 x2 x3 : Int32} (h : At scr i x1 x2 x3) : (0 ≤ nI i + 1 ∧ 0 ≤ nI i + 2 ∧ 0 ≤ nI i + 3) ∧ (nI i + 1).toNatClampNeg = i + 1 ∧ (nI i + 2).toNatClampNeg = i + 2 ∧ (nI i + 3).toNatClampNeg = i + 3 := by
  have q := h.1
  rw [show (1 : Int32) = nI 1 from rfl, show (2 : Int32) = nI 2 from rfl, show (3 : Int32) = nI 3 from rfl, nI_add, nI_add, nI_add]
  exact ⟨⟨nI_pos' (by omega), nI_pos' (by omega), nI_pos' (by omega)⟩, nI_clamp (by omega), nI_clamp (by omega), nI_clamp (by omega)⟩
abbrev lw (i : Nat) : LV := [.ref 1, .ref 2, .ref 65, .int (nI i)]
theorem ok_wX {A : AS} (hA : okA A) (x : Int64) : okA (wX A x) := hA
theorem ok_drawn {A : AS} (hA : okA A) (m : Int32) : okA (f_drawn A m).2 := by
  unfold f_drawn
  split
  · exact ok_wX hA _
  · exact hA
theorem IC_wX {A : AS} {s : MS} (x : Int64) (h : IC A s) : IC (wX A x) s := h
theorem IR_wX {A : AS} {s : MS} (x : Int64) (h : IR A s) : IR (wX A x) s := h
def L_c0 (scr : List Int32) : PX Bool := (e2 (fun x y : Int32 => decide (¬ x = y)) (eX .int (xV 9 1 X_PL_write (eR 1) (aC .int (eSA scr (eR 0) (e2 (fun x y : Int32 => x + y) (eI 3) (eV (1 : Int32)))) aN))) (eX .int (xV 10 1 X_R_write (eR 2) (aC .int (eSA scr (eR 0) (e2 (fun x y : Int32 => x + y) (eI 3) (eV (1 : Int32)))) aN))))
theorem l_c0 {scr : List Int32} {i : Nat} {x1 x2 x3 : Int32} (hx : At scr i x1 x2 x3) {A : AS} {s : MS} (hJ : J A s) (K : Bool → HV → Prop) (hK : ∀ A' s', J A' s' → K false (hp scr s')) : L_c0 scr (lw i) (hp scr s) K := by
  obtain ⟨⟨p1, p2, p3⟩, q1, q2, q3⟩ := At_p hx
  obtain ⟨-, w1, w2, w3⟩ := hx
  have hA := hJ.1
  simp [L_c0, eV, eI, eL, eR, e1, e2, eDI, eDL, eFI, eFL, eFR, eAI, eAZ, eAR, eLen, aN, aC, xV, xS, eX, eIf, eC_b, cA, cO, cN, sSk, sSq, sI, sL, sR, sInc, sF, sFO, sAI, sAZ, sAO, sX, sXp, sIf, sCut, sSqs, sSw, sRt, sRz_g, is01_b, is01_0, is01_1, sRv, sBk, sCt, sCp, lset, lclr, lcut, lini, lx, Value.category, ixOf, b2i_0, b2i_1, eSA, T_PL, T_R, p1, p2, p3, q1, q2, q3, w1, w2, w3]
  refine c_write hA scr hJ.2.1 x1 _ fun s1 f1 g1 => ⟨_, rfl, ?_⟩
  simp [eV, eI, eL, eR, e1, e2, eDI, eDL, eFI, eFL, eFR, eAI, eAZ, eAR, eLen, aN, aC, xV, xS, eX, eIf, eC_b, cA, cO, cN, sSk, sSq, sI, sL, sR, sInc, sF, sFO, sAI, sAZ, sAO, sX, sXp, sIf, sCut, sSqs, sSw, sRt, sRz_g, is01_b, is01_0, is01_1, sRv, sBk, sCt, sCp, lset, lclr, lcut, lini, lx, Value.category, ixOf, b2i_0, b2i_1, T_R]
  refine r_write hA scr (J_r hJ f1) x1 _ fun s2 f2 g2 => ⟨_, rfl, ?_⟩
  have ex : aX (f_write A x1).2 = aX A := by unfold f_write; first | rfl | (repeat' split) <;> rfl
  simpa using hK _ s2 (J_m hJ f1 g1 f2 g2 (ok_write hA x1) ex)
def L_c1 (scr : List Int32) : PX Bool := (e2 (fun x y : Int32 => decide (¬ x = y)) (eX .int (xV 9 0 X_PL_wipe (eR 1) aN)) (eX .int (xV 10 0 X_R_wipe (eR 2) aN)))
theorem l_c1 {scr : List Int32} {i : Nat} {x1 x2 x3 : Int32} (hx : At scr i x1 x2 x3) {A : AS} {s : MS} (hJ : J A s) (K : Bool → HV → Prop) (hK : ∀ A' s', J A' s' → K false (hp scr s')) : L_c1 scr (lw i) (hp scr s) K := by
  obtain ⟨⟨p1, p2, p3⟩, q1, q2, q3⟩ := At_p hx
  obtain ⟨-, w1, w2, w3⟩ := hx
  have hA := hJ.1
  simp [L_c1, eV, eI, eL, eR, e1, e2, eDI, eDL, eFI, eFL, eFR, eAI, eAZ, eAR, eLen, aN, aC, xV, xS, eX, eIf, eC_b, cA, cO, cN, sSk, sSq, sI, sL, sR, sInc, sF, sFO, sAI, sAZ, sAO, sX, sXp, sIf, sCut, sSqs, sSw, sRt, sRz_g, is01_b, is01_0, is01_1, sRv, sBk, sCt, sCp, lset, lclr, lcut, lini, lx, Value.category, ixOf, b2i_0, b2i_1, eSA, T_PL, T_R, p1, p2, p3, q1, q2, q3, w1, w2, w3]
  refine c_wipe scr hJ.2.1  _ fun s1 f1 g1 => ⟨_, rfl, ?_⟩
  simp [eV, eI, eL, eR, e1, e2, eDI, eDL, eFI, eFL, eFR, eAI, eAZ, eAR, eLen, aN, aC, xV, xS, eX, eIf, eC_b, cA, cO, cN, sSk, sSq, sI, sL, sR, sInc, sF, sFO, sAI, sAZ, sAO, sX, sXp, sIf, sCut, sSqs, sSw, sRt, sRz_g, is01_b, is01_0, is01_1, sRv, sBk, sCt, sCp, lset, lclr, lcut, lini, lx, Value.category, ixOf, b2i_0, b2i_1, T_R]
  refine r_wipe scr (J_r hJ f1)  _ fun s2 f2 g2 => ⟨_, rfl, ?_⟩
  have ex : aX (f_wipe A ).2 = aX A := by unfold f_wipe; first | rfl | (repeat' split) <;> rfl
  simpa using hK _ s2 (J_m hJ f1 g1 f2 g2 (ok_wipe hA ) ex)
def L_c2 (scr : List Int32) : PX Bool := (e2 (fun x y : Int32 => decide (¬ x = y)) (eX .int (xV 9 0 X_PL_fault (eR 1) aN)) (eX .int (xV 10 0 X_R_fault (eR 2) aN)))
theorem l_c2 {scr : List Int32} {i : Nat} {x1 x2 x3 : Int32} (hx : At scr i x1 x2 x3) {A : AS} {s : MS} (hJ : J A s) (K : Bool → HV → Prop) (hK : ∀ A' s', J A' s' → K false (hp scr s')) : L_c2 scr (lw i) (hp scr s) K := by
  obtain ⟨⟨p1, p2, p3⟩, q1, q2, q3⟩ := At_p hx
  obtain ⟨-, w1, w2, w3⟩ := hx
  have hA := hJ.1
  simp [L_c2, eV, eI, eL, eR, e1, e2, eDI, eDL, eFI, eFL, eFR, eAI, eAZ, eAR, eLen, aN, aC, xV, xS, eX, eIf, eC_b, cA, cO, cN, sSk, sSq, sI, sL, sR, sInc, sF, sFO, sAI, sAZ, sAO, sX, sXp, sIf, sCut, sSqs, sSw, sRt, sRz_g, is01_b, is01_0, is01_1, sRv, sBk, sCt, sCp, lset, lclr, lcut, lini, lx, Value.category, ixOf, b2i_0, b2i_1, eSA, T_PL, T_R, p1, p2, p3, q1, q2, q3, w1, w2, w3]
  refine c_fault hA scr hJ.2.1  _ fun s1 f1 g1 => ⟨_, rfl, ?_⟩
  simp [eV, eI, eL, eR, e1, e2, eDI, eDL, eFI, eFL, eFR, eAI, eAZ, eAR, eLen, aN, aC, xV, xS, eX, eIf, eC_b, cA, cO, cN, sSk, sSq, sI, sL, sR, sInc, sF, sFO, sAI, sAZ, sAO, sX, sXp, sIf, sCut, sSqs, sSw, sRt, sRz_g, is01_b, is01_0, is01_1, sRv, sBk, sCt, sCp, lset, lclr, lcut, lini, lx, Value.category, ixOf, b2i_0, b2i_1, T_R]
  refine r_fault hA scr (J_r hJ f1)  _ fun s2 f2 g2 => ⟨_, rfl, ?_⟩
  simpa using hK A s2 (J_m hJ f1 g1 f2 g2 hA rfl)
def L_c3 (scr : List Int32) : PX Bool := (e2 (fun x y : Int32 => decide (¬ x = y)) (eX .int (xV 9 0 X_PL_block (eR 1) aN)) (eX .int (xV 10 0 X_R_block (eR 2) aN)))
theorem l_c3 {scr : List Int32} {i : Nat} {x1 x2 x3 : Int32} (hx : At scr i x1 x2 x3) {A : AS} {s : MS} (hJ : J A s) (K : Bool → HV → Prop) (hK : ∀ A' s', J A' s' → K false (hp scr s')) : L_c3 scr (lw i) (hp scr s) K := by
  obtain ⟨⟨p1, p2, p3⟩, q1, q2, q3⟩ := At_p hx
  obtain ⟨-, w1, w2, w3⟩ := hx
  have hA := hJ.1
  simp [L_c3, eV, eI, eL, eR, e1, e2, eDI, eDL, eFI, eFL, eFR, eAI, eAZ, eAR, eLen, aN, aC, xV, xS, eX, eIf, eC_b, cA, cO, cN, sSk, sSq, sI, sL, sR, sInc, sF, sFO, sAI, sAZ, sAO, sX, sXp, sIf, sCut, sSqs, sSw, sRt, sRz_g, is01_b, is01_0, is01_1, sRv, sBk, sCt, sCp, lset, lclr, lcut, lini, lx, Value.category, ixOf, b2i_0, b2i_1, eSA, T_PL, T_R, p1, p2, p3, q1, q2, q3, w1, w2, w3]
  refine c_block hA scr hJ.2.1  _ fun s1 f1 g1 => ⟨_, rfl, ?_⟩
  simp [eV, eI, eL, eR, e1, e2, eDI, eDL, eFI, eFL, eFR, eAI, eAZ, eAR, eLen, aN, aC, xV, xS, eX, eIf, eC_b, cA, cO, cN, sSk, sSq, sI, sL, sR, sInc, sF, sFO, sAI, sAZ, sAO, sX, sXp, sIf, sCut, sSqs, sSw, sRt, sRz_g, is01_b, is01_0, is01_1, sRv, sBk, sCt, sCp, lset, lclr, lcut, lini, lx, Value.category, ixOf, b2i_0, b2i_1, T_R]
  refine r_block hA scr (J_r hJ f1)  _ fun s2 f2 g2 => ⟨_, rfl, ?_⟩
  have ex : aX (f_block A ).2 = aX A := by unfold f_block; first | rfl | (repeat' split) <;> rfl
  simpa using hK _ s2 (J_m hJ f1 g1 f2 g2 (ok_block hA ) ex)
def L_c4 (scr : List Int32) : PX Bool := (e2 (fun x y : Int32 => decide (¬ x = y)) (eX .int (xV 9 1 X_PL_about (eR 1) (aC .int (eSA scr (eR 0) (e2 (fun x y : Int32 => x + y) (eI 3) (eV (1 : Int32)))) aN))) (eX .int (xV 10 1 X_R_about (eR 2) (aC .int (eSA scr (eR 0) (e2 (fun x y : Int32 => x + y) (eI 3) (eV (1 : Int32)))) aN))))
theorem l_c4 {scr : List Int32} {i : Nat} {x1 x2 x3 : Int32} (hx : At scr i x1 x2 x3) {A : AS} {s : MS} (hJ : J A s) (K : Bool → HV → Prop) (hK : ∀ A' s', J A' s' → K false (hp scr s')) : L_c4 scr (lw i) (hp scr s) K := by
  obtain ⟨⟨p1, p2, p3⟩, q1, q2, q3⟩ := At_p hx
  obtain ⟨-, w1, w2, w3⟩ := hx
  have hA := hJ.1
  simp [L_c4, eV, eI, eL, eR, e1, e2, eDI, eDL, eFI, eFL, eFR, eAI, eAZ, eAR, eLen, aN, aC, xV, xS, eX, eIf, eC_b, cA, cO, cN, sSk, sSq, sI, sL, sR, sInc, sF, sFO, sAI, sAZ, sAO, sX, sXp, sIf, sCut, sSqs, sSw, sRt, sRz_g, is01_b, is01_0, is01_1, sRv, sBk, sCt, sCp, lset, lclr, lcut, lini, lx, Value.category, ixOf, b2i_0, b2i_1, eSA, T_PL, T_R, p1, p2, p3, q1, q2, q3, w1, w2, w3]
  refine c_about hA scr hJ.2.1 x1 _ fun s1 f1 g1 => ⟨_, rfl, ?_⟩
  simp [eV, eI, eL, eR, e1, e2, eDI, eDL, eFI, eFL, eFR, eAI, eAZ, eAR, eLen, aN, aC, xV, xS, eX, eIf, eC_b, cA, cO, cN, sSk, sSq, sI, sL, sR, sInc, sF, sFO, sAI, sAZ, sAO, sX, sXp, sIf, sCut, sSqs, sSw, sRt, sRz_g, is01_b, is01_0, is01_1, sRv, sBk, sCt, sCp, lset, lclr, lcut, lini, lx, Value.category, ixOf, b2i_0, b2i_1, T_R]
  refine r_about hA scr (J_r hJ f1) x1 _ fun s2 f2 g2 => ⟨_, rfl, ?_⟩
  simpa using hK A s2 (J_m hJ f1 g1 f2 g2 hA rfl)
def L_c5 (scr : List Int32) : PX Bool := (e2 (fun x y : Int32 => decide (¬ x = y)) (eX .int (xV 9 2 X_PL_instruction (eR 1) (aC .int (eSA scr (eR 0) (e2 (fun x y : Int32 => x + y) (eI 3) (eV (1 : Int32)))) (aC .int (eSA scr (eR 0) (e2 (fun x y : Int32 => x + y) (eI 3) (eV (2 : Int32)))) aN)))) (eX .int (xV 10 2 X_R_instruction (eR 2) (aC .int (eSA scr (eR 0) (e2 (fun x y : Int32 => x + y) (eI 3) (eV (1 : Int32)))) (aC .int (eSA scr (eR 0) (e2 (fun x y : Int32 => x + y) (eI 3) (eV (2 : Int32)))) aN)))))
theorem l_c5 {scr : List Int32} {i : Nat} {x1 x2 x3 : Int32} (hx : At scr i x1 x2 x3) {A : AS} {s : MS} (hJ : J A s) (K : Bool → HV → Prop) (hK : ∀ A' s', J A' s' → K false (hp scr s')) : L_c5 scr (lw i) (hp scr s) K := by
  obtain ⟨⟨p1, p2, p3⟩, q1, q2, q3⟩ := At_p hx
  obtain ⟨-, w1, w2, w3⟩ := hx
  have hA := hJ.1
  simp [L_c5, eV, eI, eL, eR, e1, e2, eDI, eDL, eFI, eFL, eFR, eAI, eAZ, eAR, eLen, aN, aC, xV, xS, eX, eIf, eC_b, cA, cO, cN, sSk, sSq, sI, sL, sR, sInc, sF, sFO, sAI, sAZ, sAO, sX, sXp, sIf, sCut, sSqs, sSw, sRt, sRz_g, is01_b, is01_0, is01_1, sRv, sBk, sCt, sCp, lset, lclr, lcut, lini, lx, Value.category, ixOf, b2i_0, b2i_1, eSA, T_PL, T_R, p1, p2, p3, q1, q2, q3, w1, w2, w3]
  refine c_instr hA scr hJ.2.1 x1 x2 _ fun s1 f1 g1 => ⟨_, rfl, ?_⟩
  simp [eV, eI, eL, eR, e1, e2, eDI, eDL, eFI, eFL, eFR, eAI, eAZ, eAR, eLen, aN, aC, xV, xS, eX, eIf, eC_b, cA, cO, cN, sSk, sSq, sI, sL, sR, sInc, sF, sFO, sAI, sAZ, sAO, sX, sXp, sIf, sCut, sSqs, sSw, sRt, sRz_g, is01_b, is01_0, is01_1, sRv, sBk, sCt, sCp, lset, lclr, lcut, lini, lx, Value.category, ixOf, b2i_0, b2i_1, T_R]
  refine r_instr hA scr (J_r hJ f1) x1 x2 _ fun s2 f2 g2 => ⟨_, rfl, ?_⟩
  simpa using hK A s2 (J_m hJ f1 g1 f2 g2 hA rfl)
def L_c6 (scr : List Int32) : PX Bool := (e2 (fun x y : Int32 => decide (¬ x = y)) (eX .int (xV 9 2 X_PL_address (eR 1) (aC .int (eSA scr (eR 0) (e2 (fun x y : Int32 => x + y) (eI 3) (eV (1 : Int32)))) (aC .int (eSA scr (eR 0) (e2 (fun x y : Int32 => x + y) (eI 3) (eV (2 : Int32)))) aN)))) (eX .int (xV 10 2 X_R_address (eR 2) (aC .int (eSA scr (eR 0) (e2 (fun x y : Int32 => x + y) (eI 3) (eV (1 : Int32)))) (aC .int (eSA scr (eR 0) (e2 (fun x y : Int32 => x + y) (eI 3) (eV (2 : Int32)))) aN)))))
theorem l_c6 {scr : List Int32} {i : Nat} {x1 x2 x3 : Int32} (hx : At scr i x1 x2 x3) {A : AS} {s : MS} (hJ : J A s) (K : Bool → HV → Prop) (hK : ∀ A' s', J A' s' → K false (hp scr s')) : L_c6 scr (lw i) (hp scr s) K := by
  obtain ⟨⟨p1, p2, p3⟩, q1, q2, q3⟩ := At_p hx
  obtain ⟨-, w1, w2, w3⟩ := hx
  have hA := hJ.1
  simp [L_c6, eV, eI, eL, eR, e1, e2, eDI, eDL, eFI, eFL, eFR, eAI, eAZ, eAR, eLen, aN, aC, xV, xS, eX, eIf, eC_b, cA, cO, cN, sSk, sSq, sI, sL, sR, sInc, sF, sFO, sAI, sAZ, sAO, sX, sXp, sIf, sCut, sSqs, sSw, sRt, sRz_g, is01_b, is01_0, is01_1, sRv, sBk, sCt, sCp, lset, lclr, lcut, lini, lx, Value.category, ixOf, b2i_0, b2i_1, eSA, T_PL, T_R, p1, p2, p3, q1, q2, q3, w1, w2, w3]
  refine c_addr hA scr hJ.2.1 x1 x2 _ fun s1 f1 g1 => ⟨_, rfl, ?_⟩
  simp [eV, eI, eL, eR, e1, e2, eDI, eDL, eFI, eFL, eFR, eAI, eAZ, eAR, eLen, aN, aC, xV, xS, eX, eIf, eC_b, cA, cO, cN, sSk, sSq, sI, sL, sR, sInc, sF, sFO, sAI, sAZ, sAO, sX, sXp, sIf, sCut, sSqs, sSw, sRt, sRz_g, is01_b, is01_0, is01_1, sRv, sBk, sCt, sCp, lset, lclr, lcut, lini, lx, Value.category, ixOf, b2i_0, b2i_1, T_R]
  refine r_addr hA scr (J_r hJ f1) x1 x2 _ fun s2 f2 g2 => ⟨_, rfl, ?_⟩
  simpa using hK A s2 (J_m hJ f1 g1 f2 g2 hA rfl)
def L_c7 (scr : List Int32) : PX Bool := (e2 (fun x y : Int32 => decide (¬ x = y)) (eX .int (xV 9 2 X_PL_depends (eR 1) (aC .int (eSA scr (eR 0) (e2 (fun x y : Int32 => x + y) (eI 3) (eV (1 : Int32)))) (aC .int (eSA scr (eR 0) (e2 (fun x y : Int32 => x + y) (eI 3) (eV (2 : Int32)))) aN)))) (eX .int (xV 10 2 X_R_depends (eR 2) (aC .int (eSA scr (eR 0) (e2 (fun x y : Int32 => x + y) (eI 3) (eV (1 : Int32)))) (aC .int (eSA scr (eR 0) (e2 (fun x y : Int32 => x + y) (eI 3) (eV (2 : Int32)))) aN)))))
theorem l_c7 {scr : List Int32} {i : Nat} {x1 x2 x3 : Int32} (hx : At scr i x1 x2 x3) {A : AS} {s : MS} (hJ : J A s) (K : Bool → HV → Prop) (hK : ∀ A' s', J A' s' → K false (hp scr s')) : L_c7 scr (lw i) (hp scr s) K := by
  obtain ⟨⟨p1, p2, p3⟩, q1, q2, q3⟩ := At_p hx
  obtain ⟨-, w1, w2, w3⟩ := hx
  have hA := hJ.1
  simp [L_c7, eV, eI, eL, eR, e1, e2, eDI, eDL, eFI, eFL, eFR, eAI, eAZ, eAR, eLen, aN, aC, xV, xS, eX, eIf, eC_b, cA, cO, cN, sSk, sSq, sI, sL, sR, sInc, sF, sFO, sAI, sAZ, sAO, sX, sXp, sIf, sCut, sSqs, sSw, sRt, sRz_g, is01_b, is01_0, is01_1, sRv, sBk, sCt, sCp, lset, lclr, lcut, lini, lx, Value.category, ixOf, b2i_0, b2i_1, eSA, T_PL, T_R, p1, p2, p3, q1, q2, q3, w1, w2, w3]
  refine c_dep hA scr hJ.2.1 x1 x2 _ fun s1 f1 g1 => ⟨_, rfl, ?_⟩
  simp [eV, eI, eL, eR, e1, e2, eDI, eDL, eFI, eFL, eFR, eAI, eAZ, eAR, eLen, aN, aC, xV, xS, eX, eIf, eC_b, cA, cO, cN, sSk, sSq, sI, sL, sR, sInc, sF, sFO, sAI, sAZ, sAO, sX, sXp, sIf, sCut, sSqs, sSw, sRt, sRz_g, is01_b, is01_0, is01_1, sRv, sBk, sCt, sCp, lset, lclr, lcut, lini, lx, Value.category, ixOf, b2i_0, b2i_1, T_R]
  refine r_dep hA scr (J_r hJ f1) x1 x2 _ fun s2 f2 g2 => ⟨_, rfl, ?_⟩
  simpa using hK A s2 (J_m hJ f1 g1 f2 g2 hA rfl)
def L_c8 (scr : List Int32) : PX Bool := (e2 (fun x y : Int32 => decide (¬ x = y)) (eX .int (xV 9 2 X_PL_start (eR 1) (aC .int (eSA scr (eR 0) (e2 (fun x y : Int32 => x + y) (eI 3) (eV (1 : Int32)))) (aC .int (eSA scr (eR 0) (e2 (fun x y : Int32 => x + y) (eI 3) (eV (2 : Int32)))) aN)))) (eX .int (xV 10 2 X_R_start (eR 2) (aC .int (eSA scr (eR 0) (e2 (fun x y : Int32 => x + y) (eI 3) (eV (1 : Int32)))) (aC .int (eSA scr (eR 0) (e2 (fun x y : Int32 => x + y) (eI 3) (eV (2 : Int32)))) aN)))))
theorem l_c8 {scr : List Int32} {i : Nat} {x1 x2 x3 : Int32} (hx : At scr i x1 x2 x3) {A : AS} {s : MS} (hJ : J A s) (K : Bool → HV → Prop) (hK : ∀ A' s', J A' s' → K false (hp scr s')) : L_c8 scr (lw i) (hp scr s) K := by
  obtain ⟨⟨p1, p2, p3⟩, q1, q2, q3⟩ := At_p hx
  obtain ⟨-, w1, w2, w3⟩ := hx
  have hA := hJ.1
  simp [L_c8, eV, eI, eL, eR, e1, e2, eDI, eDL, eFI, eFL, eFR, eAI, eAZ, eAR, eLen, aN, aC, xV, xS, eX, eIf, eC_b, cA, cO, cN, sSk, sSq, sI, sL, sR, sInc, sF, sFO, sAI, sAZ, sAO, sX, sXp, sIf, sCut, sSqs, sSw, sRt, sRz_g, is01_b, is01_0, is01_1, sRv, sBk, sCt, sCp, lset, lclr, lcut, lini, lx, Value.category, ixOf, b2i_0, b2i_1, eSA, T_PL, T_R, p1, p2, p3, q1, q2, q3, w1, w2, w3]
  refine c_start hA scr hJ.2.1 x1 x2 _ fun s1 f1 g1 => ⟨_, rfl, ?_⟩
  simp [eV, eI, eL, eR, e1, e2, eDI, eDL, eFI, eFL, eFR, eAI, eAZ, eAR, eLen, aN, aC, xV, xS, eX, eIf, eC_b, cA, cO, cN, sSk, sSq, sI, sL, sR, sInc, sF, sFO, sAI, sAZ, sAO, sX, sXp, sIf, sCut, sSqs, sSw, sRt, sRz_g, is01_b, is01_0, is01_1, sRv, sBk, sCt, sCp, lset, lclr, lcut, lini, lx, Value.category, ixOf, b2i_0, b2i_1, T_R]
  refine r_start hA scr (J_r hJ f1) x1 x2 _ fun s2 f2 g2 => ⟨_, rfl, ?_⟩
  have ex : aX (f_start A x1 x2).2 = aX A := by unfold f_start; first | rfl | (repeat' split) <;> rfl
  simpa using hK _ s2 (J_m hJ f1 g1 f2 g2 (ok_start hA x1 x2) ex)
def L_c9 (scr : List Int32) : PX Bool := (e2 (fun x y : Int32 => decide (¬ x = y)) (eX .int (xV 9 2 X_PL_set (eR 1) (aC .int (eSA scr (eR 0) (e2 (fun x y : Int32 => x + y) (eI 3) (eV (1 : Int32)))) (aC .int (eSA scr (eR 0) (e2 (fun x y : Int32 => x + y) (eI 3) (eV (2 : Int32)))) aN)))) (eX .int (xV 10 2 X_R_set (eR 2) (aC .int (eSA scr (eR 0) (e2 (fun x y : Int32 => x + y) (eI 3) (eV (1 : Int32)))) (aC .int (eSA scr (eR 0) (e2 (fun x y : Int32 => x + y) (eI 3) (eV (2 : Int32)))) aN)))))
theorem l_c9 {scr : List Int32} {i : Nat} {x1 x2 x3 : Int32} (hx : At scr i x1 x2 x3) {A : AS} {s : MS} (hJ : J A s) (K : Bool → HV → Prop) (hK : ∀ A' s', J A' s' → K false (hp scr s')) : L_c9 scr (lw i) (hp scr s) K := by
  obtain ⟨⟨p1, p2, p3⟩, q1, q2, q3⟩ := At_p hx
  obtain ⟨-, w1, w2, w3⟩ := hx
  have hA := hJ.1
  simp [L_c9, eV, eI, eL, eR, e1, e2, eDI, eDL, eFI, eFL, eFR, eAI, eAZ, eAR, eLen, aN, aC, xV, xS, eX, eIf, eC_b, cA, cO, cN, sSk, sSq, sI, sL, sR, sInc, sF, sFO, sAI, sAZ, sAO, sX, sXp, sIf, sCut, sSqs, sSw, sRt, sRz_g, is01_b, is01_0, is01_1, sRv, sBk, sCt, sCp, lset, lclr, lcut, lini, lx, Value.category, ixOf, b2i_0, b2i_1, eSA, T_PL, T_R, p1, p2, p3, q1, q2, q3, w1, w2, w3]
  refine c_set hA scr hJ.2.1 x1 x2 _ fun s1 f1 g1 => ⟨_, rfl, ?_⟩
  simp [eV, eI, eL, eR, e1, e2, eDI, eDL, eFI, eFL, eFR, eAI, eAZ, eAR, eLen, aN, aC, xV, xS, eX, eIf, eC_b, cA, cO, cN, sSk, sSq, sI, sL, sR, sInc, sF, sFO, sAI, sAZ, sAO, sX, sXp, sIf, sCut, sSqs, sSw, sRt, sRz_g, is01_b, is01_0, is01_1, sRv, sBk, sCt, sCp, lset, lclr, lcut, lini, lx, Value.category, ixOf, b2i_0, b2i_1, T_R]
  refine r_set hA scr (J_r hJ f1) x1 x2 _ fun s2 f2 g2 => ⟨_, rfl, ?_⟩
  have ex : aX (f_set A x1 x2).2 = aX A := by unfold f_set; first | rfl | (repeat' split) <;> rfl
  simpa using hK _ s2 (J_m hJ f1 g1 f2 g2 (ok_set hA x1 x2) ex)
def L_c10 (scr : List Int32) : PX Bool := (e2 (fun x y : Int32 => decide (¬ x = y)) (eX .int (xV 9 0 X_PL_undo (eR 1) aN)) (eX .int (xV 10 0 X_R_undo (eR 2) aN)))
theorem l_c10 {scr : List Int32} {i : Nat} {x1 x2 x3 : Int32} (hx : At scr i x1 x2 x3) {A : AS} {s : MS} (hJ : J A s) (K : Bool → HV → Prop) (hK : ∀ A' s', J A' s' → K false (hp scr s')) : L_c10 scr (lw i) (hp scr s) K := by
  obtain ⟨⟨p1, p2, p3⟩, q1, q2, q3⟩ := At_p hx
  obtain ⟨-, w1, w2, w3⟩ := hx
  have hA := hJ.1
  simp [L_c10, eV, eI, eL, eR, e1, e2, eDI, eDL, eFI, eFL, eFR, eAI, eAZ, eAR, eLen, aN, aC, xV, xS, eX, eIf, eC_b, cA, cO, cN, sSk, sSq, sI, sL, sR, sInc, sF, sFO, sAI, sAZ, sAO, sX, sXp, sIf, sCut, sSqs, sSw, sRt, sRz_g, is01_b, is01_0, is01_1, sRv, sBk, sCt, sCp, lset, lclr, lcut, lini, lx, Value.category, ixOf, b2i_0, b2i_1, eSA, T_PL, T_R, p1, p2, p3, q1, q2, q3, w1, w2, w3]
  refine c_undo hA scr hJ.2.1  _ fun s1 f1 g1 => ⟨_, rfl, ?_⟩
  simp [eV, eI, eL, eR, e1, e2, eDI, eDL, eFI, eFL, eFR, eAI, eAZ, eAR, eLen, aN, aC, xV, xS, eX, eIf, eC_b, cA, cO, cN, sSk, sSq, sI, sL, sR, sInc, sF, sFO, sAI, sAZ, sAO, sX, sXp, sIf, sCut, sSqs, sSw, sRt, sRz_g, is01_b, is01_0, is01_1, sRv, sBk, sCt, sCp, lset, lclr, lcut, lini, lx, Value.category, ixOf, b2i_0, b2i_1, T_R]
  refine r_undo hA scr (J_r hJ f1)  _ fun s2 f2 g2 => ⟨_, rfl, ?_⟩
  have ex : aX (f_undo A ).2 = aX A := by unfold f_undo; first | rfl | (repeat' split) <;> rfl
  simpa using hK _ s2 (J_m hJ f1 g1 f2 g2 (ok_undo hA ) ex)
def L_c11 (scr : List Int32) : PX Bool := (e2 (fun x y : Int32 => decide (¬ x = y)) (eX .int (xV 9 2 X_PL_tried (eR 1) (aC .int (eSA scr (eR 0) (e2 (fun x y : Int32 => x + y) (eI 3) (eV (1 : Int32)))) (aC .int (eSA scr (eR 0) (e2 (fun x y : Int32 => x + y) (eI 3) (eV (2 : Int32)))) aN)))) (eX .int (xV 10 2 X_R_tried (eR 2) (aC .int (eSA scr (eR 0) (e2 (fun x y : Int32 => x + y) (eI 3) (eV (1 : Int32)))) (aC .int (eSA scr (eR 0) (e2 (fun x y : Int32 => x + y) (eI 3) (eV (2 : Int32)))) aN)))))
theorem l_c11 {scr : List Int32} {i : Nat} {x1 x2 x3 : Int32} (hx : At scr i x1 x2 x3) {A : AS} {s : MS} (hJ : J A s) (K : Bool → HV → Prop) (hK : ∀ A' s', J A' s' → K false (hp scr s')) : L_c11 scr (lw i) (hp scr s) K := by
  obtain ⟨⟨p1, p2, p3⟩, q1, q2, q3⟩ := At_p hx
  obtain ⟨-, w1, w2, w3⟩ := hx
  have hA := hJ.1
  simp [L_c11, eV, eI, eL, eR, e1, e2, eDI, eDL, eFI, eFL, eFR, eAI, eAZ, eAR, eLen, aN, aC, xV, xS, eX, eIf, eC_b, cA, cO, cN, sSk, sSq, sI, sL, sR, sInc, sF, sFO, sAI, sAZ, sAO, sX, sXp, sIf, sCut, sSqs, sSw, sRt, sRz_g, is01_b, is01_0, is01_1, sRv, sBk, sCt, sCp, lset, lclr, lcut, lini, lx, Value.category, ixOf, b2i_0, b2i_1, eSA, T_PL, T_R, p1, p2, p3, q1, q2, q3, w1, w2, w3]
  refine c_tried hA scr hJ.2.1 x1 x2 _ fun s1 f1 g1 => ⟨_, rfl, ?_⟩
  simp [eV, eI, eL, eR, e1, e2, eDI, eDL, eFI, eFL, eFR, eAI, eAZ, eAR, eLen, aN, aC, xV, xS, eX, eIf, eC_b, cA, cO, cN, sSk, sSq, sI, sL, sR, sInc, sF, sFO, sAI, sAZ, sAO, sX, sXp, sIf, sCut, sSqs, sSw, sRt, sRz_g, is01_b, is01_0, is01_1, sRv, sBk, sCt, sCp, lset, lclr, lcut, lini, lx, Value.category, ixOf, b2i_0, b2i_1, T_R]
  refine r_tried hA scr (J_r hJ f1) x1 x2 _ fun s2 f2 g2 => ⟨_, rfl, ?_⟩
  simpa using hK A s2 (J_m hJ f1 g1 f2 g2 hA rfl)
def L_c12 (scr : List Int32) : PX Bool := (e2 (fun x y : Int32 => decide (¬ x = y)) (eX .int (xV 9 2 X_PL_judge (eR 1) (aC .int (eSA scr (eR 0) (e2 (fun x y : Int32 => x + y) (eI 3) (eV (1 : Int32)))) (aC .long (e2 (fun x y : Int64 => x ||| y) (e2 (fun (x : Int64) (y : Int32) => x <<< (y.toInt64 &&& 63)) (e1 (fun x : Int32 => x.toInt64) (eSA scr (eR 0) (e2 (fun x y : Int32 => x + y) (eI 3) (eV (2 : Int32))))) (eV (32 : Int32))) (e2 (fun x y : Int64 => x &&& y) (e1 (fun x : Int32 => x.toInt64) (eSA scr (eR 0) (e2 (fun x y : Int32 => x + y) (eI 3) (eV (3 : Int32))))) (eV (4294967295 : Int64)))) aN)))) (eX .int (xV 10 2 X_R_judge (eR 2) (aC .int (eSA scr (eR 0) (e2 (fun x y : Int32 => x + y) (eI 3) (eV (1 : Int32)))) (aC .long (e2 (fun x y : Int64 => x ||| y) (e2 (fun (x : Int64) (y : Int32) => x <<< (y.toInt64 &&& 63)) (e1 (fun x : Int32 => x.toInt64) (eSA scr (eR 0) (e2 (fun x y : Int32 => x + y) (eI 3) (eV (2 : Int32))))) (eV (32 : Int32))) (e2 (fun x y : Int64 => x &&& y) (e1 (fun x : Int32 => x.toInt64) (eSA scr (eR 0) (e2 (fun x y : Int32 => x + y) (eI 3) (eV (3 : Int32))))) (eV (4294967295 : Int64)))) aN)))))
theorem l_c12 {scr : List Int32} {i : Nat} {x1 x2 x3 : Int32} (hx : At scr i x1 x2 x3) {A : AS} {s : MS} (hJ : J A s) (K : Bool → HV → Prop) (hK : ∀ A' s', J A' s' → K false (hp scr s')) : L_c12 scr (lw i) (hp scr s) K := by
  obtain ⟨⟨p1, p2, p3⟩, q1, q2, q3⟩ := At_p hx
  obtain ⟨-, w1, w2, w3⟩ := hx
  have hA := hJ.1
  simp [L_c12, eV, eI, eL, eR, e1, e2, eDI, eDL, eFI, eFL, eFR, eAI, eAZ, eAR, eLen, aN, aC, xV, xS, eX, eIf, eC_b, cA, cO, cN, sSk, sSq, sI, sL, sR, sInc, sF, sFO, sAI, sAZ, sAO, sX, sXp, sIf, sCut, sSqs, sSw, sRt, sRz_g, is01_b, is01_0, is01_1, sRv, sBk, sCt, sCp, lset, lclr, lcut, lini, lx, Value.category, ixOf, b2i_0, b2i_1, eSA, T_PL, T_R, p1, p2, p3, q1, q2, q3, w1, w2, w3]
  refine c_judge hA scr hJ.2.1 x1 _ _ fun s1 f1 g1 => ⟨_, rfl, ?_⟩
  simp [eV, eI, eL, eR, e1, e2, eDI, eDL, eFI, eFL, eFR, eAI, eAZ, eAR, eLen, aN, aC, xV, xS, eX, eIf, eC_b, cA, cO, cN, sSk, sSq, sI, sL, sR, sInc, sF, sFO, sAI, sAZ, sAO, sX, sXp, sIf, sCut, sSqs, sSw, sRt, sRz_g, is01_b, is01_0, is01_1, sRv, sBk, sCt, sCp, lset, lclr, lcut, lini, lx, Value.category, ixOf, b2i_0, b2i_1, T_R]
  refine r_judge hA scr (J_r hJ f1) x1 _ _ fun s2 f2 g2 => ⟨_, rfl, ?_⟩
  simpa using hK A s2 (J_m hJ f1 g1 f2 g2 hA rfl)
def L_c13 (scr : List Int32) : PX Bool := (e2 (fun x y : Int32 => decide (¬ x = y)) (eX .int (xV 9 2 X_PL_see (eR 1) (aC .int (eSA scr (eR 0) (e2 (fun x y : Int32 => x + y) (eI 3) (eV (1 : Int32)))) (aC .int (eSA scr (eR 0) (e2 (fun x y : Int32 => x + y) (eI 3) (eV (2 : Int32)))) aN)))) (eX .int (xV 10 2 X_R_see (eR 2) (aC .int (eSA scr (eR 0) (e2 (fun x y : Int32 => x + y) (eI 3) (eV (1 : Int32)))) (aC .int (eSA scr (eR 0) (e2 (fun x y : Int32 => x + y) (eI 3) (eV (2 : Int32)))) aN)))))
theorem l_c13 {scr : List Int32} {i : Nat} {x1 x2 x3 : Int32} (hx : At scr i x1 x2 x3) {A : AS} {s : MS} (hJ : J A s) (K : Bool → HV → Prop) (hK : ∀ A' s', J A' s' → K false (hp scr s')) : L_c13 scr (lw i) (hp scr s) K := by
  obtain ⟨⟨p1, p2, p3⟩, q1, q2, q3⟩ := At_p hx
  obtain ⟨-, w1, w2, w3⟩ := hx
  have hA := hJ.1
  simp [L_c13, eV, eI, eL, eR, e1, e2, eDI, eDL, eFI, eFL, eFR, eAI, eAZ, eAR, eLen, aN, aC, xV, xS, eX, eIf, eC_b, cA, cO, cN, sSk, sSq, sI, sL, sR, sInc, sF, sFO, sAI, sAZ, sAO, sX, sXp, sIf, sCut, sSqs, sSw, sRt, sRz_g, is01_b, is01_0, is01_1, sRv, sBk, sCt, sCp, lset, lclr, lcut, lini, lx, Value.category, ixOf, b2i_0, b2i_1, eSA, T_PL, T_R, p1, p2, p3, q1, q2, q3, w1, w2, w3]
  refine c_see hA scr hJ.2.1 x1 x2 _ fun s1 f1 g1 => ⟨_, rfl, ?_⟩
  simp [eV, eI, eL, eR, e1, e2, eDI, eDL, eFI, eFL, eFR, eAI, eAZ, eAR, eLen, aN, aC, xV, xS, eX, eIf, eC_b, cA, cO, cN, sSk, sSq, sI, sL, sR, sInc, sF, sFO, sAI, sAZ, sAO, sX, sXp, sIf, sCut, sSqs, sSw, sRt, sRz_g, is01_b, is01_0, is01_1, sRv, sBk, sCt, sCp, lset, lclr, lcut, lini, lx, Value.category, ixOf, b2i_0, b2i_1, T_R]
  refine r_see hA scr (J_r hJ f1) x1 x2 _ fun s2 f2 g2 => ⟨_, rfl, ?_⟩
  have ex : aX (f_see A x1 x2).2 = aX A := by unfold f_see; first | rfl | (repeat' split) <;> rfl
  simpa using hK _ s2 (J_m hJ f1 g1 f2 g2 (ok_see hA x1 x2) ex)
def L_c14 (scr : List Int32) : PX Bool := (e2 (fun x y : Int32 => decide (¬ x = y)) (eX .int (xV 9 0 X_PL_unsee (eR 1) aN)) (eX .int (xV 10 0 X_R_unsee (eR 2) aN)))
theorem l_c14 {scr : List Int32} {i : Nat} {x1 x2 x3 : Int32} (hx : At scr i x1 x2 x3) {A : AS} {s : MS} (hJ : J A s) (K : Bool → HV → Prop) (hK : ∀ A' s', J A' s' → K false (hp scr s')) : L_c14 scr (lw i) (hp scr s) K := by
  obtain ⟨⟨p1, p2, p3⟩, q1, q2, q3⟩ := At_p hx
  obtain ⟨-, w1, w2, w3⟩ := hx
  have hA := hJ.1
  simp [L_c14, eV, eI, eL, eR, e1, e2, eDI, eDL, eFI, eFL, eFR, eAI, eAZ, eAR, eLen, aN, aC, xV, xS, eX, eIf, eC_b, cA, cO, cN, sSk, sSq, sI, sL, sR, sInc, sF, sFO, sAI, sAZ, sAO, sX, sXp, sIf, sCut, sSqs, sSw, sRt, sRz_g, is01_b, is01_0, is01_1, sRv, sBk, sCt, sCp, lset, lclr, lcut, lini, lx, Value.category, ixOf, b2i_0, b2i_1, eSA, T_PL, T_R, p1, p2, p3, q1, q2, q3, w1, w2, w3]
  refine c_unsee scr hJ.2.1  _ fun s1 f1 g1 => ⟨_, rfl, ?_⟩
  simp [eV, eI, eL, eR, e1, e2, eDI, eDL, eFI, eFL, eFR, eAI, eAZ, eAR, eLen, aN, aC, xV, xS, eX, eIf, eC_b, cA, cO, cN, sSk, sSq, sI, sL, sR, sInc, sF, sFO, sAI, sAZ, sAO, sX, sXp, sIf, sCut, sSqs, sSw, sRt, sRz_g, is01_b, is01_0, is01_1, sRv, sBk, sCt, sCp, lset, lclr, lcut, lini, lx, Value.category, ixOf, b2i_0, b2i_1, T_R]
  refine r_unsee scr (J_r hJ f1)  _ fun s2 f2 g2 => ⟨_, rfl, ?_⟩
  have ex : aX (f_unsee A ).2 = aX A := by unfold f_unsee; first | rfl | (repeat' split) <;> rfl
  simpa using hK _ s2 (J_m hJ f1 g1 f2 g2 (ok_unsee hA ) ex)
def L_c15 (scr : List Int32) : PX Bool := (e2 (fun x y : Int32 => decide (¬ x = y)) (eX .int (xV 9 0 X_PL_which (eR 1) aN)) (eX .int (xV 10 0 X_R_which (eR 2) aN)))
theorem l_c15 {scr : List Int32} {i : Nat} {x1 x2 x3 : Int32} (hx : At scr i x1 x2 x3) {A : AS} {s : MS} (hJ : J A s) (K : Bool → HV → Prop) (hK : ∀ A' s', J A' s' → K false (hp scr s')) : L_c15 scr (lw i) (hp scr s) K := by
  obtain ⟨⟨p1, p2, p3⟩, q1, q2, q3⟩ := At_p hx
  obtain ⟨-, w1, w2, w3⟩ := hx
  have hA := hJ.1
  simp [L_c15, eV, eI, eL, eR, e1, e2, eDI, eDL, eFI, eFL, eFR, eAI, eAZ, eAR, eLen, aN, aC, xV, xS, eX, eIf, eC_b, cA, cO, cN, sSk, sSq, sI, sL, sR, sInc, sF, sFO, sAI, sAZ, sAO, sX, sXp, sIf, sCut, sSqs, sSw, sRt, sRz_g, is01_b, is01_0, is01_1, sRv, sBk, sCt, sCp, lset, lclr, lcut, lini, lx, Value.category, ixOf, b2i_0, b2i_1, eSA, T_PL, T_R, p1, p2, p3, q1, q2, q3, w1, w2, w3]
  refine c_which hA scr hJ.2.1 _ fun s1 y f1 g1 e1' => ⟨_, rfl, ?_⟩
  simp [eV, eI, eL, eR, e1, e2, eDI, eDL, eFI, eFL, eFR, eAI, eAZ, eAR, eLen, aN, aC, xV, xS, eX, eIf, eC_b, cA, cO, cN, sSk, sSq, sI, sL, sR, sInc, sF, sFO, sAI, sAZ, sAO, sX, sXp, sIf, sCut, sSqs, sSw, sRt, sRz_g, is01_b, is01_0, is01_1, sRv, sBk, sCt, sCp, lset, lclr, lcut, lini, lx, Value.category, ixOf, b2i_0, b2i_1, T_R]
  refine r_which hA scr (J_r hJ f1) _ fun s2 y2 f2 g2 e2' => ⟨_, rfl, ?_⟩
  rw [mk_eq e1' e2']
  simpa using hK A s2 (J_m hJ f1 g1 f2 g2 hA rfl)
def L_c16 (scr : List Int32) : PX Bool := (e2 (fun x y : Int32 => decide (¬ x = y)) (eX .int (xV 9 2 X_PL_share (eR 1) (aC .int (eSA scr (eR 0) (e2 (fun x y : Int32 => x + y) (eI 3) (eV (1 : Int32)))) (aC .int (eC (e1 (fun x : Int32 => decide (¬ x = 0)) (eSA scr (eR 0) (e2 (fun x y : Int32 => x + y) (eI 3) (eV (2 : Int32)))))) aN)))) (eX .int (xV 10 2 X_R_share (eR 2) (aC .int (eSA scr (eR 0) (e2 (fun x y : Int32 => x + y) (eI 3) (eV (1 : Int32)))) (aC .int (eC (e1 (fun x : Int32 => decide (¬ x = 0)) (eSA scr (eR 0) (e2 (fun x y : Int32 => x + y) (eI 3) (eV (2 : Int32)))))) aN)))))
theorem l_c16 {scr : List Int32} {i : Nat} {x1 x2 x3 : Int32} (hx : At scr i x1 x2 x3) {A : AS} {s : MS} (hJ : J A s) (K : Bool → HV → Prop) (hK : ∀ A' s', J A' s' → K false (hp scr s')) : L_c16 scr (lw i) (hp scr s) K := by
  obtain ⟨⟨p1, p2, p3⟩, q1, q2, q3⟩ := At_p hx
  obtain ⟨-, w1, w2, w3⟩ := hx
  have hA := hJ.1
  simp [L_c16, eV, eI, eL, eR, e1, e2, eDI, eDL, eFI, eFL, eFR, eAI, eAZ, eAR, eLen, aN, aC, xV, xS, eX, eIf, eC_b, cA, cO, cN, sSk, sSq, sI, sL, sR, sInc, sF, sFO, sAI, sAZ, sAO, sX, sXp, sIf, sCut, sSqs, sSw, sRt, sRz_g, is01_b, is01_0, is01_1, sRv, sBk, sCt, sCp, lset, lclr, lcut, lini, lx, Value.category, ixOf, b2i_0, b2i_1, eSA, T_PL, T_R, p1, p2, p3, q1, q2, q3, w1, w2, w3]
  refine c_share hA scr hJ.2.1 x1 _ _ fun s1 f1 g1 => ⟨_, rfl, ?_⟩
  simp [eV, eI, eL, eR, e1, e2, eDI, eDL, eFI, eFL, eFR, eAI, eAZ, eAR, eLen, aN, aC, xV, xS, eX, eIf, eC_b, cA, cO, cN, sSk, sSq, sI, sL, sR, sInc, sF, sFO, sAI, sAZ, sAO, sX, sXp, sIf, sCut, sSqs, sSw, sRt, sRz_g, is01_b, is01_0, is01_1, sRv, sBk, sCt, sCp, lset, lclr, lcut, lini, lx, Value.category, ixOf, b2i_0, b2i_1, T_R]
  refine r_share hA scr (J_r hJ f1) x1 _ _ fun s2 f2 g2 => ⟨_, rfl, ?_⟩
  simpa using hK A s2 (J_m hJ f1 g1 f2 g2 hA rfl)
def L_c17 (scr : List Int32) : PX Bool := (e2 (fun x y : Int32 => decide (¬ x = y)) (eX .int (xV 9 3 X_PL_chance (eR 1) (aC .int (eSA scr (eR 0) (e2 (fun x y : Int32 => x + y) (eI 3) (eV (1 : Int32)))) (aC .int (eSA scr (eR 0) (e2 (fun x y : Int32 => x + y) (eI 3) (eV (2 : Int32)))) (aC .int (eC (e1 (fun x : Int32 => decide (¬ x = 0)) (eSA scr (eR 0) (e2 (fun x y : Int32 => x + y) (eI 3) (eV (3 : Int32)))))) aN))))) (eX .int (xV 10 3 X_R_chance (eR 2) (aC .int (eSA scr (eR 0) (e2 (fun x y : Int32 => x + y) (eI 3) (eV (1 : Int32)))) (aC .int (eSA scr (eR 0) (e2 (fun x y : Int32 => x + y) (eI 3) (eV (2 : Int32)))) (aC .int (eC (e1 (fun x : Int32 => decide (¬ x = 0)) (eSA scr (eR 0) (e2 (fun x y : Int32 => x + y) (eI 3) (eV (3 : Int32)))))) aN))))))
theorem l_c17 {scr : List Int32} {i : Nat} {x1 x2 x3 : Int32} (hx : At scr i x1 x2 x3) {A : AS} {s : MS} (hJ : J A s) (K : Bool → HV → Prop) (hK : ∀ A' s', J A' s' → K false (hp scr s')) : L_c17 scr (lw i) (hp scr s) K := by
  obtain ⟨⟨p1, p2, p3⟩, q1, q2, q3⟩ := At_p hx
  obtain ⟨-, w1, w2, w3⟩ := hx
  have hA := hJ.1
  simp [L_c17, eV, eI, eL, eR, e1, e2, eDI, eDL, eFI, eFL, eFR, eAI, eAZ, eAR, eLen, aN, aC, xV, xS, eX, eIf, eC_b, cA, cO, cN, sSk, sSq, sI, sL, sR, sInc, sF, sFO, sAI, sAZ, sAO, sX, sXp, sIf, sCut, sSqs, sSw, sRt, sRz_g, is01_b, is01_0, is01_1, sRv, sBk, sCt, sCp, lset, lclr, lcut, lini, lx, Value.category, ixOf, b2i_0, b2i_1, eSA, T_PL, T_R, p1, p2, p3, q1, q2, q3, w1, w2, w3]
  refine c_chance hA scr hJ.2.1 x1 x2 _ _ fun s1 f1 g1 => ⟨_, rfl, ?_⟩
  simp [eV, eI, eL, eR, e1, e2, eDI, eDL, eFI, eFL, eFR, eAI, eAZ, eAR, eLen, aN, aC, xV, xS, eX, eIf, eC_b, cA, cO, cN, sSk, sSq, sI, sL, sR, sInc, sF, sFO, sAI, sAZ, sAO, sX, sXp, sIf, sCut, sSqs, sSw, sRt, sRz_g, is01_b, is01_0, is01_1, sRv, sBk, sCt, sCp, lset, lclr, lcut, lini, lx, Value.category, ixOf, b2i_0, b2i_1, T_R]
  refine r_chance hA scr (J_r hJ f1) x1 x2 _ _ fun s2 f2 g2 => ⟨_, rfl, ?_⟩
  simpa using hK A s2 (J_m hJ f1 g1 f2 g2 hA rfl)
def L_c18 (scr : List Int32) : PX Bool := (e2 (fun x y : Int64 => decide (¬ x = y)) (eX .long (xV 9 1 X_PL_seed (eR 1) (aC .long (e2 (fun x y : Int64 => x ||| y) (e2 (fun (x : Int64) (y : Int32) => x <<< (y.toInt64 &&& 63)) (e1 (fun x : Int32 => x.toInt64) (eSA scr (eR 0) (e2 (fun x y : Int32 => x + y) (eI 3) (eV (1 : Int32))))) (eV (32 : Int32))) (e2 (fun x y : Int64 => x &&& y) (e1 (fun x : Int32 => x.toInt64) (eSA scr (eR 0) (e2 (fun x y : Int32 => x + y) (eI 3) (eV (2 : Int32))))) (eV (4294967295 : Int64)))) aN))) (eX .long (xV 10 1 X_R_seed (eR 2) (aC .long (e2 (fun x y : Int64 => x ||| y) (e2 (fun (x : Int64) (y : Int32) => x <<< (y.toInt64 &&& 63)) (e1 (fun x : Int32 => x.toInt64) (eSA scr (eR 0) (e2 (fun x y : Int32 => x + y) (eI 3) (eV (1 : Int32))))) (eV (32 : Int32))) (e2 (fun x y : Int64 => x &&& y) (e1 (fun x : Int32 => x.toInt64) (eSA scr (eR 0) (e2 (fun x y : Int32 => x + y) (eI 3) (eV (2 : Int32))))) (eV (4294967295 : Int64)))) aN))))
theorem l_c18 {scr : List Int32} {i : Nat} {x1 x2 x3 : Int32} (hx : At scr i x1 x2 x3) {A : AS} {s : MS} (hJ : J A s) (K : Bool → HV → Prop) (hK : ∀ A' s', J A' s' → K false (hp scr s')) : L_c18 scr (lw i) (hp scr s) K := by
  obtain ⟨⟨p1, p2, p3⟩, q1, q2, q3⟩ := At_p hx
  obtain ⟨-, w1, w2, w3⟩ := hx
  have hA := hJ.1
  simp [L_c18, eV, eI, eL, eR, e1, e2, eDI, eDL, eFI, eFL, eFR, eAI, eAZ, eAR, eLen, aN, aC, xV, xS, eX, eIf, eC_b, cA, cO, cN, sSk, sSq, sI, sL, sR, sInc, sF, sFO, sAI, sAZ, sAO, sX, sXp, sIf, sCut, sSqs, sSw, sRt, sRz_g, is01_b, is01_0, is01_1, sRv, sBk, sCt, sCp, lset, lclr, lcut, lini, lx, Value.category, ixOf, b2i_0, b2i_1, eSA, T_PL, T_R, p1, p2, p3, q1, q2, q3, w1, w2, w3]
  refine c_seed (A := A) scr _ _ ⟨_, rfl, ?_⟩
  simp [eV, eI, eL, eR, e1, e2, eDI, eDL, eFI, eFL, eFR, eAI, eAZ, eAR, eLen, aN, aC, xV, xS, eX, eIf, eC_b, cA, cO, cN, sSk, sSq, sI, sL, sR, sInc, sF, sFO, sAI, sAZ, sAO, sX, sXp, sIf, sCut, sSqs, sSw, sRt, sRz_g, is01_b, is01_0, is01_1, sRv, sBk, sCt, sCp, lset, lclr, lcut, lini, lx, Value.category, ixOf, b2i_0, b2i_1, T_R]
  refine r_seed (A := A) scr _ _ ⟨_, rfl, ?_⟩
  have a1 := hJ.2.2.2.1
  have a2 := hJ.2.2.2.2
  simp [upL_get, a1, a2]
  refine hK (wX A (x1.toInt64 <<< (32 &&& 63) ||| x2.toInt64 &&& 4294967295)) _ ⟨hA, hJ.2.1, hJ.2.2.1, ?_, ?_⟩ <;> simp [upL_get, wX]
def L_c19 (scr : List Int32) : PX Bool := (e2 (fun x y : Int32 => decide (¬ x = y)) (eX .int (xV 9 1 X_PL_drawn (eR 1) (aC .int (eSA scr (eR 0) (e2 (fun x y : Int32 => x + y) (eI 3) (eV (1 : Int32)))) aN))) (eX .int (xV 10 1 X_R_drawn (eR 2) (aC .int (eSA scr (eR 0) (e2 (fun x y : Int32 => x + y) (eI 3) (eV (1 : Int32)))) aN))))
theorem l_c19 {scr : List Int32} {i : Nat} {x1 x2 x3 : Int32} (hx : At scr i x1 x2 x3) {A : AS} {s : MS} (hJ : J A s) (K : Bool → HV → Prop) (hK : ∀ A' s', J A' s' → K false (hp scr s')) : L_c19 scr (lw i) (hp scr s) K := by
  obtain ⟨⟨p1, p2, p3⟩, q1, q2, q3⟩ := At_p hx
  obtain ⟨-, w1, w2, w3⟩ := hx
  have hA := hJ.1
  simp [L_c19, eV, eI, eL, eR, e1, e2, eDI, eDL, eFI, eFL, eFR, eAI, eAZ, eAR, eLen, aN, aC, xV, xS, eX, eIf, eC_b, cA, cO, cN, sSk, sSq, sI, sL, sR, sInc, sF, sFO, sAI, sAZ, sAO, sX, sXp, sIf, sCut, sSqs, sSw, sRt, sRz_g, is01_b, is01_0, is01_1, sRv, sBk, sCt, sCp, lset, lclr, lcut, lini, lx, Value.category, ixOf, b2i_0, b2i_1, eSA, T_PL, T_R, p1, p2, p3, q1, q2, q3, w1, w2, w3]
  refine c_drawn hA scr hJ.2.1 hJ.2.2.2.1 x1 _ fun s1 f1 g1 y1 => ⟨_, rfl, ?_⟩
  simp [eV, eI, eL, eR, e1, e2, eDI, eDL, eFI, eFL, eFR, eAI, eAZ, eAR, eLen, aN, aC, xV, xS, eX, eIf, eC_b, cA, cO, cN, sSk, sSq, sI, sL, sR, sInc, sF, sFO, sAI, sAZ, sAO, sX, sXp, sIf, sCut, sSqs, sSw, sRt, sRz_g, is01_b, is01_0, is01_1, sRv, sBk, sCt, sCp, lset, lclr, lcut, lini, lx, Value.category, ixOf, b2i_0, b2i_1, T_R]
  refine r_drawn hA scr (IR_L f1 (by omega) hJ.2.2.1) (by rw [f1.1 65 (by omega)]; exact hJ.2.2.2.2) x1 _ fun s2 f2 g2 y2 => ⟨_, rfl, ?_⟩
  simpa using hK _ s2 ⟨ok_drawn hA x1, IC_L f2 (by omega) g1, g2, by rw [f2.1 2 (by omega)]; exact y1, y2⟩
def L_c20 (scr : List Int32) : PX Bool := (e2 (fun x y : Int32 => decide (¬ x = y)) (eX .int (xV 9 1 X_PL_keep (eR 1) (aC .int (eSA scr (eR 0) (e2 (fun x y : Int32 => x + y) (eI 3) (eV (1 : Int32)))) aN))) (eX .int (xV 10 1 X_R_keep (eR 2) (aC .int (eSA scr (eR 0) (e2 (fun x y : Int32 => x + y) (eI 3) (eV (1 : Int32)))) aN))))
theorem l_c20 {scr : List Int32} {i : Nat} {x1 x2 x3 : Int32} (hx : At scr i x1 x2 x3) {A : AS} {s : MS} (hJ : J A s) (K : Bool → HV → Prop) (hK : ∀ A' s', J A' s' → K false (hp scr s')) : L_c20 scr (lw i) (hp scr s) K := by
  obtain ⟨⟨p1, p2, p3⟩, q1, q2, q3⟩ := At_p hx
  obtain ⟨-, w1, w2, w3⟩ := hx
  have hA := hJ.1
  simp [L_c20, eV, eI, eL, eR, e1, e2, eDI, eDL, eFI, eFL, eFR, eAI, eAZ, eAR, eLen, aN, aC, xV, xS, eX, eIf, eC_b, cA, cO, cN, sSk, sSq, sI, sL, sR, sInc, sF, sFO, sAI, sAZ, sAO, sX, sXp, sIf, sCut, sSqs, sSw, sRt, sRz_g, is01_b, is01_0, is01_1, sRv, sBk, sCt, sCp, lset, lclr, lcut, lini, lx, Value.category, ixOf, b2i_0, b2i_1, eSA, T_PL, T_R, p1, p2, p3, q1, q2, q3, w1, w2, w3]
  refine c_keep hA scr hJ.2.1 x1 _ fun s1 f1 g1 => ⟨_, rfl, ?_⟩
  simp [eV, eI, eL, eR, e1, e2, eDI, eDL, eFI, eFL, eFR, eAI, eAZ, eAR, eLen, aN, aC, xV, xS, eX, eIf, eC_b, cA, cO, cN, sSk, sSq, sI, sL, sR, sInc, sF, sFO, sAI, sAZ, sAO, sX, sXp, sIf, sCut, sSqs, sSw, sRt, sRz_g, is01_b, is01_0, is01_1, sRv, sBk, sCt, sCp, lset, lclr, lcut, lini, lx, Value.category, ixOf, b2i_0, b2i_1, T_R]
  refine r_keep hA scr (J_r hJ f1) x1 _ fun s2 f2 g2 => ⟨_, rfl, ?_⟩
  have ex : aX (f_keep A x1).2 = aX A := by unfold f_keep; first | rfl | (repeat' split) <;> rfl
  simpa using hK _ s2 (J_m hJ f1 g1 f2 g2 (ok_keep hA x1) ex)
def L_c21 (scr : List Int32) : PX Bool := (e2 (fun x y : Int32 => decide (¬ x = y)) (eX .int (xV 9 1 X_PL_again (eR 1) (aC .int (eSA scr (eR 0) (e2 (fun x y : Int32 => x + y) (eI 3) (eV (1 : Int32)))) aN))) (eX .int (xV 10 1 X_R_again (eR 2) (aC .int (eSA scr (eR 0) (e2 (fun x y : Int32 => x + y) (eI 3) (eV (1 : Int32)))) aN))))
theorem l_c21 {scr : List Int32} {i : Nat} {x1 x2 x3 : Int32} (hx : At scr i x1 x2 x3) {A : AS} {s : MS} (hJ : J A s) (K : Bool → HV → Prop) (hK : ∀ A' s', J A' s' → K false (hp scr s')) : L_c21 scr (lw i) (hp scr s) K := by
  obtain ⟨⟨p1, p2, p3⟩, q1, q2, q3⟩ := At_p hx
  obtain ⟨-, w1, w2, w3⟩ := hx
  have hA := hJ.1
  simp [L_c21, eV, eI, eL, eR, e1, e2, eDI, eDL, eFI, eFL, eFR, eAI, eAZ, eAR, eLen, aN, aC, xV, xS, eX, eIf, eC_b, cA, cO, cN, sSk, sSq, sI, sL, sR, sInc, sF, sFO, sAI, sAZ, sAO, sX, sXp, sIf, sCut, sSqs, sSw, sRt, sRz_g, is01_b, is01_0, is01_1, sRv, sBk, sCt, sCp, lset, lclr, lcut, lini, lx, Value.category, ixOf, b2i_0, b2i_1, eSA, T_PL, T_R, p1, p2, p3, q1, q2, q3, w1, w2, w3]
  refine c_again hA scr hJ.2.1 x1 _ fun s1 f1 g1 => ⟨_, rfl, ?_⟩
  simp [eV, eI, eL, eR, e1, e2, eDI, eDL, eFI, eFL, eFR, eAI, eAZ, eAR, eLen, aN, aC, xV, xS, eX, eIf, eC_b, cA, cO, cN, sSk, sSq, sI, sL, sR, sInc, sF, sFO, sAI, sAZ, sAO, sX, sXp, sIf, sCut, sSqs, sSw, sRt, sRz_g, is01_b, is01_0, is01_1, sRv, sBk, sCt, sCp, lset, lclr, lcut, lini, lx, Value.category, ixOf, b2i_0, b2i_1, T_R]
  refine r_again hA scr (J_r hJ f1) x1 _ fun s2 f2 g2 => ⟨_, rfl, ?_⟩
  have ex : aX (f_again A x1).2 = aX A := by unfold f_again; first | rfl | (repeat' split) <;> rfl
  simpa using hK _ s2 (J_m hJ f1 g1 f2 g2 (ok_again hA x1) ex)
