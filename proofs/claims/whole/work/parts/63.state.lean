/-! ranges of arguments -/
def rng (a b x : Int32) : Bool := !decide (x < a) && !decide (b < x)
theorem i64_le (x y : Int32) : (x.toInt64 ≤ y.toInt64) = (x ≤ y) := by
  rw [Int64.le_iff_toInt_le, Int32.le_iff_toInt_le, Int32.toInt_toInt64, Int32.toInt_toInt64]
theorem rng_in {x a b : Int32} {A B : Int64} (ha : A = a.toInt64) (hb : B = b.toInt64) : (decide (A ≤ x.toInt64) && decide (x.toInt64 ≤ B)) = rng a b x := by
  subst ha hb
  simp only [i64_le]
  unfold rng
  simp only [← Int32.not_lt]
  by_cases h1 : x < a <;> by_cases h2 : b < x <;> simp [h1, h2]
theorem t_in (scr : List Int32) (s : MS) (x a b : Int32) {A B : Int64} (ha : A = a.toInt64) (hb : B = b.toInt64) (Q : Option Value → HV → Prop) : X_R_in [.long x.toInt64, .long A, .long B] (hp scr s) Q ↔ Q (some (.int (b2i (rng a b x)))) (hp scr s) := by
  rw [s_R_in, rng_in ha hb]
theorem rng_n {x : Int32} {N : Nat} (hN : N < 2 ^ 31) (h : rng 0 (nI N) x = true) : ∃ j, j ≤ N ∧ x = nI j := by
  unfold rng at h
  simp only [Bool.and_eq_true, Bool.not_eq_true', decide_eq_false_iff_not] at h
  exact nI_of2 (M := nI N) (nI_toInt hN) h.1 (Int32.not_lt.mp h.2)
theorem rng_nI {N j : Nat} (hN : N < 2 ^ 31) (hj : j < 2 ^ 31) : rng 0 (nI N) (nI j) = decide (j ≤ N) := by
  unfold rng
  rw [decide_eq_false (Int32.not_lt.mpr (nI_pos' hj))]
  by_cases c : j ≤ N
  · rw [decide_eq_true c, decide_eq_false (by rw [nI_ltI hN hj]; omega)]; rfl
  · rw [decide_eq_false c, decide_eq_true (by rw [nI_ltI hN hj]; omega)]; rfl
theorem cO_rng {a b x : Int32} {K : Bool → HV → Prop} {h : HV} : (if x < a then K true h else K (decide (b < x)) h) ↔ K (!rng a b x) h := by
  unfold rng
  by_cases h1 : x < a <;> by_cases h2 : b < x <;> simp [h1, h2]
theorem s_R_isAddress (scr : List Int32) (s : MS) (x : Int32) (Q : Option Value → HV → Prop) : X_R_isAddress [.int x] (hp scr s) Q ↔ Q (some (.int (b2i (rng 0 15 x)))) (hp scr s) := by
  simp [X_R_isAddress, B_R_isAddress, eV, eI, eL, eR, e1, e2, eDI, eDL, eFI, eFL, eFR, eAI, eAZ, eAR, eLen, aN, aC, xV, xS, eX, eIf, eC_b, cA, cO, cN, sSk, sSq, sI, sL, sR, sInc, sF, sFO, sAI, sAZ, sAO, sX, sXp, sIf, sCut, sSqs, sSw, sRt, sRz_g, is01_b, is01_0, is01_1, sRv, sBk, sCt, sCp, lset, lclr, lcut, lini, lx, Value.category, ixOf, b2i_0, b2i_1, t_in scr s x 0 15 (A := 0) (B := 15) rfl rfl]
theorem s_R_isThere {P : PC} (scr : List Int32) {s : MS} (hP : okP P) (hm : mR P s) (x : Int32) (Q : Option Value → HV → Prop) : X_R_isThere [.ref 65, .int x] (hp scr s) Q ↔ Q (some (.int (b2i (rng 0 (nI P.1 - 1) x)))) (hp scr s) := by
  simp [X_R_isThere, B_R_isThere, eV, eI, eL, eR, e1, e2, eDI, eDL, eFI, eFL, eFR, eAI, eAZ, eAR, eLen, aN, aC, xV, xS, eX, eIf, eC_b, cA, cO, cN, sSk, sSq, sI, sL, sR, sInc, sF, sFO, sAI, sAZ, sAO, sX, sXp, sIf, sCut, sSqs, sSw, sRt, sRz_g, is01_b, is01_0, is01_1, sRv, sBk, sCt, sCp, lset, lclr, lcut, lini, lx, Value.category, ixOf, b2i_0, b2i_1, T_R, hm.1, t_in scr s x 0 (nI P.1 - 1) (A := 0) (B := (nI P.1 - 1).toInt64) rfl rfl]
/-- an instruction that is there -/
def isI (P : PC) (x : Int32) : Bool := rng 0 (nI P.1 - 1) x
theorem isI_n {P : PC} (hP : okP P) {x : Int32} (h : isI P x = true) : ∃ i, i < P.1 ∧ x = nI i := by
  have h16 := hP.1
  unfold isI at h
  rcases Nat.eq_zero_or_pos P.1 with q | q
  · rw [q] at h
    unfold rng at h
    simp only [Bool.and_eq_true, Bool.not_eq_true', decide_eq_false_iff_not] at h
    have a := Int32.not_lt.mp h.1
    have b := Int32.not_lt.mp h.2
    have : (0 : Int32) ≤ nI 0 - 1 := Int32.le_trans a b
    exact absurd this (by decide)
  · rw [show nI P.1 - 1 = nI (P.1 - 1) by rw [show (1 : Int32) = nI 1 from rfl, nI_sub (by omega)]] at h
    obtain ⟨j, h1, h2⟩ := rng_n (by omega) h
    exact ⟨j, by omega, h2⟩
theorem isI_has {P : PC} (hP : okP P) (x : Int32) : (decide (0 ≤ x) && decide (x < nI P.1)) = isI P x := by
  have h16 := hP.1
  unfold isI rng
  rcases Nat.eq_zero_or_pos P.1 with q | q
  · rw [q]
    have e : ∀ y : Int32, (nI 0 - 1 < y) = (0 ≤ y) := by
      intro y
      rw [Int32.lt_iff_toInt_lt, Int32.le_iff_toInt_le]
      have a : (nI 0 - 1 : Int32).toInt = -1 := by decide
      have b : (0 : Int32).toInt = 0 := by decide
      rw [a, b]
      apply propext
      omega
    simp only [e]
    have z : nI 0 = 0 := rfl
    simp only [z, ← Int32.not_lt]
    by_cases c : x < 0 <;> simp [c]
  · rw [show nI P.1 - 1 = nI (P.1 - 1) by rw [show (1 : Int32) = nI 1 from rfl, nI_sub (by omega)]]
    have e : (nI (P.1 - 1) < x) = ¬ (x < nI P.1) := by
      rw [Int32.lt_iff_toInt_lt, Int32.lt_iff_toInt_lt, nI_toInt (by omega), nI_toInt (by omega)]
      apply propext
      omega
    simp only [e, ← Int32.not_lt]
    by_cases c : x < 0 <;> by_cases d : x < nI P.1 <;> simp [c, d]
theorem t_Code_has {P : PC} (scr : List Int32) {s : MS} (hP : okP P) (hm : mC P 6 s) (x : Int32) (Q : Option Value → HV → Prop) : X_Code_has [.ref 6, .int x] (hp scr s) Q ↔ Q (some (.int (b2i (isI P x)))) (hp scr s) := by
  rw [s_Code_has c6, hm.1, isI_has hP]
/-! the state behind the calls -/
abbrev Row : Type := Nat → Int32
abbrev AS : Type := List Nat × PC × Row × List Row × (Nat → Option Row) × List (Nat × Int32) × Int64
abbrev aT (A : AS) : List Nat := A.1
abbrev aP (A : AS) : PC := A.2.1
abbrev aR (A : AS) : Row := A.2.2.1
abbrev aH (A : AS) : List Row := A.2.2.2.1
abbrev aK (A : AS) : Nat → Option Row := A.2.2.2.2.1
abbrev aS (A : AS) : List (Nat × Int32) := A.2.2.2.2.2.1
abbrev aX (A : AS) : Int64 := A.2.2.2.2.2.2
def rB (w : Row) : Nat := (w 16).toNatClampNeg
def rK (w : Row) : Nat := (w 17).toNatClampNeg
def rW (w : Row) : Nat := (w 18).toNatClampNeg
def okRow (w : Row) : Prop := okS (rB w) (rK w) (rW w) ∧ w 16 = nI (rB w) ∧ w 17 = nI (rK w) ∧ w 18 = nI (rW w)
def no : Nat → Bool := fun _ => false
def fol (P : PC) (w : Row) (out : Nat → Bool) : Nat → Nat → Bool := pFol P (rB w) (rK w) out
def chs (P : PC) (w : Row) (out : Nat → Bool) : CS := cAt P (fol P w out) out (rW w) (2 * (9 - rW w))
def ord (P : PC) (w : Row) : SS := sFin P (gF (fol P w no)) (chs P w no).1 no
def mTx (r c k : Nat) (t : List Nat) (s : MS) : Prop := s.1 c k = nI t.length ∧ ∀ q, q < t.length → s.1 r q = nI (t.getD q 0)
def mSg (r1 r2 c k : Nat) (l : List (Nat × Int32)) (s : MS) : Prop := s.1 c k = nI l.length ∧ ∀ q, q < l.length → s.1 r1 q = nI (l.getD q (0, 0)).1 ∧ s.1 r2 q = (l.getD q (0, 0)).2
def mRw (r : Nat) (w : Row) (s : MS) : Prop := ∀ k, k < 19 → s.1 r k = w k
def zR : Row := fun _ => 0
def mAc (H : List Row) (w : Row) (s : MS) : Prop := s.1 24 2 = nI H.length ∧ ∀ m, m < H.length → ∃ p, p < 19 ∧ s.1 25 m = nI p ∧ ∀ k, k < 19 → (H.getD m zR) k = if k = p then s.1 26 m else ((H ++ [w]).getD (m + 1) zR) k
def mAr (H : List Row) (s : MS) : Prop := s.1 65 10 = nI H.length ∧ ∃ nx, nx < 14 ∧ s.1 65 11 = nI nx ∧ ∀ m, m < H.length → ∀ k, k < 19 → s.1 73 (19 * ((nx + 14 - H.length + m) % 14) + k) = (H.getD m zR) k
def mSc (K : Nat → Option Row) (s : MS) : Prop := ∀ j, j < 2 → s.1 28 j = b2i (K j).isSome ∧ ∀ w, K j = some w → ∀ k, k < 19 → s.1 (30 + j) k = w k
def mSr (K : Nat → Option Row) (s : MS) : Prop := ∀ j, j < 2 → s.1 75 j = b2i (K j).isSome ∧ ∀ w, K j = some w → ∀ k, k < 19 → s.1 74 (19 * j + k) = w k
def mNow (P : PC) (w : Row) (s : MS) : Prop := mFD (fol P w no) 42 43 P.1 s ∧ mPk P 35 (rW w) (chs P w no) s ∧ mOr 35 (ord P w).2.2.2 s ∧ ∀ j, j < P.1 → s.1 39 j = nI ((ord P w).2.2.1 j)
def okA (A : AS) : Prop := ((aT A).length ≤ 80 ∧ ∀ x, x ∈ aT A → x < 256) ∧ okP (aP A) ∧ okRow (aR A) ∧ ((aH A).length ≤ 14 ∧ ∀ w, w ∈ aH A → okRow w) ∧ (∀ j w, aK A j = some w → okRow w) ∧ (aS A).length ≤ 6 ∧ ∀ p, p ∈ aS A → p.1 < 16
def IC (A : AS) (s : MS) : Prop := mTx 4 3 2 (aT A) s ∧ mC (aP A) 6 s ∧ mRw 20 (aR A) s ∧ mAc (aH A) (aR A) s ∧ mSc (aK A) s ∧ mSg 33 34 32 2 (aS A) s ∧ mNow (aP A) (aR A) s
def IR (A : AS) (s : MS) : Prop := mTx 66 65 1 (aT A) s ∧ mR (aP A) s ∧ mRw 71 (aR A) s ∧ mAr (aH A) s ∧ mSr (aK A) s ∧ mSg 76 77 65 16 (aS A) s
theorem mTx_fr {r c k : Nat} {t : List Nat} {F : Nat → Nat → Prop} {s s' : MS} (h : Fr F s s') (a : ¬ F c k) (b : ∀ q, ¬ F r q) (hm : mTx r c k t s) : mTx r c k t s' := ⟨by rw [h.2 _ _ a]; exact hm.1, fun q hq => by rw [h.2 _ _ (b q)]; exact hm.2 q hq⟩
theorem mSg_fr {r1 r2 c k : Nat} {l : List (Nat × Int32)} {F : Nat → Nat → Prop} {s s' : MS} (h : Fr F s s') (a : ¬ F c k) (b : ∀ q, ¬ F r1 q) (d : ∀ q, ¬ F r2 q) (hm : mSg r1 r2 c k l s) : mSg r1 r2 c k l s' := ⟨by rw [h.2 _ _ a]; exact hm.1, fun q hq => by rw [h.2 _ _ (b q), h.2 _ _ (d q)]; exact hm.2 q hq⟩
theorem mRw_fr {r : Nat} {w : Row} {F : Nat → Nat → Prop} {s s' : MS} (h : Fr F s s') (a : ∀ k, ¬ F r k) (hm : mRw r w s) : mRw r w s' := fun k hk => by rw [h.2 _ _ (a k)]; exact hm k hk
theorem mAc_fr {H : List Row} {w : Row} {F : Nat → Nat → Prop} {s s' : MS} (h : Fr F s s') (a : ¬ F 24 2) (b : ∀ q, ¬ F 25 q) (d : ∀ q, ¬ F 26 q) (hm : mAc H w s) : mAc H w s' := ⟨by rw [h.2 _ _ a]; exact hm.1, fun m hm2 => by rw [h.2 _ _ (b m), h.2 _ _ (d m)]; exact hm.2 m hm2⟩
theorem mAr_fr {H : List Row} {F : Nat → Nat → Prop} {s s' : MS} (h : Fr F s s') (a : ¬ F 65 10) (b : ¬ F 65 11) (d : ∀ q, ¬ F 73 q) (hm : mAr H s) : mAr H s' := by
  obtain ⟨h1, nx, h2, h3, h4⟩ := hm
  exact ⟨by rw [h.2 _ _ a]; exact h1, nx, h2, by rw [h.2 _ _ b]; exact h3, fun m hm k hk => by rw [h.2 _ _ (d _)]; exact h4 m hm k hk⟩
theorem mSc_fr {K : Nat → Option Row} {F : Nat → Nat → Prop} {s s' : MS} (h : Fr F s s') (a : ∀ q, ¬ F 28 q) (b : ∀ r k, r = 30 ∨ r = 31 → ¬ F r k) (hm : mSc K s) : mSc K s' := fun j hj => ⟨by rw [h.2 _ _ (a _)]; exact (hm j hj).1, fun w hw k hk => by rw [h.2 _ _ (b _ _ (by omega))]; exact (hm j hj).2 w hw k hk⟩
theorem mSr_fr {K : Nat → Option Row} {F : Nat → Nat → Prop} {s s' : MS} (h : Fr F s s') (a : ∀ q, ¬ F 75 q) (b : ∀ q, ¬ F 74 q) (hm : mSr K s) : mSr K s' := fun j hj => ⟨by rw [h.2 _ _ (a _)]; exact (hm j hj).1, fun w hw k hk => by rw [h.2 _ _ (b _)]; exact (hm j hj).2 w hw k hk⟩
theorem mNow_fr {P : PC} {w : Row} {F : Nat → Nat → Prop} {s s' : MS} (h : Fr F s s') (a : ∀ r k, 35 ≤ r → r ≤ 43 → ¬ F r k) (hm : mNow P w s) : mNow P w s' := by
  obtain ⟨h1, h2, h3, h4⟩ := hm
  refine ⟨mFD_fr h (fun k => a _ _ (by omega) (by omega)) (fun k => a _ _ (by omega) (by omega)) h1, mPk_fr h (fun k _ => a _ _ (by omega) (by omega)) (fun r k _ _ => a _ _ (by omega) (by omega)) h2, ⟨by rw [h.2 _ _ (a _ _ (by omega) (by omega))]; exact h3.1, fun q hq => by rw [h.2 _ _ (a _ _ (by omega) (by omega))]; exact h3.2 q hq⟩, fun j hj => by rw [h.2 _ _ (a _ _ (by omega) (by omega))]; exact h4 j hj⟩
theorem IC_fr {A : AS} {F : Nat → Nat → Prop} {s s' : MS} (h : Fr F s s') (a : ∀ r k, (r = 3 ∧ k = 2) ∨ r = 4 ∨ (6 ≤ r ∧ r ≤ 12) ∨ r = 20 ∨ (24 ≤ r ∧ r ≤ 43) → ¬ F r k) (hm : IC A s) : IC A s' := by
  obtain ⟨h1, h2, h3, h4, h5, h6, h7⟩ := hm
  exact ⟨mTx_fr h (a _ _ (by omega)) (fun q => a _ _ (by omega)) h1, mC_fr h (a _ _ (by omega)) (fun r k _ _ => a _ _ (by omega)) h2, mRw_fr h (fun k => a _ _ (by omega)) h3, mAc_fr h (a _ _ (by omega)) (fun k => a _ _ (by omega)) (fun k => a _ _ (by omega)) h4, mSc_fr h (fun k => a _ _ (by omega)) (fun r k _ => a _ _ (by omega)) h5, mSg_fr h (a _ _ (by omega)) (fun k => a _ _ (by omega)) (fun k => a _ _ (by omega)) h6, mNow_fr h (fun r k _ _ => a _ _ (by omega)) h7⟩
theorem IR_fr {A : AS} {F : Nat → Nat → Prop} {s s' : MS} (h : Fr F s s') (a : ∀ r k, (r = 65 ∧ (k = 1 ∨ k = 2 ∨ k = 10 ∨ k = 11 ∨ k = 16)) ∨ (66 ≤ r ∧ r ≤ 71) ∨ (73 ≤ r ∧ r ≤ 77) → ¬ F r k) (hm : IR A s) : IR A s' := by
  obtain ⟨h1, h2, h3, h4, h5, h6⟩ := hm
  exact ⟨mTx_fr h (a _ _ (by omega)) (fun q => a _ _ (by omega)) h1, mR_fr h (a _ _ (by omega)) (fun r k _ _ => a _ _ (by omega)) h2, mRw_fr h (fun k => a _ _ (by omega)) h3, mAr_fr h (a _ _ (by omega)) (a _ _ (by omega)) (fun k => a _ _ (by omega)) h4, mSr_fr h (fun k => a _ _ (by omega)) (fun k => a _ _ (by omega)) h5, mSg_fr h (a _ _ (by omega)) (fun k => a _ _ (by omega)) (fun k => a _ _ (by omega)) h6⟩
abbrev Fc : Nat → Nat → Prop := fun r _ => r < 65
abbrev Ft : Nat → Nat → Prop := fun r _ => 65 ≤ r
theorem mRow_of {r : Nat} {w : Row} {s : MS} (h : mRw r w s) (ok : okRow w) : mRow r s (rB w) (rK w) (rW w) := ⟨by rw [h 16 (by omega)]; exact ok.2.1, by rw [h 17 (by omega)]; exact ok.2.2.1, by rw [h 18 (by omega)]; exact ok.2.2.2⟩
