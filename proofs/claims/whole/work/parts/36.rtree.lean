theorem nI_n9 {p : Nat} (hp : p < 2 ^ 31) : (nI p = -9) = False := by
  apply eq_false
  intro h
  have := nI_pos' hp
  rw [h] at this
  exact absurd this (by decide)
def mTR (P : PC) (w : Nat) (kp : Nat → Bool) (T : TS) (s : MS) : Prop :=
  s.1 65 19 = nI w ∧ (∀ i, i < P.1 → (s.1 80 i = -9) = (kp i = false)) ∧ s.1 65 29 = nI T.1.length ∧ s.1 65 32 = mS T.2.2.1 ∧ s.1 65 33 = nI T.2.2.2 ∧ s.1 65 31 = nI (T.2.1.length + 1) ∧ (∀ q, q < T.2.1.length → mB w (4 * (q + 1)) (T.2.1.getD q []) s) ∧
  (∀ i, i < P.1 → T.1.flatten.contains i = false → s.1 82 i = -9) ∧ ∀ p, p < T.1.length → ∀ k, k < w → s.1 82 (ln (T.1.getD p []) k) = nI p ∧ s.1 83 (ln (T.1.getD p []) k) = nI k
abbrev FR : Nat → Nat → Prop := fun r k => r = 82 ∨ r = 83 ∨ r = 84 ∨ (r = 65 ∧ (k = 29 ∨ k = 31 ∨ k = 32 ∨ k = 33))
theorem in_flat {P : PC} {w : Nat} {L : List (List Nat)} (hP : okP P) (hA : ∀ B, B ∈ L → wfP P w B) {i : Nat} : L.flatten.contains i = true ↔ ∃ p k, p < L.length ∧ k < w ∧ ln (L.getD p []) k = i := by
  rw [List.contains_iff_mem, List.mem_flatten]
  constructor
  · rintro ⟨B, hB, hi⟩
    obtain ⟨p, hp, e⟩ := List.getElem_of_mem hB
    obtain ⟨k, hk, e2⟩ := (mem_ln (wfP_B hP (hA B hB))).mp hi
    refine ⟨p, k, hp, hk, ?_⟩
    rw [List.getD_eq_getElem?_getD, List.getElem?_eq_getElem hp]
    show ln L[p] k = i
    rw [e, e2]
  · rintro ⟨p, k, hp, hk, rfl⟩
    exact ⟨_, getD_mem hp, ln_mem (wfP_B hP (hA _ (getD_mem hp))) hk⟩
theorem tr_none {P : PC} {w n : Nat} {kp : Nat → Bool} {T : TS} {s : MS} (hP : okP P) (hw : w = 2 ∨ w = 4) (ho : okT P w T n) (hT : mTR P w kp T s) {i : Nat} (hi : i < P.1) : (s.1 82 i = -9) = (T.1.flatten.contains i = false) := by
  cases hc : T.1.flatten.contains i with
  | false =>
    apply propext
    exact ⟨fun _ => rfl, fun _ => hT.2.2.2.2.2.2.2.1 i hi hc⟩
  | true =>
    obtain ⟨p, k, hp, hk, rfl⟩ := (in_flat hP ho.1).mp hc
    rw [(hT.2.2.2.2.2.2.2.2 p hp k hk).1, nI_n9 (by have := okT_8 hP hw ho; omega)]
    simp
theorem s_R_isFree {P : PC} (scr : List Int32) {s : MS} (hP : okP P) {w n : Nat} (hw : w = 2 ∨ w = 4) {kp : Nat → Bool} {T : TS} (ho : okT P w T n) (hT : mTR P w kp T s) {B : List Nat} (hB : wfP P w B) {a : Nat} (ha : a + 4 ≤ 80) (hBm : mB w a B s) (Q : Option Value → HV → Prop)
    (h : Q (some (.int (b2i (bFree kp T w B)))) (hp scr s)) : X_R_isFree [.ref 65, .int (nI a)] (hp scr s) Q := by
  have h16 := hP.1
  have t1 := hT.1
  unfold bFree at h
  generalize hF : (fun k => !kp (ln B k) && !T.1.flatten.contains (ln B k)) = F at h
  simp [X_R_isFree, B_R_isFree, eV, eI, eL, eR, e1, e2, eDI, eDL, eFI, eFL, eFR, eAI, eAZ, eAR, eLen, aN, aC, xV, xS, eX, eIf, eC_b, cA, cO, cN, sSk, sSq, sI, sL, sR, sInc, sF, sFO, sAI, sAZ, sAO, sX, sXp, sIf, sCut, sSqs, sSw, sRt, sRz_g, is01_b, is01_0, is01_1, sRv, sBk, sCt, sCp, lset, lclr, lcut, lini, lx, Value.category, ixOf, b2i_0, b2i_1]
  refine lp_ind (fun z ls h => ∃ k, z = w - k ∧ k ≤ w ∧ ls = [.ref 65, .int (nI a), .int (b2i (allB F k)), .int (nI k)] ∧ h = hp scr s) ?_ ⟨0, rfl, by omega, rfl, rfl⟩
  rintro z ls h' ⟨k, hz, hk, rfl, rfl⟩ X hX
  refine cX (t := decide (k < w)) (h' := hp scr s) ?h1 ?h2
  case h1 =>
    intro K
    simp [eV, eI, eL, eR, e1, e2, eDI, eDL, eFI, eFL, eFR, eAI, eAZ, eAR, eLen, aN, aC, xV, xS, eX, eIf, eC_b, cA, cO, cN, sSk, sSq, sI, sL, sR, sInc, sF, sFO, sAI, sAZ, sAO, sX, sXp, sIf, sCut, sSqs, sSw, sRt, sRz_g, is01_b, is01_0, is01_1, sRv, sBk, sCt, sCp, lset, lclr, lcut, lini, lx, Value.category, ixOf, b2i_0, b2i_1, T_R, t1]
    simp (disch := omega) only [LIT, L_0le, L_0lt, L_0eq, L_eq0, L_le0, L_lt0, L_1eq, L_eq1, L_1le, L_1lt, L_lt1, L_le1, L_p1, nI_ltI, nI_leI, nI_eq, nI_add, nI_clamp]
  case h2 =>
    by_cases hlt : k < w
    · have Lk := wfP_ln hB hlt
      have go := fun (x : Bool) (hx : allB F (k + 1) = x) => hX (w - (k + 1)) [.ref 65, .int (nI a), .int (b2i x), .int (nI (k + 1))] (hp scr s) (by rw [hz]; omega) ⟨k + 1, rfl, hlt, by rw [hx], rfl⟩
      rw [allB] at go
      have n1 := hT.2.1 _ Lk
      have n2 := tr_none hP hw ho hT Lk
      have n3 : F k = (!kp (ln B k) && !T.1.flatten.contains (ln B k)) := by rw [← hF]
      generalize T.1.flatten.contains (ln B k) = c at n2 n3
      generalize allB F k = u at go ⊢
      simp only [hlt, decide_true, if_true]
      simp [eV, eI, eL, eR, e1, e2, eDI, eDL, eFI, eFL, eFR, eAI, eAZ, eAR, eLen, aN, aC, xV, xS, eX, eIf, eC_b, cA, cO, cN, sSk, sSq, sI, sL, sR, sInc, sF, sFO, sAI, sAZ, sAO, sX, sXp, sIf, sCut, sSqs, sSw, sRt, sRz_g, is01_b, is01_0, is01_1, sRv, sBk, sCt, sCp, lset, lclr, lcut, lini, lx, Value.category, ixOf, b2i_0, b2i_1, hBm k hlt, G_R, T_R, ix80 (show a + k < 80 by omega) (by decide), ixf hP.1 Lk, nI_pos', n1, n2, nI_add, L_p1]
      rw [n3] at go
      cases u <;> cases h1 : kp (ln B k) <;> cases c <;> simp [h1] at go ⊢ <;> exact go
    · have : k = w := by omega
      subst this
      simp only [hlt, decide_false, Bool.false_eq_true, if_false]
      simp [eV, eI, eL, eR, e1, e2, eDI, eDL, eFI, eFL, eFR, eAI, eAZ, eAR, eLen, aN, aC, xV, xS, eX, eIf, eC_b, cA, cO, cN, sSk, sSq, sI, sL, sR, sInc, sF, sFO, sAI, sAZ, sAO, sX, sXp, sIf, sCut, sSqs, sSw, sRt, sRz_g, is01_b, is01_0, is01_1, sRv, sBk, sCt, sCp, lset, lclr, lcut, lini, lx, Value.category, ixOf, b2i_0, b2i_1]
      exact h
