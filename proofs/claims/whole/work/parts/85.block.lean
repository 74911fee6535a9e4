theorem sSq_IB {i : Nat} {e : PX Int32} {r : PS} {kn kb kc : LV → HV → Prop} {kr : Option Value → HV → Prop} {ls : LV} {h : HV} {scr : List Int32} {I : MS → Bool → Prop} (hc : ∀ K : Int32 → HV → Prop, (∀ s1 b, I s1 b → K (b2i b) (hp scr s1)) → e ls h K) (hi : i < ls.length) (hr : ∀ s1 b, I s1 b → r kn kb kc kr (lset ls i (.int (b2i b))) (hp scr s1)) : sSq (sI i e) r kn kb kc kr ls h := hc _ fun s1 b z => ⟨hi, hr s1 b z⟩
theorem pLet_1 {σ σ' : PSt} {c : Nat} (hl : pLet σ c = some σ') : 1 ≤ σ'.1 := by
  unfold pLet at hl
  split at hl
  · split at hl
    · cases hl; show 1 ≤ σ.1 + 1; omega
    · cases hl
  · split at hl
    · split at hl
      · cases hl
      · split at hl
        · cases hl; show 1 ≤ 5; omega
        · cases hl
    · split at hl
      · cases hl
      · cases hl
        unfold aftN
        split
        · show 1 ≤ 4; omega
        · show 1 ≤ 5; omega
theorem s_R_readText (scr : List Int32) {s : MS} {t : List Nat} (hl : t.length ≤ 80) (h256 : ∀ x, x ∈ t → x < 256) (ht : mTx 66 65 1 t s) (Q : Option Value → HV → Prop) (h : ∀ s', Fr Fp s s' → ((pRes t).1 = -9 → mRd (pRes t).2 s') → Q (some (.int (pRes t).1)) (hp scr s')) : X_R_readText [.ref 65] (hp scr s) Q := by
  have g256 : ∀ n, n < t.length → lat t n < 256 := fun n hn => h256 _ (by unfold lat; rw [List.getD_eq_getElem?_getD, List.getElem?_eq_getElem hn]; exact List.getElem_mem _)
  have nn : ∀ n : Nat, n ≤ 80 → (nI n = -9) = False := fun n hn => nI_n9 (by omega)
  have ts : ∀ s', Fr Fp s s' → mTx 66 65 1 t s' := fun s' g => mTx_fr g (by omega) (by omega) ht
  simp [X_R_readText, B_R_readText, lini, lx, Value.category]
  refine sSq_S1 (ls' := [.ref 65, .null, .null]) (scr := scr) (I := fun s1 => s1 = up s 65 43 0) ?a1 ?a2
  case a1 => intro kn hkn; simp [eV, eI, eL, eR, e1, e2, eDI, eDL, eFI, eFL, eFR, eAI, eAZ, eAR, eLen, aN, aC, xV, xS, eX, eIf, eC_b, cA, cO, cN, sSk, sSq, sI, sL, sR, sInc, sF, sFO, sAI, sAZ, sAO, sX, sXp, sIf, sCut, sSqs, sSw, sRt, sRz_g, is01_b, is01_0, is01_1, sRv, sBk, sCt, sCp, lset, lclr, lcut, lini, lx, Value.category, ixOf, b2i_0, b2i_1, T_R, U_R]; exact hkn _ rfl
  rintro s1 rfl
  refine sSq_S1 (ls' := [.ref 65, .null, .null]) (scr := scr) (I := fun s1 => s1 = up (up s 65 43 0) 65 48 1) ?a3 ?a4
  case a3 => intro kn hkn; simp [eV, eI, eL, eR, e1, e2, eDI, eDL, eFI, eFL, eFR, eAI, eAZ, eAR, eLen, aN, aC, xV, xS, eX, eIf, eC_b, cA, cO, cN, sSk, sSq, sI, sL, sR, sInc, sF, sFO, sAI, sAZ, sAO, sX, sXp, sIf, sCut, sSqs, sSw, sRt, sRz_g, is01_b, is01_0, is01_1, sRv, sBk, sCt, sCp, lset, lclr, lcut, lini, lx, Value.category, ixOf, b2i_0, b2i_1, T_R, U_R]; exact hkn _ rfl
  rintro s1 rfl
  refine sSq_S1 (ls' := [.ref 65, .null, .null]) (scr := scr) (I := fun s1 => s1 = up (up (up s 65 43 0) 65 48 1) 65 49 0) ?a5 ?a6
  case a5 => intro kn hkn; simp [eV, eI, eL, eR, e1, e2, eDI, eDL, eFI, eFL, eFR, eAI, eAZ, eAR, eLen, aN, aC, xV, xS, eX, eIf, eC_b, cA, cO, cN, sSk, sSq, sI, sL, sR, sInc, sF, sFO, sAI, sAZ, sAO, sX, sXp, sIf, sCut, sSqs, sSw, sRt, sRz_g, is01_b, is01_0, is01_1, sRv, sBk, sCt, sCp, lset, lclr, lcut, lini, lx, Value.category, ixOf, b2i_0, b2i_1, T_R, U_R]; exact hkn _ rfl
  rintro s1 rfl
  have g0 : Fr Fp s (up (up (up s 65 43 0) 65 48 1) 65 49 0) := ((Fr.rf.up _ (by omega)).up _ (by omega)).up _ (by omega)
  have M1 : mRd (1, (0, 0, 0), e0P, 0, []) (up (up (up s 65 43 0) 65 48 1) 65 49 0) := ⟨⟨by simp [up_get]; rfl, fun i hi => absurd hi (Nat.not_lt_zero i)⟩, fun q => by dsimp only at q; omega, fun q => by dsimp only at q; omega, fun q => by dsimp only at q; omega, fun _ => ⟨by simp [up_get], by simp [up_get]; rfl⟩, fun q => by dsimp only at q; omega, fun q => by dsimp only at q; omega⟩
  generalize (up (up (up s 65 43 0) 65 48 1) 65 49 0) = s0 at g0 M1 ⊢
  obtain ⟨x1, x2⟩ := ts s0 g0
  have hR0 : pGo (0, (0, 0, 0), e0P, 0, []) 0 (t.drop 0) = pRes t := rfl
  have l0 : (nI t.length = 0) = (t.length = 0) := L_eq0 (by omega)
  by_cases q0 : t.length = 0
  · rw [pGo_end (by omega)] at hR0
    have fin := h s0 g0
    rw [← hR0] at fin
    simp [eV, eI, eL, eR, e1, e2, eDI, eDL, eFI, eFL, eFR, eAI, eAZ, eAR, eLen, aN, aC, xV, xS, eX, eIf, eC_b, cA, cO, cN, sSk, sSq, sI, sL, sR, sInc, sF, sFO, sAI, sAZ, sAO, sX, sXp, sIf, sCut, sSqs, sSw, sRt, sRz_g, is01_b, is01_0, is01_1, sRv, sBk, sCt, sCp, lset, lclr, lcut, lini, lx, Value.category, ixOf, b2i_0, b2i_1, T_R, x1, l0, q0]
    exact fin (fun q => by simp at q; exact absurd q (by decide))
  · have hla : 0 < t.length := by omega
    have hc0 := g256 0 hla
    have e65 : s0.1 66 0 = nI (lat t 0) := x2 0 hla
    have l86 : (nI (lat t 0) = 86) = (lat t 0 = 86) := leq _ 86 (by omega) (by decide)
    by_cases q86 : lat t 0 = 86
    · have pl : pLet (0, (0, 0, 0), e0P, 0, []) (lat t 0) = some (1, (0, 0, 0), e0P, 0, []) := by simp [pLet, hdOk, q86, hdPut]
      rw [pGo_someL hla pl] at hR0
      refine sSqIf1 (t := false) (h' := hp scr s0) ?b1 ?b2
      case b1 =>
        intro K hK
        simp [eV, eI, eL, eR, e1, e2, eDI, eDL, eFI, eFL, eFR, eAI, eAZ, eAR, eLen, aN, aC, xV, xS, eX, eIf, eC_b, cA, cO, cN, sSk, sSq, sI, sL, sR, sInc, sF, sFO, sAI, sAZ, sAO, sX, sXp, sIf, sCut, sSqs, sSw, sRt, sRz_g, is01_b, is01_0, is01_1, sRv, sBk, sCt, sCp, lset, lclr, lcut, lini, lx, Value.category, ixOf, b2i_0, b2i_1, T_R, G_R, x1, l0, q0, show (0 : Int32).toNatClampNeg = 0 from rfl, e65, l86, q86]
        exact hK
      simp only [Bool.false_eq_true, if_false, sSk_eq]
      simp [eV, eI, eL, eR, e1, e2, eDI, eDL, eFI, eFL, eFR, eAI, eAZ, eAR, eLen, aN, aC, xV, xS, eX, eIf, eC_b, cA, cO, cN, sSk, sSq, sI, sL, sR, sInc, sF, sFO, sAI, sAZ, sAO, sX, sXp, sIf, sCut, sSqs, sSw, sRt, sRz_g, is01_b, is01_0, is01_1, sRv, sBk, sCt, sCp, lset, lclr, lcut, lini, lx, Value.category, ixOf, b2i_0, b2i_1]
      refine lp_ind (fun z ls h => ∃ k σ s', z = t.length - k ∧ k ≤ t.length ∧ 1 ≤ k ∧ 1 ≤ σ.1 ∧ gdS σ ∧ mRd σ s' ∧ pGo σ k (t.drop k) = pRes t ∧ ls = [.ref 65, .int (nI k), .null] ∧ h = hp scr s' ∧ Fr Fp s s') ?_ ⟨1, (1, (0, 0, 0), e0P, 0, []), s0, rfl, by omega, by omega, by show 1 ≤ 1; omega, pLet_gd gdS_0 pl, M1, hR0, rfl, rfl, g0⟩
      rintro z ls h' ⟨k, σ, s1, hz, hk, hk1, hσ1, hg, hM, hR, rfl, rfl, g1⟩ X hX
      obtain ⟨y1, y2⟩ := ts s1 g1
      have s5 : σ.1 ≤ 5 := by
        rcases Nat.lt_or_ge σ.1 5 with q | q
        · omega
        · have := (hg.2.2.2.2.2 q).1; omega
      refine cX (t := decide (k < t.length)) (h' := hp scr s1) ?b3 ?b4
      case b3 =>
        intro K
        simp [eV, eI, eL, eR, e1, e2, eDI, eDL, eFI, eFL, eFR, eAI, eAZ, eAR, eLen, aN, aC, xV, xS, eX, eIf, eC_b, cA, cO, cN, sSk, sSq, sI, sL, sR, sInc, sF, sFO, sAI, sAZ, sAO, sX, sXp, sIf, sCut, sSqs, sSw, sRt, sRz_g, is01_b, is01_0, is01_1, sRv, sBk, sCt, sCp, lset, lclr, lcut, lini, lx, Value.category, ixOf, b2i_0, b2i_1, T_R, y1]
        simp (disch := omega) only [LIT, L_0le, L_0lt, L_0eq, L_eq0, L_le0, L_lt0, L_1eq, L_eq1, L_1le, L_1lt, L_lt1, L_le1, L_p1, nI_ltI, nI_leI, nI_eq, nI_add, nI_clamp]
      case b4 =>
        by_cases hlk : k < t.length
        · have hc := g256 k hlk
          have e65 : s1.1 66 k = nI (lat t k) := y2 k hlk
          have ix := ix80 (show k < 80 by omega) (by decide)
          simp only [hlk, decide_true, if_true, sCut]
          refine sSq_IB (scr := scr) (I := fun s2 b => Fr Fp s1 s2 ∧ b = (pLet σ (lat t k)).isSome ∧ ∀ σ', pLet σ (lat t k) = some σ' → mRd σ' s2) ?c1 (by simp) ?c2
          case c1 =>
            intro K hK
            have hK := fun s2 b i1 i2 i3 => hK s2 b ⟨i1, i2, i3⟩
            obtain ⟨p, hh, P, kd, ps⟩ := σ
            obtain ⟨m1, m2, m3, m4, m5, m6, m7⟩ := id hM
            dsimp only at m5 m6 m7 hσ1 s5
            rcases (show (1 ≤ p ∧ p ≤ 3) ∨ p = 4 ∨ p = 5 by omega) with q | rfl | rfl
            · simp [eV, eI, eL, eR, e1, e2, eDI, eDL, eFI, eFL, eFR, eAI, eAZ, eAR, eLen, aN, aC, xV, xS, eX, eIf, eC_b, cA, cO, cN, sSk, sSq, sI, sL, sR, sInc, sF, sFO, sAI, sAZ, sAO, sX, sXp, sIf, sCut, sSqs, sSw, sRt, sRz_g, is01_b, is01_0, is01_1, sRv, sBk, sCt, sCp, lset, lclr, lcut, lini, lx, Value.category, ixOf, b2i_0, b2i_1, T_R, G_R, (m5 (by omega)).1, ix, e65]
              exact s_R_takeHead scr q.1 q.2 hM hc _ fun s2 b i1 i2 i3 => ⟨_, rfl, hK s2 b i1 i2 i3⟩
            · simp [eV, eI, eL, eR, e1, e2, eDI, eDL, eFI, eFL, eFR, eAI, eAZ, eAR, eLen, aN, aC, xV, xS, eX, eIf, eC_b, cA, cO, cN, sSk, sSq, sI, sL, sR, sInc, sF, sFO, sAI, sAZ, sAO, sX, sXp, sIf, sCut, sSqs, sSw, sRt, sRz_g, is01_b, is01_0, is01_1, sRv, sBk, sCt, sCp, lset, lclr, lcut, lini, lx, Value.category, ixOf, b2i_0, b2i_1, T_R, G_R, m6 rfl, ix, e65]
              exact s_R_takeSign scr hg.1 hM hc _ fun s2 b i1 i2 i3 => ⟨_, rfl, hK s2 b i1 i2 i3⟩
            · simp [eV, eI, eL, eR, e1, e2, eDI, eDL, eFI, eFL, eFR, eAI, eAZ, eAR, eLen, aN, aC, xV, xS, eX, eIf, eC_b, cA, cO, cN, sSk, sSq, sI, sL, sR, sInc, sF, sFO, sAI, sAZ, sAO, sX, sXp, sIf, sCut, sSqs, sSw, sRt, sRz_g, is01_b, is01_0, is01_1, sRv, sBk, sCt, sCp, lset, lclr, lcut, lini, lx, Value.category, ixOf, b2i_0, b2i_1, T_R, G_R, (m7 rfl).1, ix, e65]
              exact s_R_takeOf scr hg hM hc _ fun s2 b i1 i2 i3 => ⟨_, rfl, hK s2 b i1 i2 i3⟩
          rintro s2 b ⟨i1, i2, i3⟩
          have g2 : Fr Fp s s2 := g1.tr i1 fun _ _ z => z
          cases hpl : pLet σ (lat t k) with
          | none =>
            rw [hpl] at i2
            have i2 : b = false := i2
            subst i2
            rw [pGo_noneL hlk hpl] at hR
            have fin := h s2 g2
            rw [← hR] at fin
            simp [eV, eI, eL, eR, e1, e2, eDI, eDL, eFI, eFL, eFR, eAI, eAZ, eAR, eLen, aN, aC, xV, xS, eX, eIf, eC_b, cA, cO, cN, sSk, sSq, sI, sL, sR, sInc, sF, sFO, sAI, sAZ, sAO, sX, sXp, sIf, sCut, sSqs, sSw, sRt, sRz_g, is01_b, is01_0, is01_1, sRv, sBk, sCt, sCp, lset, lclr, lcut, lini, lx, Value.category, ixOf, b2i_0, b2i_1, b2i_f]
            exact fin (fun q => by rw [nn k (by omega)] at q; exact q.elim)
          | some σ' =>
            rw [hpl] at i2
            have i2 : b = true := i2
            subst i2
            rw [pGo_someL hlk hpl] at hR
            simp [eV, eI, eL, eR, e1, e2, eDI, eDL, eFI, eFL, eFR, eAI, eAZ, eAR, eLen, aN, aC, xV, xS, eX, eIf, eC_b, cA, cO, cN, sSk, sSq, sI, sL, sR, sInc, sF, sFO, sAI, sAZ, sAO, sX, sXp, sIf, sCut, sSqs, sSw, sRt, sRz_g, is01_b, is01_0, is01_1, sRv, sBk, sCt, sCp, lset, lclr, lcut, lini, lx, Value.category, ixOf, b2i_0, b2i_1, b2i_t, L_p1]
            exact hX _ _ _ (by rw [hz]; omega) ⟨k + 1, σ', s2, rfl, by omega, by omega, pLet_1 hpl, pLet_gd hg hpl, i3 σ' hpl, hR, rfl, rfl, g2⟩
        · have ek : k = t.length := by omega
          rw [pGo_end (by omega)] at hR
          have fin := h s1 g1
          rw [← hR] at fin
          simp only [hlk, decide_false, Bool.false_eq_true, if_false]
          obtain ⟨p, hh, P, kd, ps⟩ := σ
          obtain ⟨m1, m2, m3, m4, m5, m6, m7⟩ := id hM
          dsimp only at m5 m6 m7 hσ1 s5 fin
          rcases (show (1 ≤ p ∧ p ≤ 3) ∨ p = 4 ∨ p = 5 by omega) with q | rfl | rfl
          · have p4 : ¬ p = 4 := by omega
            rw [if_neg p4, ek] at fin
            simp [eV, eI, eL, eR, e1, e2, eDI, eDL, eFI, eFL, eFR, eAI, eAZ, eAR, eLen, aN, aC, xV, xS, eX, eIf, eC_b, cA, cO, cN, sSk, sSq, sI, sL, sR, sInc, sF, sFO, sAI, sAZ, sAO, sX, sXp, sIf, sCut, sSqs, sSw, sRt, sRz_g, is01_b, is01_0, is01_1, sRv, sBk, sCt, sCp, lset, lclr, lcut, lini, lx, Value.category, ixOf, b2i_0, b2i_1, T_R, (m5 (by omega)).1, y1]
            exact fin (fun q => by rw [nn _ hl] at q; exact q.elim)
          · simp at fin
            simp [eV, eI, eL, eR, e1, e2, eDI, eDL, eFI, eFL, eFR, eAI, eAZ, eAR, eLen, aN, aC, xV, xS, eX, eIf, eC_b, cA, cO, cN, sSk, sSq, sI, sL, sR, sInc, sF, sFO, sAI, sAZ, sAO, sX, sXp, sIf, sCut, sSqs, sSw, sRt, sRz_g, is01_b, is01_0, is01_1, sRv, sBk, sCt, sCp, lset, lclr, lcut, lini, lx, Value.category, ixOf, b2i_0, b2i_1, T_R, m6 rfl]
            exact fin hM
          · rw [if_neg (by omega), ek] at fin
            simp [eV, eI, eL, eR, e1, e2, eDI, eDL, eFI, eFL, eFR, eAI, eAZ, eAR, eLen, aN, aC, xV, xS, eX, eIf, eC_b, cA, cO, cN, sSk, sSq, sI, sL, sR, sInc, sF, sFO, sAI, sAZ, sAO, sX, sXp, sIf, sCut, sSqs, sSw, sRt, sRz_g, is01_b, is01_0, is01_1, sRv, sBk, sCt, sCp, lset, lclr, lcut, lini, lx, Value.category, ixOf, b2i_0, b2i_1, T_R, (m7 rfl).1, y1]
            exact fin (fun q => by rw [nn _ hl] at q; exact q.elim)
    · have pl : pLet (0, (0, 0, 0), e0P, 0, []) (lat t 0) = none := by simp [pLet, hdOk, q86]
      rw [pGo_noneL hla pl] at hR0
      have fin := h s0 g0
      rw [← hR0] at fin
      simp [eV, eI, eL, eR, e1, e2, eDI, eDL, eFI, eFL, eFR, eAI, eAZ, eAR, eLen, aN, aC, xV, xS, eX, eIf, eC_b, cA, cO, cN, sSk, sSq, sI, sL, sR, sInc, sF, sFO, sAI, sAZ, sAO, sX, sXp, sIf, sCut, sSqs, sSw, sRt, sRz_g, is01_b, is01_0, is01_1, sRv, sBk, sCt, sCp, lset, lclr, lcut, lini, lx, Value.category, ixOf, b2i_0, b2i_1, T_R, G_R, x1, l0, q0, show (0 : Int32).toNatClampNeg = 0 from rfl, e65, l86, q86]
      exact fin (fun q => by simp at q; exact absurd q (by decide))
def faA (A : AS) : Int32 := (pRes (aT A)).1
theorem c_fault {A : AS} (hA : okA A) (scr : List Int32) {s : MS} (h : IC A s) (Q : Option Value → HV → Prop) (hQ : ∀ s', Fr Fc s s' → IC A s' → Q (some (.int (faA A))) (hp scr s')) : X_PL_fault [.ref 2] (hp scr s) Q := by
  simp [X_PL_fault, B_PL_fault, eV, eI, eL, eR, e1, e2, eDI, eDL, eFI, eFL, eFR, eAI, eAZ, eAR, eLen, aN, aC, xV, xS, eX, eIf, eC_b, cA, cO, cN, sSk, sSq, sI, sL, sR, sInc, sF, sFO, sAI, sAZ, sAO, sX, sXp, sIf, sCut, sSqs, sSw, sRt, sRz_g, is01_b, is01_0, is01_1, sRv, sBk, sCt, sCp, lset, lclr, lcut, lini, lx, Value.category, ixOf, b2i_0, b2i_1, T_PL, T_Src]
  refine s_Src_parse (c := 13) (Or.inr rfl) scr hA.1.1 hA.1.2 h.1 _ fun s1 g1 g2 => ⟨_, rfl, hQ s1 (g1.wk fun r k z => by omega) (IC_fr g1 (by omega) h)⟩
theorem r_fault {A : AS} (hA : okA A) (scr : List Int32) {s : MS} (h : IR A s) (Q : Option Value → HV → Prop) (hQ : ∀ s', Fr Ft s s' → IR A s' → Q (some (.int (faA A))) (hp scr s')) : X_R_fault [.ref 65] (hp scr s) Q := by
  simp [X_R_fault, B_R_fault, eV, eI, eL, eR, e1, e2, eDI, eDL, eFI, eFL, eFR, eAI, eAZ, eAR, eLen, aN, aC, xV, xS, eX, eIf, eC_b, cA, cO, cN, sSk, sSq, sI, sL, sR, sInc, sF, sFO, sAI, sAZ, sAO, sX, sXp, sIf, sCut, sSqs, sSw, sRt, sRz_g, is01_b, is01_0, is01_1, sRv, sBk, sCt, sCp, lset, lclr, lcut, lini, lx, Value.category, ixOf, b2i_0, b2i_1, T_R]
  refine s_R_readText scr hA.1.1 hA.1.2 h.1 _ fun s1 g1 g2 => ⟨_, rfl, hQ s1 (g1.wk fun r k z => by omega) (IR_fr g1 (by omega) h)⟩
def row0 (h : Nat × Nat × Nat) : Row := fun k => if k < 16 then nI (k + 1) else if k = 16 then nI h.1 else if k = 17 then nI h.2.1 else nI h.2.2
def newA (A : AS) (P : PC) (h : Nat × Nat × Nat) : AS := (aT A, P, row0 h, [], fun _ => none, aS A, aX A)
def f_block (A : AS) : Int32 × AS := if (pRes (aT A)).1 = -9 then (nI (pRes (aT A)).2.2.2.1.1, newA A (pRes (aT A)).2.2.2.1 (pRes (aT A)).2.2.1) else (-3, A)
theorem okRow_0 {h : Nat × Nat × Nat} (h1 : h.1 ≤ 8) (h2 : h.2.1 ≤ 1) (h3 : h.2.2 = 2 ∨ h.2.2 = 4) : okRow (row0 h) := by
  have a : rB (row0 h) = h.1 := by simp [rB, row0]; exact nI_clamp (by omega)
  have b : rK (row0 h) = h.2.1 := by simp [rK, row0]; exact nI_clamp (by omega)
  have c : rW (row0 h) = h.2.2 := by simp [rW, row0]; exact nI_clamp (by omega)
  unfold okRow
  rw [a, b, c]
  exact ⟨⟨h1, h2, h3⟩, by simp [row0], by simp [row0], by simp [row0]⟩
theorem pRes_ok {t : List Nat} (hl : t.length ≤ 80) (h : (pRes t).1 = -9) : okP (pRes t).2.2.2.1 ∧ okRow (row0 (pRes t).2.2.1) := by
  obtain ⟨h4, g1, g2, g3, g4, g5, g6⟩ := pGo_gd t _ 0 gdS_0 (by omega) h
  exact ⟨g1, okRow_0 (g2 (by show 2 ≤ (pRes t).2.1; have : (pRes t).2.1 = 4 := h4; omega)) (g3 (by show 3 ≤ (pRes t).2.1; have : (pRes t).2.1 = 4 := h4; omega)) (g4 (by show 4 ≤ (pRes t).2.1; have : (pRes t).2.1 = 4 := h4; omega))⟩
theorem ok_block {A : AS} (hA : okA A) : okA (f_block A).2 := by
  unfold f_block
  split
  · next h =>
    obtain ⟨a, b⟩ := pRes_ok hA.1.1 h
    exact ⟨hA.1, a, b, ⟨by show 0 ≤ 14; omega, fun w hw => absurd hw List.not_mem_nil⟩, fun j w hw => (by cases hw), hA.2.2.2.2.2⟩
  · exact hA
theorem s_PL_restart (scr : List Int32) {s : MS} {h : Nat × Nat × Nat} (Q : Option Value → HV → Prop) (hQ : ∀ s', Fr (fun r k => r = 20 ∨ (r = 24 ∧ k = 2) ∨ r = 28) s s' → mRw 20 (row0 h) s' → s'.1 24 2 = 0 → (∀ j, j < 2 → s'.1 28 j = 0) → Q none (hp scr s')) : X_PL_restart [.ref 2, .int (nI h.1), .int (nI h.2.1), .int (nI h.2.2)] (hp scr s) Q := by
  simp [X_PL_restart, B_PL_restart, eV, eI, eL, eR, e1, e2, eDI, eDL, eFI, eFL, eFR, eAI, eAZ, eAR, eLen, aN, aC, xV, xS, eX, eIf, eC_b, cA, cO, cN, sSk, sSq, sI, sL, sR, sInc, sF, sFO, sAI, sAZ, sAO, sX, sXp, sIf, sCut, sSqs, sSw, sRt, sRz_g, is01_b, is01_0, is01_1, sRv, sBk, sCt, sCp, lset, lclr, lcut, lini, lx, Value.category, ixOf, b2i_0, b2i_1]
  refine lp_ind (fun z ls hh => ∃ k s', z = 16 - k ∧ k ≤ 16 ∧ ls = [.ref 2, .int (nI h.1), .int (nI h.2.1), .int (nI h.2.2), .int (nI k)] ∧ hh = hp scr s' ∧ Fr (fun r _ => r = 20) s s' ∧ ∀ b, b < k → s'.1 20 b = nI (b + 1)) ?_ ⟨0, s, rfl, by omega, rfl, rfl, Fr.rf, fun b hb => by omega⟩
  rintro z ls h' ⟨k, s1, hz, hk, rfl, rfl, g1, g2⟩ X hX
  refine cX (t := decide (k < 16)) (h' := hp scr s1) ?h1 ?h2
  case h1 =>
    intro K
    simp [eV, eI, eL, eR, e1, e2, eDI, eDL, eFI, eFL, eFR, eAI, eAZ, eAR, eLen, aN, aC, xV, xS, eX, eIf, eC_b, cA, cO, cN, sSk, sSq, sI, sL, sR, sInc, sF, sFO, sAI, sAZ, sAO, sX, sXp, sIf, sCut, sSqs, sSw, sRt, sRz_g, is01_b, is01_0, is01_1, sRv, sBk, sCt, sCp, lset, lclr, lcut, lini, lx, Value.category, ixOf, b2i_0, b2i_1]
    simp (disch := omega) only [LIT, L_0le, L_0lt, L_0eq, L_eq0, L_le0, L_lt0, L_1eq, L_eq1, L_1le, L_1lt, L_lt1, L_le1, L_p1, nI_ltI, nI_leI, nI_eq, nI_add, nI_clamp]
  case h2 =>
    by_cases hlt : k < 16
    · simp only [hlt, decide_true, if_true]
      simp [eV, eI, eL, eR, e1, e2, eDI, eDL, eFI, eFL, eFR, eAI, eAZ, eAR, eLen, aN, aC, xV, xS, eX, eIf, eC_b, cA, cO, cN, sSk, sSq, sI, sL, sR, sInc, sF, sFO, sAI, sAZ, sAO, sX, sXp, sIf, sCut, sSqs, sSw, sRt, sRz_g, is01_b, is01_0, is01_1, sRv, sBk, sCt, sCp, lset, lclr, lcut, lini, lx, Value.category, ixOf, b2i_0, b2i_1, T_PL, G_row, ix80 (show k < 19 by omega) (by decide), L_p1]
      refine hX _ _ _ (by rw [hz]; omega) ⟨k + 1, _, rfl, hlt, rfl, rfl, g1.up _ rfl, fun b hb => ?_⟩
      by_cases c : b = k
      · subst c; simp [up_get]
      · simp [up_get, c]; exact g2 b (by omega)
    · have : k = 16 := by omega
      subst this
      simp only [hlt, decide_false, Bool.false_eq_true, if_false]
      simp [eV, eI, eL, eR, e1, e2, eDI, eDL, eFI, eFL, eFR, eAI, eAZ, eAR, eLen, aN, aC, xV, xS, eX, eIf, eC_b, cA, cO, cN, sSk, sSq, sI, sL, sR, sInc, sF, sFO, sAI, sAZ, sAO, sX, sXp, sIf, sCut, sSqs, sSw, sRt, sRz_g, is01_b, is01_0, is01_1, sRv, sBk, sCt, sCp, lset, lclr, lcut, lini, lx, Value.category, ixOf, b2i_0, b2i_1, T_PL, T_Acts, U_Acts, T_Slots, G_row, show (16 : Int32).toNatClampNeg = 16 from rfl, show (17 : Int32).toNatClampNeg = 17 from rfl, show (18 : Int32).toNatClampNeg = 18 from rfl, X_Acts_clear, B_Acts_clear]
      simp [X_Slots_clear, B_Slots_clear, eV, eI, eL, eR, e1, e2, eDI, eDL, eFI, eFL, eFR, eAI, eAZ, eAR, eLen, aN, aC, xV, xS, eX, eIf, eC_b, cA, cO, cN, sSk, sSq, sI, sL, sR, sInc, sF, sFO, sAI, sAZ, sAO, sX, sXp, sIf, sCut, sSqs, sSw, sRt, sRz_g, is01_b, is01_0, is01_1, sRv, sBk, sCt, sCp, lset, lclr, lcut, lini, lx, Value.category, ixOf, b2i_0, b2i_1]
      have gg : Fr (fun r k => r = 20 ∨ (r = 24 ∧ k = 2) ∨ r = 28) s (up (up (up (up s1 20 16 (nI h.1)) 20 17 (nI h.2.1)) 20 18 (nI h.2.2)) 24 2 0) := ((((g1.wk fun r k z => by omega).up _ (by omega)).up _ (by omega)).up _ (by omega)).up _ (by omega)
      have ww : mRw 20 (row0 h) (up (up (up (up s1 20 16 (nI h.1)) 20 17 (nI h.2.1)) 20 18 (nI h.2.2)) 24 2 0) := fun k hk => by
        simp only [up_get, row0]
        by_cases a : k < 16
        · have a1 : k ≠ 16 := by omega
          have a2 : k ≠ 17 := by omega
          have a3 : k ≠ 18 := by omega
          simp [a, a1, a2, a3]; exact g2 k a
        · rcases (show k = 16 ∨ k = 17 ∨ k = 18 by omega) with rfl | rfl | rfl <;> simp
      have w23 : (up (up (up (up s1 20 16 (nI h.1)) 20 17 (nI h.2.1)) 20 18 (nI h.2.2)) 24 2 0).1 24 2 = 0 := by simp [up_get]
      generalize (up (up (up (up s1 20 16 (nI h.1)) 20 17 (nI h.2.1)) 20 18 (nI h.2.2)) 24 2 0) = s2 at gg ww w23 ⊢
      refine lp_ind (fun z ls hh => ∃ k s', z = 2 - k ∧ k ≤ 2 ∧ ls = [.ref 27, .int (nI k)] ∧ hh = hp scr s' ∧ Fr (fun r _ => r = 28) s2 s' ∧ ∀ b, b < k → s'.1 28 b = 0) ?_ ⟨0, s2, rfl, by omega, rfl, rfl, Fr.rf, fun b hb => by omega⟩
      rintro z2 ls h' ⟨k, s3, hz2, hk, rfl, rfl, f1, f2⟩ X2 hX2
      refine cX (t := decide (k < 2)) (h' := hp scr s3) ?h3 ?h4
      case h3 =>
        intro K
        simp [eV, eI, eL, eR, e1, e2, eDI, eDL, eFI, eFL, eFR, eAI, eAZ, eAR, eLen, aN, aC, xV, xS, eX, eIf, eC_b, cA, cO, cN, sSk, sSq, sI, sL, sR, sInc, sF, sFO, sAI, sAZ, sAO, sX, sXp, sIf, sCut, sSqs, sSw, sRt, sRz_g, is01_b, is01_0, is01_1, sRv, sBk, sCt, sCp, lset, lclr, lcut, lini, lx, Value.category, ixOf, b2i_0, b2i_1]
        simp (disch := omega) only [LIT, L_0le, L_0lt, L_0eq, L_eq0, L_le0, L_lt0, L_1eq, L_eq1, L_1le, L_1lt, L_lt1, L_le1, L_p1, nI_ltI, nI_leI, nI_eq, nI_add, nI_clamp]
      case h4 =>
        by_cases hlt2 : k < 2
        · simp only [hlt2, decide_true, if_true]
          simp [eV, eI, eL, eR, e1, e2, eDI, eDL, eFI, eFL, eFR, eAI, eAZ, eAR, eLen, aN, aC, xV, xS, eX, eIf, eC_b, cA, cO, cN, sSk, sSq, sI, sL, sR, sInc, sF, sFO, sAI, sAZ, sAO, sX, sXp, sIf, sCut, sSqs, sSw, sRt, sRz_g, is01_b, is01_0, is01_1, sRv, sBk, sCt, sCp, lset, lclr, lcut, lini, lx, Value.category, ixOf, b2i_0, b2i_1, T_Slots, ix80 hlt2 (by decide), Z27 scr s3, L_p1]
          refine hX2 _ _ _ (by rw [hz2]; omega) ⟨k + 1, _, rfl, hlt2, rfl, rfl, f1.up _ rfl, fun b hb => ?_⟩
          by_cases c : b = k
          · subst c; simp [up_get]
          · simp [up_get, c]; exact f2 b (by omega)
        · have : k = 2 := by omega
          subst this
          simp only [hlt2, decide_false, Bool.false_eq_true, if_false]
          exact hQ s3 (gg.tr f1 fun r k z => by omega) (mRw_fr f1 (by omega) ww) (by rw [f1.2 _ _ (by omega)]; exact w23) f2
theorem s_Src_headerDigit (scr : List Int32) {s : MS} {t : List Nat} (ht : mTx 4 3 2 t s) (h4 : 4 ≤ t.length) {h : Nat × Nat × Nat} (e1' : t.getD 1 0 = h.1 + 48) (e2' : t.getD 2 0 = h.2.1 + 48) (e3' : t.getD 3 0 = h.2.2 + 48) : (∀ Q, X_Src_headerDigit [.ref 3, .int 1] (hp scr s) Q ↔ Q (some (.int (nI h.1))) (hp scr s)) ∧ (∀ Q, X_Src_headerDigit [.ref 3, .int 2] (hp scr s) Q ↔ Q (some (.int (nI h.2.1))) (hp scr s)) ∧ (∀ Q, X_Src_headerDigit [.ref 3, .int 3] (hp scr s) Q ↔ Q (some (.int (nI h.2.2))) (hp scr s)) := by
  have d : ∀ n : Nat, nI (n + 48) - 48 = nI n := fun n => by rw [show (48 : Int32) = nI 48 from rfl, nI_sub (by omega), Nat.add_sub_cancel]
  have v1 : s.1 4 1 = nI (h.1 + 48) := by rw [ht.2 1 (by omega), e1']
  have v2 : s.1 4 2 = nI (h.2.1 + 48) := by rw [ht.2 2 (by omega), e2']
  have v3 : s.1 4 3 = nI (h.2.2 + 48) := by rw [ht.2 3 (by omega), e3']
  refine ⟨fun Q => ?_, fun Q => ?_, fun Q => ?_⟩
  · simp [X_Src_headerDigit, B_Src_headerDigit, eV, eI, eL, eR, e1, e2, eDI, eDL, eFI, eFL, eFR, eAI, eAZ, eAR, eLen, aN, aC, xV, xS, eX, eIf, eC_b, cA, cO, cN, sSk, sSq, sI, sL, sR, sInc, sF, sFO, sAI, sAZ, sAO, sX, sXp, sIf, sCut, sSqs, sSw, sRt, sRz_g, is01_b, is01_0, is01_1, sRv, sBk, sCt, sCp, lset, lclr, lcut, lini, lx, Value.category, ixOf, b2i_0, b2i_1, T_Src, G_Src, show (1 : Int32) &&& 3 = 1 from by decide, show (1 : Int32).toNatClampNeg = 1 from rfl, v1, d]
  · simp [X_Src_headerDigit, B_Src_headerDigit, eV, eI, eL, eR, e1, e2, eDI, eDL, eFI, eFL, eFR, eAI, eAZ, eAR, eLen, aN, aC, xV, xS, eX, eIf, eC_b, cA, cO, cN, sSk, sSq, sI, sL, sR, sInc, sF, sFO, sAI, sAZ, sAO, sX, sXp, sIf, sCut, sSqs, sSw, sRt, sRz_g, is01_b, is01_0, is01_1, sRv, sBk, sCt, sCp, lset, lclr, lcut, lini, lx, Value.category, ixOf, b2i_0, b2i_1, T_Src, G_Src, show (2 : Int32) &&& 3 = 2 from by decide, show (2 : Int32).toNatClampNeg = 2 from rfl, v2, d]
  · simp [X_Src_headerDigit, B_Src_headerDigit, eV, eI, eL, eR, e1, e2, eDI, eDL, eFI, eFL, eFR, eAI, eAZ, eAR, eLen, aN, aC, xV, xS, eX, eIf, eC_b, cA, cO, cN, sSk, sSq, sI, sL, sR, sInc, sF, sFO, sAI, sAZ, sAO, sX, sXp, sIf, sCut, sSqs, sSw, sRt, sRz_g, is01_b, is01_0, is01_1, sRv, sBk, sCt, sCp, lset, lclr, lcut, lini, lx, Value.category, ixOf, b2i_0, b2i_1, T_Src, G_Src, show (3 : Int32) &&& 3 = 3 from by decide, show (3 : Int32).toNatClampNeg = 3 from rfl, v3, d]
theorem c_block {A : AS} (hA : okA A) (scr : List Int32) {s : MS} (h : IC A s) (Q : Option Value → HV → Prop) (hQ : ∀ s', Fr Fc s s' → IC (f_block A).2 s' → Q (some (.int (f_block A).1)) (hp scr s')) : X_PL_block [.ref 2] (hp scr s) Q := by
  unfold f_block at hQ
  simp [X_PL_block, B_PL_block, lini, lx, Value.category]
  refine sSqIf2 (scr := scr) (t := decide (¬ (pRes (aT A)).1 = -9)) (I := fun s1 => Fr (Fpa 13) s s1) ?h1 ?h2
  case h1 =>
    intro K hK
    simp [eV, eI, eL, eR, e1, e2, eDI, eDL, eFI, eFL, eFR, eAI, eAZ, eAR, eLen, aN, aC, xV, xS, eX, eIf, eC_b, cA, cO, cN, sSk, sSq, sI, sL, sR, sInc, sF, sFO, sAI, sAZ, sAO, sX, sXp, sIf, sCut, sSqs, sSw, sRt, sRz_g, is01_b, is01_0, is01_1, sRv, sBk, sCt, sCp, lset, lclr, lcut, lini, lx, Value.category, ixOf, b2i_0, b2i_1, T_PL, T_Src]
    refine s_Src_parse (c := 13) (Or.inr rfl) scr hA.1.1 hA.1.2 h.1 _ fun s1 g1 g2 => ⟨_, rfl, ?_⟩
    have := hK s1 g1
    simpa using this
  intro s1 g1
  have c1 : IC A s1 := IC_fr g1 (by omega) h
  by_cases q : (pRes (aT A)).1 = -9
  · rw [if_pos q] at hQ
    obtain ⟨p1, p2⟩ := pRes_ok hA.1.1 q
    obtain ⟨d0, d1, d2, d3⟩ := pRes_hd hA.1.1 q
    simp only [q, not_true, decide_false, Bool.false_eq_true, if_false, sSk_eq]
    simp [eV, eI, eL, eR, e1, e2, eDI, eDL, eFI, eFL, eFR, eAI, eAZ, eAR, eLen, aN, aC, xV, xS, eX, eIf, eC_b, cA, cO, cN, sSk, sSq, sI, sL, sR, sInc, sF, sFO, sAI, sAZ, sAO, sX, sXp, sIf, sCut, sSqs, sSw, sRt, sRz_g, is01_b, is01_0, is01_1, sRv, sBk, sCt, sCp, lset, lclr, lcut, lini, lx, Value.category, ixOf, b2i_0, b2i_1, T_PL, T_Src, T_Code c6]
    refine s_Src_parse (c := 6) (Or.inl rfl) scr hA.1.1 hA.1.2 c1.1 _ fun s2 f1 f2 => ⟨⟨_, rfl⟩, ?_⟩
    have m2 := f2 q
    have t2 : mTx 4 3 2 (aT A) s2 := mTx_fr f1 (by omega) (by omega) c1.1
    obtain ⟨k1, k2, k3⟩ := s_Src_headerDigit scr t2 d0 d1 d2 d3
    simp [T_PL, T_Src, k1, k2, k3]
    refine s_PL_restart scr (h := (pRes (aT A)).2.2.1) _ fun s3 r1 r2 r3 r4 => ⟨rfl, ?_⟩
    have m3 : mC (pRes (aT A)).2.2.2.1 6 s3 := mC_fr r1 (by omega) (by omega) m2
    simp [T_PL, T34]
    refine t_choose scr p1 m3 p2 r2 _ fun s4 z1 z2 => ⟨rfl, ?_⟩
    have m4 : mC (pRes (aT A)).2.2.2.1 6 s4 := mC_fr z1 (by omega) (by omega) m3
    simp [T_PL, T_Code c6, m4.1]
    have gg : Fr (fun r k => r = 5 ∨ (6 ≤ r ∧ r ≤ 19) ∨ r = 20 ∨ (r = 24 ∧ k = 2) ∨ r = 28 ∨ (35 ≤ r ∧ r ≤ 47)) s s4 := ((g1.wk fun r k z => by omega).tr (f1.wk fun r k z => by omega) fun _ _ z => z).tr ((r1.wk fun r k z => by omega).tr (z1.wk fun r k z => by omega) fun _ _ z => z) fun _ _ z => z
    obtain ⟨i1, i2, i3, i4, i5, i6, i7⟩ := h
    exact hQ s4 (gg.wk fun r k z => by omega) ⟨mTx_fr gg (by omega) (by omega) i1, m4, mRw_fr z1 (by omega) r2, ⟨by rw [z1.2 _ _ (by omega)]; exact r3, fun m hm => absurd hm (Nat.not_lt_zero m)⟩, fun j hj => ⟨by rw [z1.2 _ _ (by omega)]; exact r4 j hj, fun w hw => by cases hw⟩, mSg_fr gg (by omega) (by omega) (by omega) i6, z2⟩
  · rw [if_neg q] at hQ
    simp [eV, eI, eL, eR, e1, e2, eDI, eDL, eFI, eFL, eFR, eAI, eAZ, eAR, eLen, aN, aC, xV, xS, eX, eIf, eC_b, cA, cO, cN, sSk, sSq, sI, sL, sR, sInc, sF, sFO, sAI, sAZ, sAO, sX, sXp, sIf, sCut, sSqs, sSw, sRt, sRz_g, is01_b, is01_0, is01_1, sRv, sBk, sCt, sCp, lset, lclr, lcut, lini, lx, Value.category, ixOf, b2i_0, b2i_1, q]
    exact hQ s1 (g1.wk fun r k z => by omega) c1
