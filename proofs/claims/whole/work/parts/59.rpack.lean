theorem NR_ap2 {P : PC} {w c : Nat} {K T : List (List Nat)} {s s' : MS} (hP : okP P) (hA : ∀ B, B ∈ K → wfP P w B) (h : NR P w c K s) (h1 : ∀ i, i < P.1 → T.flatten.contains i = false → s'.1 c i = s.1 c i) (h2 : ∀ q, q < T.length → ∀ k, k < w → s'.1 c (ln (T.getD q []) k) = nI (K.length + q)) (hd : ∀ x, K.flatten.contains x = true → T.flatten.contains x = false) : NR P w c (K ++ T) s' := by
  refine ⟨fun i hi hc => ?_, fun p hp k hk => ?_⟩
  · rw [fl_ap, Bool.or_eq_false_iff] at hc
    rw [h1 i hi hc.2]
    exact h.1 i hi hc.1
  · rw [getD_ap]
    split
    · next q =>
      rw [h1 _ (wfP_ln (hA _ (getD_mem q)) hk) (hd _ ((in_flat hP hA).mpr ⟨p, k, q, hk, rfl⟩))]
      exact h.2 p q k hk
    · next q =>
      simp only [List.length_append] at hp
      have := h2 (p - K.length) (by omega) k hk
      rw [this]
      congr 1
      omega
theorem LR_ap2 {P : PC} {w c : Nat} {K T : List (List Nat)} {s s' : MS} (hP : okP P) (hA : ∀ B, B ∈ K → wfP P w B) (h : LR P w c K s) (h1 : ∀ i, i < P.1 → T.flatten.contains i = false → s'.1 c i = s.1 c i) (h2 : ∀ q, q < T.length → ∀ k, k < w → s'.1 c (ln (T.getD q []) k) = nI k) (hd : ∀ x, K.flatten.contains x = true → T.flatten.contains x = false) : LR P w c (K ++ T) s' := by
  refine ⟨fun i hi hc => ?_, fun p hp k hk => ?_⟩
  · rw [fl_ap, Bool.or_eq_false_iff] at hc
    rw [h1 i hi hc.2]
    exact h.1 i hi hc.1
  · rw [getD_ap]
    split
    · next q =>
      rw [h1 _ (wfP_ln (hA _ (getD_mem q)) hk) (hd _ ((in_flat hP hA).mpr ⟨p, k, q, hk, rfl⟩))]
      exact h.2 p q k hk
    · next q =>
      simp only [List.length_append] at hp
      exact h2 (p - K.length) (by omega) k hk
theorem NR_no {P : PC} {w c : Nat} {L : List (List Nat)} {s : MS} (hP : okP P) (hA : ∀ B, B ∈ L → wfP P w B) (hl : L.length ≤ 100) (h : NR P w c L s) {i : Nat} (hi : i < P.1) : (s.1 c i = -9) = (kpf L i = false) := by
  unfold kpf
  cases hc : L.flatten.contains i with
  | false => exact propext ⟨fun _ => rfl, fun _ => h.1 i hi hc⟩
  | true =>
    obtain ⟨p, k, hp, hk, rfl⟩ := (in_flat hP hA).mp hc
    rw [h.2 p hp k hk, nI_n9 (by omega)]
    simp
theorem LR_fr {P : PC} {w c : Nat} {L : List (List Nat)} {F : Nat → Nat → Prop} {s s' : MS} (h : Fr F s s') (a : ∀ k, ¬ F c k) (hm : LR P w c L s) : LR P w c L s' := ⟨fun i hi hc => by rw [h.2 _ _ (a _)]; exact hm.1 i hi hc, fun p hp k hk => by rw [h.2 _ _ (a _)]; exact hm.2 p hp k hk⟩
/-- what the reference holds of what is kept -/
def mPR (P : PC) (w : Nat) (C : CS) (s : MS) : Prop := s.1 65 19 = nI w ∧ s.1 65 24 = nI C.1.length ∧ s.1 65 25 = nI C.2.1 ∧ s.1 65 26 = C.2.2 ∧ NR P w 80 C.1 s ∧ LR P w 81 C.1 s
theorem mPR_fr {P : PC} {w : Nat} {C : CS} {F : Nat → Nat → Prop} {s s' : MS} (h : Fr F s s') (a : ∀ k, (k = 19 ∨ k = 24 ∨ k = 25 ∨ k = 26) → ¬ F 65 k) (c : ∀ r k, r = 80 ∨ r = 81 → ¬ F r k) (hm : mPR P w C s) : mPR P w C s' := by
  obtain ⟨h1, h2, h3, h4, h5, h6⟩ := hm
  exact ⟨by rw [h.2 _ _ (a _ (by omega))]; exact h1, by rw [h.2 _ _ (a _ (by omega))]; exact h2, by rw [h.2 _ _ (a _ (by omega))]; exact h3, by rw [h.2 _ _ (a _ (by omega))]; exact h4, NR_fr h (fun k => c _ _ (by omega)) h5, LR_fr h (fun k => c _ _ (by omega)) h6⟩
theorem cIf2 {c : PX Bool} {a b : PS} {kn kb kc : LV → HV → Prop} {kr : Option Value → HV → Prop} {ls : LV} {h : HV} {t : Bool} {scr : List Int32} {I : MS → Prop} (hc : ∀ K : Bool → HV → Prop, (∀ s1, I s1 → K t (hp scr s1)) → c ls h K) (hr : ∀ s1, I s1 → if t then a kn kb kc kr ls (hp scr s1) else b kn kb kc kr ls (hp scr s1)) : sIf c a b kn kb kc kr ls h := hc _ hr
abbrev FQ : Nat → Nat → Prop := fun r k => (78 ≤ r ∧ r ≤ 85) ∨ (r = 65 ∧ ((18 ≤ k ∧ k ≤ 19) ∨ (24 ≤ k ∧ k ≤ 33)))
theorem nI_dm : ∀ w : Nat, w = 2 ∨ w = 4 → ∀ k, k < 14 → nI k / nI (9 - w) = nI (k / (9 - w)) ∧ nI k - nI (k / (9 - w)) * nI (9 - w) = nI (k % (9 - w)) := by
  rintro w (rfl | rfl)
  · decide +kernel
  · decide +kernel
theorem s_R_pack {P : PC} (scr : List Int32) {s : MS} (hP : okP P) (hm : mR P s) {r : Nat} (hr : r = 71 ∨ r = 72) {base known w : Nat} (hw : mRow r s base known w) (hs : okS base known w) {om : Int32} {out : Nat → Bool} (ho : mk om out) (ho6 : ∀ i, i < P.1 → out i = true → pK P i = 6) (Q : Option Value → HV → Prop)
    (h : ∀ s', Fr FQ s s' → mFD (pFol P base known out) 78 79 P.1 s' → mPR P w (cAt P (pFol P base known out) out w (2 * (9 - w))) s' → (∀ j, j < P.1 → (sFin P (gF (pFol P base known out)) (cAt P (pFol P base known out) out w (2 * (9 - w))).1 fun _ => false).1 j = true → s'.1 85 j = nI ((sFin P (gF (pFol P base known out)) (cAt P (pFol P base known out) out w (2 * (9 - w))).1 fun _ => false).2.2.1 j)) → Q none (hp scr s')) : X_R_pack [.ref 65, .ref r, .int om] (hp scr s) Q := by
  have h16 := hP.1
  have ww := hs.2.2
  have r1 : r ≠ 1 := by omega
  simp [X_R_pack, B_R_pack, eV, eI, eL, eR, e1, e2, eDI, eDL, eFI, eFL, eFR, eAI, eAZ, eAR, eLen, aN, aC, xV, xS, eX, eIf, eC_b, cA, cO, cN, sSk, sSq, sI, sL, sR, sInc, sF, sFO, sAI, sAZ, sAO, sX, sXp, sIf, sCut, sSqs, sSw, sRt, sRz_g, is01_b, is01_0, is01_1, sRv, sBk, sCt, sCp, lset, lclr, lcut, lini, lx, Value.category, ixOf, b2i_0, b2i_1, T_R, r1]
  refine s_R_nothingKept scr hP hm hr hw hs (out := out) (fun k hk => ho k (by omega)) _ fun s1 g1 g2 g3 g4 g5 g6 g7 g8 => ⟨rfl, ?_⟩
  generalize hfd : pFol P base known out = f at *
  have st : ∀ s', Fr (fun r k => (80 ≤ r ∧ r ≤ 85) ∨ (r = 65 ∧ 24 ≤ k ∧ k ≤ 33)) s1 s' → mR P s' ∧ mFD f 78 79 P.1 s' ∧ mk (s'.1 65 18) out := fun s' q => ⟨mR_fr q (by omega) (by omega) (mR_fr g1 (by omega) (by omega) hm), mFD_fr q (by omega) (by omega) g4, by rw [q.2 _ _ (by omega), g2]; exact ho⟩
  refine lp_ind (fun z ls h => ∃ n s', z = 2 * (9 - w) - n ∧ n ≤ 2 * (9 - w) ∧ ls = [.ref 65, .ref r, .int om, .int (nI n), .null] ∧ h = hp scr s' ∧ Fr (fun r k => (80 ≤ r ∧ r ≤ 85) ∨ (r = 65 ∧ 24 ≤ k ∧ k ≤ 33)) s1 s' ∧ mPR P w (cAt P f out w n) s' ∧ NR P w 82 [] s') ?_ ⟨0, s1, rfl, by omega, rfl, rfl, Fr.rf, ⟨g3, g5, g6, g7, ⟨fun i hi _ => (g8 i hi).1, fun p hp => by simp [cAt] at hp⟩, ⟨fun i hi _ => (g8 i hi).2.1, fun p hp => by simp [cAt] at hp⟩⟩, ⟨fun i hi _ => (g8 i hi).2.2, fun p hp => by simp at hp⟩⟩
  rintro z ls h' ⟨n, s2, hz, hn, rfl, rfl, f1, f2, f3⟩ X hX
  obtain ⟨m2, d2, o2⟩ := st s2 f1
  have e19 : s2.1 65 19 = nI w := f2.1
  have w9 : (9 : Int32) - nI w = nI (9 - w) := by rw [show (9 : Int32) = nI 9 from rfl, nI_sub (by omega)]
  have ok := (cAt_ok (f := f) hP ww ho6 n).1
  have k8 := okC_8 hP ww ok
  refine cX (t := decide (n < 2 * (9 - w))) (h' := hp scr s2) ?h1 ?h2
  case h1 =>
    intro K
    have x2' : (2 : Int32) * nI (9 - w) = nI (2 * (9 - w)) := nI_mul 2 (9 - w)
    have e3 : (nI n < nI (2 * (9 - w))) = (n < 2 * (9 - w)) := propext (nI_ltI (by omega) (by omega))
    simp [eV, eI, eL, eR, e1, e2, eDI, eDL, eFI, eFL, eFR, eAI, eAZ, eAR, eLen, aN, aC, xV, xS, eX, eIf, eC_b, cA, cO, cN, sSk, sSq, sI, sL, sR, sInc, sF, sFO, sAI, sAZ, sAO, sX, sXp, sIf, sCut, sSqs, sSw, sRt, sRz_g, is01_b, is01_0, is01_1, sRv, sBk, sCt, sCp, lset, lclr, lcut, lini, lx, Value.category, ixOf, b2i_0, b2i_1, T_R, e19, w9, x2', e3]
  case h2 =>
    by_cases hlt : n < 2 * (9 - w)
    · obtain ⟨dv, md⟩ := nI_dm w ww n (by omega)
      have y0 : (nI (9 - w) = 0) = False := by rw [L_eq0 (by omega)]; simp; omega
      have eC : cAt P f out w (n + 1) = cStep P f out w (cAt P f out w n) (n / (9 - w)) (n % (9 - w)) := rfl
      have hrw : n / (9 - w) < 2 := by rw [Nat.div_lt_iff_lt_mul (by omega)]; exact hlt
      have hcl : n % (9 - w) ≤ 8 := by
        have := Nat.mod_lt n (show 9 - w > 0 by omega)
        omega
      generalize n / (9 - w) = rw_ at *
      generalize n % (9 - w) = cl at *
      generalize cAt P f out w n = C at *
      have no : ∀ i, i < P.1 → (s2.1 80 i = -9) = (kpf C.1 i = false) := fun i hi => NR_no hP ok.1 (by omega) f2.2.2.2.2.1 hi
      simp only [hlt, decide_true, if_true]
      refine sSq_S1 (ls' := [.ref 65, .ref r, .int om, .int (nI n), .null]) (I := fun s3 => Fr (fun r k => (80 ≤ r ∧ r ≤ 85) ∨ (r = 65 ∧ 24 ≤ k ∧ k ≤ 33)) s1 s3 ∧ mPR P w (cAt P f out w (n + 1)) s3) (scr := scr) ?h3 ?h4
      case h4 =>
        rintro s3 ⟨k1, k2⟩
        obtain ⟨m3, d3, o3⟩ := st s3 k1
        simp [eV, eI, eL, eR, e1, e2, eDI, eDL, eFI, eFL, eFR, eAI, eAZ, eAR, eLen, aN, aC, xV, xS, eX, eIf, eC_b, cA, cO, cN, sSk, sSq, sI, sL, sR, sInc, sF, sFO, sAI, sAZ, sAO, sX, sXp, sIf, sCut, sSqs, sSw, sRt, sRz_g, is01_b, is01_0, is01_1, sRv, sBk, sCt, sCp, lset, lclr, lcut, lini, lx, Value.category, ixOf, b2i_0, b2i_1, T_R]
        refine s_R_noTree scr hP m3 _ fun s4 t1 t2 => ⟨rfl, ?_⟩
        simp [L_p1]
        exact hX _ _ _ (by rw [hz]; omega) ⟨n + 1, s4, rfl, hlt, rfl, rfl, k1.tr t1 fun r k z => by omega, mPR_fr t1 (by omega) (by omega) k2, ⟨fun i hi _ => t2 i hi, fun p hp => by simp at hp⟩⟩
      case h3 =>
        intro kn hkn
        rw [eC] at hkn
        refine cIf2 (scr := scr) (t := rtOk P (pDep f) out (kpf C.1) w rw_ cl) (I := fun s3 => Fr (fun r _ => r = 84) s2 s3 ∧ mB w 0 (rtB P out (kpf C.1) w rw_ cl) s3) ?h5 ?h6
        case h5 =>
          intro K hK
          simp [eV, eI, eL, eR, e1, e2, eDI, eDL, eFI, eFL, eFR, eAI, eAZ, eAR, eLen, aN, aC, xV, xS, eX, eIf, eC_b, cA, cO, cN, sSk, sSq, sI, sL, sR, sInc, sF, sFO, sAI, sAZ, sAO, sX, sXp, sIf, sCut, sSqs, sSw, sRt, sRz_g, is01_b, is01_0, is01_1, sRv, sBk, sCt, sCp, lset, lclr, lcut, lini, lx, Value.category, ixOf, b2i_0, b2i_1, T_R, e19, w9, y0, dv, md]
          refine s_R_laySeed scr hP m2 d2 (fun k hk => o2 k (by omega)) no ww e19 hrw hcl _ fun s3 l1 l2 => ⟨_, rfl, ?_⟩
          simp only [b2i_0]
          have := hK s3 ⟨l1, l2⟩
          generalize rtOk P (pDep f) out (kpf C.1) w rw_ cl = v at this ⊢
          cases v <;> simpa using this
        case h6 =>
          rintro s3 ⟨l1, l2⟩
          have l3 : Fr (fun r k => (80 ≤ r ∧ r ≤ 85) ∨ (r = 65 ∧ 24 ≤ k ∧ k ≤ 33)) s1 s3 := f1.tr l1 fun r k z => by omega
          obtain ⟨m3, d3, o3⟩ := st s3 l3
          have p3 := mPR_fr l1 (by omega) (by omega) f2
          cases hrt : rtOk P (pDep f) out (kpf C.1) w rw_ cl with
          | false =>
            simp only [Bool.false_eq_true, if_false, sSk_eq]
            refine hkn s3 ⟨l3, ?_⟩
            unfold cStep
            rw [hrt]
            exact p3
          | true =>
            obtain ⟨a1, a2, a3⟩ := rt_nd hP hrt
            obtain ⟨tok, tfr⟩ := cTree_ok hP ww ho6 hrt
            have okK2 := cStep_ok hP ww ho6 hrt ok
            have l8 := (okT_8 hP ww tok).1
            have hd : ∀ x, C.1.flatten.contains x = true → (cTree P f out w C.1 rw_ cl).1.flatten.contains x = false := by
              intro x hx
              rw [Bool.eq_false_iff]
              intro q
              have := (tfr x (by simpa using q)).1
              unfold kpf at this
              rw [hx] at this
              simp at this
            have no3 : ∀ i, i < P.1 → (s3.1 80 i = -9) = (kpf C.1 i = false) := fun i hi => by rw [l1.2 _ _ (by omega)]; exact no i hi
            unfold cStep at hkn
            rw [if_pos hrt] at hkn
            have hTd : cTree P f out w C.1 rw_ cl = tEnd P (pDep f) (kpf C.1) w (rtB P out (kpf C.1) w rw_ cl) := rfl
            simp only [if_true, sCut]
            refine sSq_S1 (ls' := [.ref 65, .ref r, .int om, .int (nI n), .null]) (I := fun s4 => Fr FR s3 s4 ∧ mTR P w (kpf C.1) (cTree P f out w C.1 rw_ cl) s4) (scr := scr) ?h7 ?h8
            case h7 =>
              intro kn2 hkn2
              simp [eV, eI, eL, eR, e1, e2, eDI, eDL, eFI, eFL, eFR, eAI, eAZ, eAR, eLen, aN, aC, xV, xS, eX, eIf, eC_b, cA, cO, cN, sSk, sSq, sI, sL, sR, sInc, sF, sFO, sAI, sAZ, sAO, sX, sXp, sIf, sCut, sSqs, sSw, sRt, sRz_g, is01_b, is01_0, is01_1, sRv, sBk, sCt, sCp, lset, lclr, lcut, lini, lx, Value.category, ixOf, b2i_0, b2i_1, T_R]
              exact s_R_grow scr hP m3 d3 ww p3.1 no3 a1 (fun k hk => (a2 k hk).1) a3 l2 _ fun s4 x1 x2 => ⟨rfl, hkn2 s4 ⟨x1, x2⟩⟩
            case h8 =>
              rintro s4 ⟨x1, x2⟩
              have l4 : Fr (fun r k => (80 ≤ r ∧ r ≤ 85) ∨ (r = 65 ∧ 24 ≤ k ∧ k ≤ 33)) s1 s4 := l3.tr x1 fun r k z => by omega
              obtain ⟨m4, d4, o4⟩ := st s4 l4
              have p4 := mPR_fr x1 (by omega) (by omega) p3
              generalize hT : cTree P f out w C.1 rw_ cl = T at *
              generalize hg : pGain P out (kpf C.1) w T = g at hkn
              have nT : NR P w 82 T.1 s4 := ⟨x2.2.2.2.2.2.2.2.1, fun p hp k hk => (x2.2.2.2.2.2.2.2.2 p hp k hk).1⟩
              refine sSq_I1 (v := g) (h' := hp scr s4) ?h9 (by simp) ?h10
              case h9 =>
                intro K2 hK2
                simp [eV, eI, eL, eR, e1, e2, eDI, eDL, eFI, eFL, eFR, eAI, eAZ, eAR, eLen, aN, aC, xV, xS, eX, eIf, eC_b, cA, cO, cN, sSk, sSq, sI, sL, sR, sInc, sF, sFO, sAI, sAZ, sAO, sX, sXp, sIf, sCut, sSqs, sSw, sRt, sRz_g, is01_b, is01_0, is01_1, sRv, sBk, sCt, sCp, lset, lclr, lcut, lini, lx, Value.category, ixOf, b2i_0, b2i_1, T_R]
                refine s_R_gainOfTree scr hP m4 (fun k hk => o4 k (by omega)) ww tok x2 _ ⟨_, rfl, ?_⟩
                rw [hg]; exact hK2
              case h10 =>
                refine cIf2 (scr := scr) (t := decide (0 < g) && sOk P (gF f) (C.1 ++ T.1) fun _ => false) (I := fun s5 => Fr FP s4 s5) ?h11 ?h12
                case h11 =>
                  intro K hK
                  by_cases g0 : 0 < g
                  · simp [eV, eI, eL, eR, e1, e2, eDI, eDL, eFI, eFL, eFR, eAI, eAZ, eAR, eLen, aN, aC, xV, xS, eX, eIf, eC_b, cA, cO, cN, sSk, sSq, sI, sL, sR, sInc, sF, sFO, sAI, sAZ, sAO, sX, sXp, sIf, sCut, sSqs, sSw, sRt, sRz_g, is01_b, is01_0, is01_1, sRv, sBk, sCt, sCp, lset, lclr, lcut, lini, lx, Value.category, ixOf, b2i_0, b2i_1, g0, T_R]
                    refine s_R_setInOrder scr hP m4 d4 ok.1 tok.1 (by omega) (by omega) p4.2.2.2.2.1 nT _ fun s5 y1 y2 => ⟨_, rfl, ?_⟩
                    have := hK s5 y1
                    simp only [b2i_0]
                    generalize sOk P (gF f) (C.1 ++ T.1) (fun _ => false) = v at this ⊢
                    cases v <;> simpa [g0] using this
                  · simp [eV, eI, eL, eR, e1, e2, eDI, eDL, eFI, eFL, eFR, eAI, eAZ, eAR, eLen, aN, aC, xV, xS, eX, eIf, eC_b, cA, cO, cN, sSk, sSq, sI, sL, sR, sInc, sF, sFO, sAI, sAZ, sAO, sX, sXp, sIf, sCut, sSqs, sSw, sRt, sRz_g, is01_b, is01_0, is01_1, sRv, sBk, sCt, sCp, lset, lclr, lcut, lini, lx, Value.category, ixOf, b2i_0, b2i_1, g0]
                    have := hK s4 Fr.rf
                    simpa [g0] using this
                case h12 =>
                  intro s5 y1
                  have p5 := mPR_fr y1 (by omega) (by omega) p4
                  have l5 : Fr (fun r k => (80 ≤ r ∧ r ≤ 85) ∨ (r = 65 ∧ 24 ≤ k ∧ k ≤ 33)) s1 s5 := l4.tr y1 fun r k z => by omega
                  cases hv : (decide (0 < g) && sOk P (gF f) (C.1 ++ T.1) fun _ => false) with
                  | false =>
                    have nc : ¬ (0 < g ∧ sOk P (gF f) (C.1 ++ T.1) (fun _ => false) = true) := by
                      rintro ⟨u1, u2⟩
                      rw [decide_eq_true u1, u2] at hv
                      simp at hv
                    rw [if_neg nc] at hkn
                    simp only [Bool.false_eq_true, if_false, sSk_eq]
                    simp [eV, eI, eL, eR, e1, e2, eDI, eDL, eFI, eFL, eFR, eAI, eAZ, eAR, eLen, aN, aC, xV, xS, eX, eIf, eC_b, cA, cO, cN, sSk, sSq, sI, sL, sR, sInc, sF, sFO, sAI, sAZ, sAO, sX, sXp, sIf, sCut, sSqs, sSw, sRt, sRz_g, is01_b, is01_0, is01_1, sRv, sBk, sCt, sCp, lset, lclr, lcut, lini, lx, Value.category, ixOf, b2i_0, b2i_1]
                    exact hkn s5 ⟨l5, p5⟩
                  | true =>
                    have yc : 0 < g ∧ sOk P (gF f) (C.1 ++ T.1) (fun _ => false) = true := by
                      rw [Bool.and_eq_true, decide_eq_true_eq] at hv
                      exact hv
                    rw [if_pos yc] at hkn
                    simp [eV, eI, eL, eR, e1, e2, eDI, eDL, eFI, eFL, eFR, eAI, eAZ, eAR, eLen, aN, aC, xV, xS, eX, eIf, eC_b, cA, cO, cN, sSk, sSq, sI, sL, sR, sInc, sF, sFO, sAI, sAZ, sAO, sX, sXp, sIf, sCut, sSqs, sSw, sRt, sRz_g, is01_b, is01_0, is01_1, sRv, sBk, sCt, sCp, lset, lclr, lcut, lini, lx, Value.category, ixOf, b2i_0, b2i_1, T_R]
                    obtain ⟨v1, v2, v3, v4, v5, v6⟩ := p5
                    refine s_R_keepTree scr hP (st s5 l5).1 tok.1 (by omega) (by omega) (NR_fr y1 (by omega) nT) (fun p hp k hk => by rw [y1.2 _ _ (by omega)]; exact (x2.2.2.2.2.2.2.2.2 p hp k hk).2) v2 (by rw [y1.2 _ _ (by omega)]; exact x2.2.2.1) g _ fun s6 z1 z2 z3 z4 z5 z6 => ⟨rfl, ?_⟩
                    refine hkn s6 ⟨l5.tr z1 fun r k z => by omega, ?_, ?_, ?_, ?_, ?_, ?_⟩
                    · rw [z1.2 _ _ (by omega)]; exact v1
                    · rw [z2]; simp
                    · rw [z3, v3]; exact L_p1 _
                    · rw [z4, v4]
                    · exact NR_ap2 hP ok.1 v5 (fun i hi hc => (z5 i hi hc).1) (fun q hq k hk => (z6 q hq k hk).1) hd
                    · exact LR_ap2 hP ok.1 v6 (fun i hi hc => (z5 i hi hc).2) (fun q hq k hk => (z6 q hq k hk).2) hd
    · have en : n = 2 * (9 - w) := by omega
      subst en
      simp only [hlt, decide_false, Bool.false_eq_true, if_false]
      simp [eV, eI, eL, eR, e1, e2, eDI, eDL, eFI, eFL, eFR, eAI, eAZ, eAR, eLen, aN, aC, xV, xS, eX, eIf, eC_b, cA, cO, cN, sSk, sSq, sI, sL, sR, sInc, sF, sFO, sAI, sAZ, sAO, sX, sXp, sIf, sCut, sSqs, sSw, sRt, sRz_g, is01_b, is01_0, is01_1, sRv, sBk, sCt, sCp, lset, lclr, lcut, lini, lx, Value.category, ixOf, b2i_0, b2i_1, T_R]
      have key := s_R_setInOrder scr hP m2 d2 ok.1 (T := []) (by simp) (by omega) (by simp) f2.2.2.2.2.1 f3
      simp only [List.append_nil] at key
      refine key _ fun s5 y1 y2 => ?_
      refine ⟨⟨_, rfl⟩, ?_⟩
      exact h s5 ((g1.wk fun r k z => by omega).tr ((f1.wk fun r k z => by omega).tr (y1.wk fun r k z => by omega) fun _ _ z => z) fun _ _ z => z) (mFD_fr y1 (by omega) (by omega) d2) (mPR_fr y1 (by omega) (by omega) f2) y2
