theorem lt_le (x : Int32) : (x ≤ 0) = ¬ (0 < x) := propext ⟨fun h => Int32.not_lt.mpr h, fun h => Int32.not_lt.mp h⟩
theorem sSq_S1 {a r : PS} {kn kb kc : LV → HV → Prop} {kr : Option Value → HV → Prop} {ls ls' : LV} {h : HV} {scr : List Int32} {I : MS → Prop} (ha : ∀ kn' : LV → HV → Prop, (∀ s1, I s1 → kn' ls' (hp scr s1)) → a kn' kb kc kr ls h) (hr : ∀ s1, I s1 → r kn kb kc kr ls' (hp scr s1)) : sSq a r kn kb kc kr ls h := ha _ hr
theorem sSqIf2 {c : PX Bool} {a b r : PS} {kn kb kc : LV → HV → Prop} {kr : Option Value → HV → Prop} {ls : LV} {h : HV} {t : Bool} {scr : List Int32} {I : MS → Prop} (hc : ∀ K : Bool → HV → Prop, (∀ s1, I s1 → K t (hp scr s1)) → c ls h K) (hr : ∀ s1, I s1 → if t then a (fun ls1 h1 => r kn kb kc kr ls1 h1) kb kc kr ls (hp scr s1) else b (fun ls1 h1 => r kn kb kc kr ls1 h1) kb kc kr ls (hp scr s1)) : sSq (sIf c a b) r kn kb kc kr ls h := hc _ hr
theorem flat_nd {L : List (List Nat)} (h : L.flatten.Nodup) : ∀ B, B ∈ L → B.Nodup := by
  induction L with
  | nil => intro B hB; simp at hB
  | cons A t ih =>
    rw [List.flatten_cons, List.nodup_append] at h
    intro B hB
    rcases List.mem_cons.mp hB with r | r
    · rw [r]; exact h.1
    · exact ih h.2.1 B r
theorem flat_ix {L : List (List Nat)} (h : L.flatten.Nodup) : ∀ p q, p < L.length → q < L.length → ∀ x, x ∈ L.getD p [] → x ∈ L.getD q [] → p = q := by
  induction L with
  | nil => intro p q hp; simp at hp
  | cons A t ih =>
    rw [List.flatten_cons, List.nodup_append] at h
    intro p q hp hq x hx hy
    cases p with
    | zero =>
      cases q with
      | zero => rfl
      | succ q =>
        rw [List.getD_cons_zero] at hx
        rw [List.getD_cons_succ] at hy
        exact absurd rfl (h.2.2 x hx x (List.mem_flatten.mpr ⟨_, getD_mem (by simpa using hq), hy⟩))
    | succ p =>
      rw [List.getD_cons_succ] at hx
      cases q with
      | zero =>
        rw [List.getD_cons_zero] at hy
        exact absurd rfl (h.2.2 x hy x (List.mem_flatten.mpr ⟨_, getD_mem (by simpa using hp), hx⟩))
      | succ q =>
        rw [List.getD_cons_succ] at hy
        rw [ih h.2.1 p q (by simpa using hp) (by simpa using hq) x hx hy]
theorem s_Pack_considerRoot {P : PC} {b : Nat} (hb : pB b) (scr : List Int32) {s : MS} (hP : okP P) (hm : mC P 6 s) {f : Nat → Nat → Bool} (hf : mFD f (b + 7) (b + 8) P.1 s) {out : Nat → Bool} (hu : mU (pG P out) (b + 9) P.1 s) (hou : mk (s.1 (b + 6) 4) out) (hol : ∀ k, out k = true → k < P.1) (ho : ∀ i, i < P.1 → out i = true → pK P i = 6) (hfo : ∀ k j, f k j = true → out k = false ∧ out j = false) {w : Nat} (hw : w = 2 ∨ w = 4) {C : CS} (hK : okC P out w C.1) (hC : mPk P b w C s) {r c : Nat} (hr : rtOk P (pDep f) out (kpf C.1) w r c = true) (Q : Option Value → HV → Prop)
    (h : ∀ s', Fr (FC b) s s' → mPk P b w (cStep P f out w C r c) s' → Q none (hp scr s')) : X_Pack_considerRoot [.ref b, .int (nI (encN (rtB P out (kpf C.1) w r c)))] (hp scr s) Q := by
  have h16 := hP.1
  have bf := pbf hb
  have w4 : w ≤ 4 := by omega
  obtain ⟨a1, a2, a3⟩ := rt_nd hP hr
  obtain ⟨tok, tfr⟩ := cTree_ok hP hw ho hr
  have okK2 := cStep_ok hP hw ho hr hK
  have l8 := (okT_8 hP hw tok).1
  have k8 := okC_8 hP hw hK
  have k82 := okC_8 hP hw okK2
  unfold cStep at h
  rw [if_pos hr] at h
  have hTd : cTree P f out w C.1 r c = tEnd P (pDep f) (kpf C.1) w (rtB P out (kpf C.1) w r c) := rfl
  have hd : ∀ x, C.1.flatten.contains x = true → (cTree P f out w C.1 r c).1.flatten.contains x = false := by
    intro x hx
    rw [Bool.eq_false_iff]
    intro q
    have := (tfr x (by simpa using q)).1
    unfold kpf at this
    rw [hx] at this
    simp at this
  obtain ⟨c3, c10, c11, c12, c13, cP, cN', cL⟩ := hC
  generalize hT : cTree P f out w C.1 r c = T at *
  generalize hg : pGain P out (kpf C.1) w T = g at h
  simp [X_Pack_considerRoot, B_Pack_considerRoot, lini, lx, Value.category]
  refine sSq_S1 (ls' := [.ref b, .int (nI (encN (rtB P out (kpf C.1) w r c))), .null, .null, .null, .null]) (I := fun s1 => Fr (FT b) s s1 ∧ mTP b w (kpf C.1) T s1) (scr := scr) ?h1 ?h2
  case h1 =>
    intro kn hkn
    simp [eV, eI, eL, eR, e1, e2, eDI, eDL, eFI, eFL, eFR, eAI, eAZ, eAR, eLen, aN, aC, xV, xS, eX, eIf, eC_b, cA, cO, cN, sSk, sSq, sI, sL, sR, sInc, sF, sFO, sAI, sAZ, sAO, sX, sXp, sIf, sCut, sSqs, sSw, sRt, sRz_g, is01_b, is01_0, is01_1, sRv, sBk, sCt, sCp, lset, lclr, lcut, lini, lx, Value.category, ixOf, b2i_0, b2i_1, T_Pack hb, bf, c3, c11]
    refine s_Tree_grow hb scr hP hm hf hw (kp := kpf C.1) mk_K a1 (fun k hk => (a2 k hk).1) a3 _ fun s1 g1 g2 => ⟨rfl, hkn s1 ⟨g1, by rw [hTd]; exact g2⟩⟩
  case h2 =>
    rintro s1 ⟨g1, g2⟩
    have m1 : mC P 6 s1 := mC_fr g1 (by omega) (by omega) hm
    have d1 : mFD f (b + 7) (b + 8) P.1 s1 := mFD_fr g1 (by omega) (by omega) hf
    have u1 : mU (pG P out) (b + 9) P.1 s1 := mU_fr g1 (by omega) hu
    refine sSq_I1 (v := g) (h' := hp scr s1) ?h3 (by simp) ?h4
    case h3 =>
      intro K2 hK2
      simp [eV, eI, eL, eR, e1, e2, eDI, eDL, eFI, eFL, eFR, eAI, eAZ, eAR, eLen, aN, aC, xV, xS, eX, eIf, eC_b, cA, cO, cN, sSk, sSq, sI, sL, sR, sInc, sF, sFO, sAI, sAZ, sAO, sX, sXp, sIf, sCut, sSqs, sSw, sRt, sRz_g, is01_b, is01_0, is01_1, sRv, sBk, sCt, sCp, lset, lclr, lcut, lini, lx, Value.category, ixOf, b2i_0, b2i_1, T_Pack hb, bf]
      refine s_Tree_gain hb scr hP m1 ho u1 hw g2 _ ⟨_, rfl, ?_⟩
      rw [hg]; exact hK2
    case h4 =>
      rw [sSq_if (t := decide (g ≤ 0)) (by intro K2; simp [eV, eI, eL, eR, e1, e2, eDI, eDL, eFI, eFL, eFR, eAI, eAZ, eAR, eLen, aN, aC, xV, xS, eX, eIf, eC_b, cA, cO, cN, sSk, sSq, sI, sL, sR, sInc, sF, sFO, sAI, sAZ, sAO, sX, sXp, sIf, sCut, sSqs, sSw, sRt, sRz_g, is01_b, is01_0, is01_1, sRv, sBk, sCt, sCp, lset, lclr, lcut, lini, lx, Value.category, ixOf, b2i_0, b2i_1])]
      by_cases hg0 : g ≤ 0
      · rw [if_neg (by intro q; rw [lt_le] at hg0; exact hg0 q.1)] at h
        simp only [hg0, decide_true, if_true]
        simp [eV, eI, eL, eR, e1, e2, eDI, eDL, eFI, eFL, eFR, eAI, eAZ, eAR, eLen, aN, aC, xV, xS, eX, eIf, eC_b, cA, cO, cN, sSk, sSq, sI, sL, sR, sInc, sF, sFO, sAI, sAZ, sAO, sX, sXp, sIf, sCut, sSqs, sSw, sRt, sRz_g, is01_b, is01_0, is01_1, sRv, sBk, sCt, sCp, lset, lclr, lcut, lini, lx, Value.category, ixOf, b2i_0, b2i_1]
        refine h s1 (g1.wk fun r k z => by omega) ⟨?_, ?_, ?_, ?_, ?_, ?_, ?_, ?_⟩
        · rw [g1.2 _ _ (by omega), c3]
        · rw [g1.2 _ _ (by omega), c10]
        · rw [g1.2 _ _ (by omega), c11]
        · rw [g1.2 _ _ (by omega), c12]
        · rw [g1.2 _ _ (by omega), c13]
        · exact mPt_fr g1 (by omega) cP
        · exact NR_fr g1 (by omega) cN'
        · exact ⟨fun i hi hc => by rw [g1.2 _ _ (by omega)]; exact cL.1 i hi hc, fun p hp k hk => by rw [g1.2 _ _ (by omega)]; exact cL.2 p hp k hk⟩
      · simp only [hg0, decide_false, Bool.false_eq_true, if_false, sSk_eq]
        have gp : 0 < g := by
          rw [lt_le] at hg0
          exact Classical.not_not.mp hg0
        refine sSq_S1 (ls' := [.ref b, .int (nI (encN (rtB P out (kpf C.1) w r c))), .int g, .null, .null, .null]) (I := fun s2 => Fr (fun r _ => r = b + 1) s1 s2 ∧ mPt b (C.1 ++ T.1) s2) (scr := scr) ?h5 ?h6
        case h5 =>
          intro kn hkn
          simp [eV, eI, eL, eR, e1, e2, eDI, eDL, eFI, eFL, eFR, eAI, eAZ, eAR, eLen, aN, aC, xV, xS, eX, eIf, eC_b, cA, cO, cN, sSk, sSq, sI, sL, sR, sInc, sF, sFO, sAI, sAZ, sAO, sX, sXp, sIf, sCut, sSqs, sSw, sRt, sRz_g, is01_b, is01_0, is01_1, sRv, sBk, sCt, sCp, lset, lclr, lcut, lini, lx, Value.category, ixOf, b2i_0, b2i_1, T_Pack hb, bf]
          rw [show (1 : Int32) = b2i true from rfl]
          refine s_Pack_joinTree hb scr hP hw (by rw [g1.2 _ _ (by omega), c3]) tok g2 true _ fun s2 j1 j2 j3 => ⟨rfl, hkn s2 ⟨j1, ?_⟩⟩
          exact join_pt (jn := true) hd (fun i hi _ => by rw [g1.2 _ _ (by omega)]; exact cP i hi) j2 j3
        case h6 =>
          rintro s2 ⟨j1, j2⟩
          have g12 : Fr (fun r _ => r = b + 1 ∨ r = b + 10 ∨ r = b + 11 ∨ r = b + 12) s s2 := (g1.wk fun r k z => by omega).tr j1 fun r k z => by omega
          have T2 : mTP b w (kpf C.1) T s2 := by
            obtain ⟨t1, t2, t3, t4, t5, t6, t7, t8, t9⟩ := g2
            exact ⟨by rw [j1.2 _ _ (by omega), t1], fun k hk => by rw [j1.2 _ _ (by omega)]; exact t2 k hk, by rw [j1.2 _ _ (by omega), t3], by rw [j1.2 _ _ (by omega), t4], by rw [j1.2 _ _ (by omega), t5], by rw [j1.2 _ _ (by omega), t6], by rw [j1.2 _ _ (by omega), t7], fun p hp => by rw [j1.2 _ _ (by omega)]; exact t8 p hp, fun q hq => by rw [j1.2 _ _ (by omega)]; exact t9 q hq⟩
          have onK : ∀ i, out i = true → (C.1 ++ T.1).flatten.contains i = false := by
            intro i hi
            rw [Bool.eq_false_iff]
            intro q
            have := okK2.2.2 i (by simpa using q)
            rw [hi] at this
            simp at this
          have sE : sOk P (gF f) (C.1 ++ T.1) out = sOk P (gF f) (C.1 ++ T.1) (fun _ => false) := sOk_eq hP okK2.2.1 onK fun k j q => hfo k j (by unfold gF at q; simp only [Bool.and_eq_true] at q; exact q.2)
          have hon : ∀ i j, out i = true → nd (C.1 ++ T.1) i j = true → out j = true := by
            intro i j hi q
            rw [nd_iff] at q
            rcases q with rfl | ⟨B, b1, b2, b3⟩
            · exact hi
            · have := onK i hi
              rw [show (C.1 ++ T.1).flatten.contains i = true by rw [List.contains_iff_mem]; exact List.mem_flatten.mpr ⟨B, b1, b2⟩] at this
              simp at this
          refine sSqIf2 (scr := scr) (t := !sOk P (gF f) (C.1 ++ T.1) (fun _ => false)) (I := fun s3 => Fr (FO b) s2 s3) ?h7 ?h8
          case h7 =>
            intro K2 hK2
            simp [eV, eI, eL, eR, e1, e2, eDI, eDL, eFI, eFL, eFR, eAI, eAZ, eAR, eLen, aN, aC, xV, xS, eX, eIf, eC_b, cA, cO, cN, sSk, sSq, sI, sL, sR, sInc, sF, sFO, sAI, sAZ, sAO, sX, sXp, sIf, sCut, sSqs, sSw, sRt, sRz_g, is01_b, is01_0, is01_1, sRv, sBk, sCt, sCp, lset, lclr, lcut, lini, lx, Value.category, ixOf, b2i_0, b2i_1, T_Pack hb, bf]
            refine s_Pack_putInOrder hb scr hP (mC_fr g12 (by omega) (by omega) hm) (mFD_fr g12 (by omega) (by omega) hf) okK2.1 okK2.2.1 j2 (out := out) (by rw [g12.2 _ _ (by omega)]; exact hou) hol hon _ fun s3 o1 o2 o3 => ⟨_, rfl, ?_⟩
            rw [sE]
            simp only [b2i_0]
            have := hK2 s3 o1
            generalize sOk P (gF f) (C.1 ++ T.1) (fun _ => false) = v at this ⊢
            cases v <;> simpa using this
          case h8 =>
            intro s3 o1
            have g13 : Fr (FC b) s s3 := (g12.wk fun r k z => by omega).tr o1 fun r k z => by omega
            have T3 : mTP b w (kpf C.1) T s3 := by
              obtain ⟨t1, t2, t3, t4, t5, t6, t7, t8, t9⟩ := T2
              exact ⟨by rw [o1.2 _ _ (by omega), t1], fun k hk => by rw [o1.2 _ _ (by omega)]; exact t2 k hk, by rw [o1.2 _ _ (by omega), t3], by rw [o1.2 _ _ (by omega), t4], by rw [o1.2 _ _ (by omega), t5], by rw [o1.2 _ _ (by omega), t6], by rw [o1.2 _ _ (by omega), t7], fun p hp => by rw [o1.2 _ _ (by omega)]; exact t8 p hp, fun q hq => by rw [o1.2 _ _ (by omega)]; exact t9 q hq⟩
            have j3 : mPt b (C.1 ++ T.1) s3 := mPt_fr o1 (by omega) j2
            have g12b : ∀ k, 10 ≤ k ∨ k = 3 → s3.1 b k = s.1 b k := fun k hk => by rw [o1.2 _ _ (by omega), g12.2 _ _ (by omega)]
            have cR : ∀ k, s3.1 (b + 2) k = s.1 (b + 2) k ∧ s3.1 (b + 3) k = s.1 (b + 3) k := fun k => ⟨by rw [o1.2 _ _ (by omega), g12.2 _ _ (by omega)], by rw [o1.2 _ _ (by omega), g12.2 _ _ (by omega)]⟩
            cases hs : sOk P (gF f) (C.1 ++ T.1) (fun _ => false) with
            | false =>
              rw [if_neg (by rw [hs]; simp)] at h
              simp [eV, eI, eL, eR, e1, e2, eDI, eDL, eFI, eFL, eFR, eAI, eAZ, eAR, eLen, aN, aC, xV, xS, eX, eIf, eC_b, cA, cO, cN, sSk, sSq, sI, sL, sR, sInc, sF, sFO, sAI, sAZ, sAO, sX, sXp, sIf, sCut, sSqs, sSw, sRt, sRz_g, is01_b, is01_0, is01_1, sRv, sBk, sCt, sCp, lset, lclr, lcut, lini, lx, Value.category, ixOf, b2i_0, b2i_1, T_Pack hb, bf]
              rw [show (0 : Int32) = b2i false from rfl]
              refine s_Pack_joinTree hb scr hP hw (by rw [g12b 3 (Or.inr rfl), c3]) tok T3 false _ fun s4 k1 k2 k3 => ⟨rfl, ?_⟩
              have hp4 := join_pt (b := b) (jn := false) (s := s3) (s' := s4) hd (fun i hi hc => by
                intro j hj
                rw [j3 i hi j hj, nd_app]
                have : sm T.1 i j = false := by
                  rw [Bool.eq_false_iff]
                  intro z
                  obtain ⟨B, b1, b2, b3⟩ := sm_iff.mp z
                  rw [show T.1.flatten.contains i = true by rw [List.contains_iff_mem]; exact List.mem_flatten.mpr ⟨B, b1, b2⟩] at hc
                  simp at hc
                rw [this, Bool.or_false]; rfl) k2 k3
              refine h s4 (g13.tr k1 fun r k z => by omega) ⟨?_, ?_, ?_, ?_, ?_, hp4, ?_, ?_⟩
              · rw [k1.2 _ _ (by omega), g12b 3 (Or.inr rfl), c3]
              · rw [k1.2 _ _ (by omega), g12b 10 (by omega), c10]
              · rw [k1.2 _ _ (by omega), g12b 11 (by omega), c11]
              · rw [k1.2 _ _ (by omega), g12b 12 (by omega), c12]
              · rw [k1.2 _ _ (by omega), g12b 13 (by omega), c13]
              · exact ⟨fun i hi hc => by rw [k1.2 _ _ (by omega), (cR i).1]; exact cN'.1 i hi hc, fun p hp k hk => by rw [k1.2 _ _ (by omega), (cR _).1]; exact cN'.2 p hp k hk⟩
              · exact ⟨fun i hi hc => by rw [k1.2 _ _ (by omega), (cR i).2]; exact cL.1 i hi hc, fun p hp k hk => by rw [k1.2 _ _ (by omega), (cR _).2]; exact cL.2 p hp k hk⟩
            | true =>
              rw [if_pos ⟨gp, hs⟩] at h
              simp only [Bool.not_true, Bool.false_eq_true, if_false, sSk_eq]
              have e3 := T3.2.2.1
              have tm := T3.2.2.2.1
              have tp := T3.2.2.2.2.2.2.2.1
              have memF : ∀ p k, p < T.1.length → k < w → T.1.flatten.contains (ln (T.1.getD p []) k) = true := fun p k hp hk => (in_flat hP tok.1).mpr ⟨p, k, hp, hk, rfl⟩
              simp [eV, eI, eL, eR, e1, e2, eDI, eDL, eFI, eFL, eFR, eAI, eAZ, eAR, eLen, aN, aC, xV, xS, eX, eIf, eC_b, cA, cO, cN, sSk, sSq, sI, sL, sR, sInc, sF, sFO, sAI, sAZ, sAO, sX, sXp, sIf, sCut, sSqs, sSw, sRt, sRz_g, is01_b, is01_0, is01_1, sRv, sBk, sCt, sCp, lset, lclr, lcut, lini, lx, Value.category, ixOf, b2i_0, b2i_1]
              refine lp_ind (fun z ls h => ∃ p s4, z = T.1.length - p ∧ p ≤ T.1.length ∧ ls = [.ref b, .int (nI (encN (rtB P out (kpf C.1) w r c))), .int g, .int (nI p), .null, .null] ∧ h = hp scr s4 ∧ Fr (fun r k => r = b + 2 ∨ r = b + 3 ∨ (r = b ∧ k = 10)) s3 s4 ∧ s4.1 b 10 = nI (C.1.length + p) ∧ (∀ q, q < p → ∀ k, k < w → s4.1 (b + 2) (ln (T.1.getD q []) k) = nI (C.1.length + q) ∧ s4.1 (b + 3) (ln (T.1.getD q []) k) = nI k) ∧ ∀ i, T.1.flatten.contains i = false → s4.1 (b + 2) i = s3.1 (b + 2) i ∧ s4.1 (b + 3) i = s3.1 (b + 3) i) ?_ ⟨0, s3, rfl, by omega, rfl, rfl, Fr.rf, by rw [g12b 10 (by omega), c10]; rfl, fun q hq => by omega, fun i _ => ⟨rfl, rfl⟩⟩
              rintro z ls h' ⟨p, s4, hz, hp1, rfl, rfl, f1, f2, f3, f4⟩ X hX
              refine cX (t := decide (p < T.1.length)) (h' := hp scr s4) ?h9 ?h10
              case h9 =>
                intro K2
                have e34 : s4.1 (b + 10) 3 = nI T.1.length := by rw [f1.2 _ _ (by omega), e3]
                simp [eV, eI, eL, eR, e1, e2, eDI, eDL, eFI, eFL, eFR, eAI, eAZ, eAR, eLen, aN, aC, xV, xS, eX, eIf, eC_b, cA, cO, cN, sSk, sSq, sI, sL, sR, sInc, sF, sFO, sAI, sAZ, sAO, sX, sXp, sIf, sCut, sSqs, sSw, sRt, sRz_g, is01_b, is01_0, is01_1, sRv, sBk, sCt, sCp, lset, lclr, lcut, lini, lx, Value.category, ixOf, b2i_0, b2i_1, T_Pack hb, bf, e34]
                simp (disch := omega) only [LIT, L_0le, L_0lt, L_0eq, L_eq0, L_le0, L_lt0, L_1eq, L_eq1, L_1le, L_1lt, L_lt1, L_le1, L_p1, nI_ltI, nI_leI, nI_eq, nI_add, nI_clamp]
              case h10 =>
                by_cases hlt : p < T.1.length
                · have hBm := getD_mem hlt
                  have hB := tok.1 _ hBm
                  have hWB := wfP_B hP hB
                  have hBn : (T.1.getD p []).Nodup := flat_nd tok.2.1 _ hBm
                  simp only [hlt, decide_true, if_true]
                  generalize hBd : T.1.getD p [] = B at *
                  simp [eV, eI, eL, eR, e1, e2, eDI, eDL, eFI, eFL, eFR, eAI, eAZ, eAR, eLen, aN, aC, xV, xS, eX, eIf, eC_b, cA, cO, cN, sSk, sSq, sI, sL, sR, sInc, sF, sFO, sAI, sAZ, sAO, sX, sXp, sIf, sCut, sSqs, sSw, sRt, sRz_g, is01_b, is01_0, is01_1, sRv, sBk, sCt, sCp, lset, lclr, lcut, lini, lx, Value.category, ixOf, b2i_0, b2i_1]
                  refine lp_ind (fun z ls h => ∃ k s5, z = w - k ∧ k ≤ w ∧ ls = [.ref b, .int (nI (encN (rtB P out (kpf C.1) w r c))), .int g, .int (nI p), .int (nI k), .null] ∧ h = hp scr s5 ∧ Fr (fun r k => r = b + 2 ∨ r = b + 3 ∨ (r = b ∧ k = 10)) s3 s5 ∧ s5.1 b 10 = nI (C.1.length + p) ∧ (∀ j, j < k → s5.1 (b + 2) (ln B j) = nI (C.1.length + p) ∧ s5.1 (b + 3) (ln B j) = nI j) ∧ ∀ i, B.contains i = false → s5.1 (b + 2) i = s4.1 (b + 2) i ∧ s5.1 (b + 3) i = s4.1 (b + 3) i) ?_ ⟨0, s4, rfl, by omega, rfl, rfl, f1, f2, fun j hj => by omega, fun i _ => ⟨rfl, rfl⟩⟩
                  rintro z2 ls h' ⟨k, s5, hz2, hk, rfl, rfl, x1, x2, x3, x4⟩ X2 hX2
                  have ew : s5.1 b 3 = nI w := by rw [x1.2 _ _ (by omega), g12b 3 (Or.inr rfl), c3]
                  have e11 : s5.1 (b + 11) p = nI (encN B) := by rw [x1.2 _ _ (by omega), tp p hlt, hBd]
                  refine cX (t := decide (k < w)) (h' := hp scr s5) ?h11 ?h12
                  case h11 =>
                    intro K2
                    simp [eV, eI, eL, eR, e1, e2, eDI, eDL, eFI, eFL, eFR, eAI, eAZ, eAR, eLen, aN, aC, xV, xS, eX, eIf, eC_b, cA, cO, cN, sSk, sSq, sI, sL, sR, sInc, sF, sFO, sAI, sAZ, sAO, sX, sXp, sIf, sCut, sSqs, sSw, sRt, sRz_g, is01_b, is01_0, is01_1, sRv, sBk, sCt, sCp, lset, lclr, lcut, lini, lx, Value.category, ixOf, b2i_0, b2i_1, T_Pack hb, bf, ew]
                    simp (disch := omega) only [LIT, L_0le, L_0lt, L_0eq, L_eq0, L_le0, L_lt0, L_1eq, L_eq1, L_1le, L_1lt, L_lt1, L_le1, L_p1, nI_ltI, nI_leI, nI_eq, nI_add, nI_clamp]
                  case h12 =>
                    by_cases hlt2 : k < w
                    · have Lk := wfP_ln hB hlt2
                      simp only [hlt2, decide_true, if_true]
                      simp [eV, eI, eL, eR, e1, e2, eDI, eDL, eFI, eFL, eFR, eAI, eAZ, eAR, eLen, aN, aC, xV, xS, eX, eIf, eC_b, cA, cO, cN, sSk, sSq, sI, sL, sR, sInc, sF, sFO, sAI, sAZ, sAO, sX, sXp, sIf, sCut, sSqs, sSw, sRt, sRz_g, is01_b, is01_0, is01_1, sRv, sBk, sCt, sCp, lset, lclr, lcut, lini, lx, Value.category, ixOf, b2i_0, b2i_1, T_Pack hb, G_Pack hb, bf, ix80 (show p < 8 by omega) (by decide), e11, s_inLane scr s5 w4 hWB (show k < 4 by omega), ixf hP.1 Lk, x2, L_p1]
                      refine hX2 _ _ _ (by rw [hz2]; omega) ⟨k + 1, _, rfl, hlt2, rfl, rfl, (x1.up _ (by omega)).up _ (by omega), by simp [up_get, x2], fun j hj => ?_, fun i hi => ?_⟩
                      · by_cases c : j = k
                        · subst c; simp [up_get]
                        · have : ln B j ≠ ln B k := fun e => c (ln_inj hB.1 hBn (by omega) hlt2 e)
                          simp [up_get, this]
                          exact x3 j (by omega)
                      · have : i ≠ ln B k := by
                          rintro rfl
                          rw [show B.contains (ln B k) = true by simpa using ln_mem hWB hlt2] at hi
                          simp at hi
                        simp [up_get, this]
                        exact x4 i hi
                    · have : k = w := by omega
                      subst this
                      simp only [hlt2, decide_false, Bool.false_eq_true, if_false]
                      simp [eV, eI, eL, eR, e1, e2, eDI, eDL, eFI, eFL, eFR, eAI, eAZ, eAR, eLen, aN, aC, xV, xS, eX, eIf, eC_b, cA, cO, cN, sSk, sSq, sI, sL, sR, sInc, sF, sFO, sAI, sAZ, sAO, sX, sXp, sIf, sCut, sSqs, sSw, sRt, sRz_g, is01_b, is01_0, is01_1, sRv, sBk, sCt, sCp, lset, lclr, lcut, lini, lx, Value.category, ixOf, b2i_0, b2i_1, T_Pack hb, U_Pack hb, bf, x2, L_p1]
                      refine hX _ _ _ (by rw [hz]; omega) ⟨p + 1, _, rfl, hlt, rfl, rfl, x1.up _ (by omega), up_same, fun q hq l hl => ?_, fun i hi => ?_⟩
                      · by_cases c : q = p
                        · subst c
                          rw [hBd]
                          simp [up_get]
                          exact x3 l hl
                        · have hq2 : q < p := by omega
                          have nB : B.contains (ln (T.1.getD q []) l) = false := by
                            rw [Bool.eq_false_iff]
                            intro z
                            refine c (flat_ix tok.2.1 q p (by omega) hlt _ (ln_mem (wfP_B hP (tok.1 _ (getD_mem (by omega)))) hl) ?_)
                            rw [hBd]
                            simpa using z
                          simp only [up_get]
                          rw [if_neg (by omega), if_neg (by omega), (x4 _ nB).1, (x4 _ nB).2]
                          exact f3 q hq2 l hl
                      · have nB : B.contains i = false := by
                          rw [Bool.eq_false_iff]
                          intro z
                          rw [show T.1.flatten.contains i = true by rw [List.contains_iff_mem]; exact List.mem_flatten.mpr ⟨B, hBm, by simpa using z⟩] at hi
                          simp at hi
                        simp only [up_get]
                        rw [if_neg (by omega), if_neg (by omega), (x4 _ nB).1, (x4 _ nB).2]
                        exact f4 i hi
                · have : p = T.1.length := by omega
                  subst this
                  simp only [hlt, decide_false, Bool.false_eq_true, if_false]
                  have v11 : s4.1 b 11 = mS C.1.flatten := by rw [f1.2 _ _ (by omega), g12b 11 (by omega), c11]
                  have v12 : s4.1 b 12 = nI C.2.1 := by rw [f1.2 _ _ (by omega), g12b 12 (by omega), c12]
                  have v13 : s4.1 b 13 = C.2.2 := by rw [f1.2 _ _ (by omega), g12b 13 (by omega), c13]
                  have v4 : s4.1 (b + 10) 4 = mS T.1.flatten := by rw [f1.2 _ _ (by omega), tm]
                  simp [eV, eI, eL, eR, e1, e2, eDI, eDL, eFI, eFL, eFR, eAI, eAZ, eAR, eLen, aN, aC, xV, xS, eX, eIf, eC_b, cA, cO, cN, sSk, sSq, sI, sL, sR, sInc, sF, sFO, sAI, sAZ, sAO, sX, sXp, sIf, sCut, sSqs, sSw, sRt, sRz_g, is01_b, is01_0, is01_1, sRv, sBk, sCt, sCp, lset, lclr, lcut, lini, lx, Value.category, ixOf, b2i_0, b2i_1, T_Pack hb, U_Pack hb, bf, v11, v12, v13, v4, mS_or, up_get, L_p1]
                  refine h _ ((((g13.tr f1 fun r k z => by omega).up _ (by omega)).up _ (by omega)).up _ (by omega)) ⟨?_, ?_, ?_, ?_, ?_, fun i hi => ?_, ?_, ?_⟩
                  · simp [up_get]; rw [f1.2 _ _ (by omega), g12b 3 (Or.inr rfl), c3]
                  · simp [up_get]; exact f2
                  · simp [up_get]
                  · simp [up_get]
                  · simp [up_get]
                  · simp only [up_get]
                    rw [if_neg (by omega), if_neg (by omega), if_neg (by omega), f1.2 _ _ (by omega)]
                    exact j3 i hi
                  · exact NR_app (s := s) hP hK.1 cN' (fun i hi => by simp only [up_get]; rw [if_neg (by omega), if_neg (by omega), if_neg (by omega), (f4 i hi).1, (cR i).1]) (fun q hq k hk => by simp only [up_get]; rw [if_neg (by omega), if_neg (by omega), if_neg (by omega)]; exact (f3 q hq k hk).1) hd
                  · exact LR_app (s := s) hP hK.1 cL (fun i hi => by simp only [up_get]; rw [if_neg (by omega), if_neg (by omega), if_neg (by omega), (f4 i hi).2, (cR i).2]) (fun q hq k hk => by simp only [up_get]; rw [if_neg (by omega), if_neg (by omega), if_neg (by omega)]; exact (f3 q hq k hk).2) hd
