theorem free_mask {P : PC} {w : Nat} {kp : Nat → Bool} {T : TS} {B : List Nat} (hP : okP P) (hB : wfP P w B) {m : Int32} (hk : ∀ k, k < 32 → bt m k = kp k) : (mS B &&& (mS T.1.flatten ||| m) = 0) = (bFree kp T w B = true) := by
  have h16 := hP.1
  unfold bFree
  rw [b_eq0, allB_iff]
  apply propext
  constructor
  · intro q l hl
    have L := wfP_ln hB hl
    have := q (ln B l) (by omega)
    rw [b_and, b_or, mS_bit _ (by omega), mS_bit _ (by omega), hk _ (by omega), show B.contains (ln B l) = true by simpa using ln_mem (wfP_B hP hB) hl] at this
    cases c1 : kp (ln B l) <;> cases c2 : T.1.flatten.contains (ln B l) <;> rw [c1, c2] at this <;> simp at this ⊢
  · intro q k hk2
    rw [b_and, b_or, mS_bit _ hk2, mS_bit _ hk2, hk _ hk2]
    by_cases c : k ∈ B
    · obtain ⟨l, hl, rfl⟩ := (mem_ln (wfP_B hP hB)).mp c
      have := q l hl
      simp only [Bool.and_eq_true, Bool.not_eq_true'] at this
      rw [this.1, this.2]; simp
    · rw [show B.contains k = false by simpa using c]; rfl
theorem sSqIf1 {c : PX Bool} {a b r : PS} {kn kb kc : LV → HV → Prop} {kr : Option Value → HV → Prop} {ls : LV} {h h' : HV} {t : Bool} (hc : ∀ K : Bool → HV → Prop, K t h' → c ls h K) (hr : if t then a (fun ls1 h1 => r kn kb kc kr ls1 h1) kb kc kr ls h' else b (fun ls1 h1 => r kn kb kc kr ls1 h1) kb kc kr ls h') : sSq (sIf c a b) r kn kb kc kr ls h := hc _ hr
theorem b_cmp (x : Int32) {k : Nat} (hk : k < 32) : bt (~~~x) k = !bt x k := by rw [← Int32.xor_neg_one, b_neg x hk]
theorem s_Tree_handle {P : PC} {b : Nat} (hb : pB b) (scr : List Int32) {s : MS} (hP : okP P) (hm : mC P 6 s) {f : Nat → Nat → Bool} (hf : mFD f (b + 7) (b + 8) P.1 s) {w : Nat} (hw : w = 2 ∨ w = 4) {kp : Nat → Bool} {T : TS} {n : Nat} (ho : okT P w T n) (hT : mTP b w kp T s) {B : List Nat} (hB : wfP P w B) (hv : ∀ k, k < w → pK P (ln B k) ≠ 6) (Q : Option Value → HV → Prop)
    (h : ∀ s', Fr (FT b) s s' → mTP b w kp (tStep P (pDep f) kp w T B) s' → Q none (hp scr s')) : X_Tree_handle [.ref (b + 10), .int (nI (encN B))] (hp scr s) Q := by
  have h16 := hP.1
  have bf := pbf hb
  have hWB := wfP_B hP hB
  have w4 : w ≤ 4 := by omega
  have w0 : 0 < w := by omega
  have L0 := wfP_ln hB w0
  have k0 := (hP.2 _ L0).1
  have ok2 := tStep_ok (f := f) (kp := kp) hP hw ho hB hv
  have len2 := okT_8 hP hw ok2
  have len1 := okT_8 hP hw ho
  have st : ∀ s', Fr (FT b) s s' → mC P 6 s' := fun s' g => mC_fr g (by omega) (by omega) hm
  have t1 := hT.1
  have t2 := hT.2.1
  have t4 := hT.2.2.2.1
  have fm := free_mask (T := T) hP hB (m := s.1 (b + 10) 8) t2
  have other : (pPk P (pDep f) w B && bFree kp T w B) = false → X_Tree_hasPack [.ref (b + 10), .int (nI (encN B))] (hp scr s) (fun o h1 => ∃ x, o = some (Value.int x) ∧ if x = 0 then hk h1 (b + 10) = some 8 ∧ X_Tree_takeOneByOne [.ref (b + 10), .int (nI (encN B))] h1 (fun o h1 => o = none ∧ Q none h1) else Q none h1) := by
    intro hc
    refine s_Tree_hasPack hb scr hP hw hT len1.1 ho.1 hB _ ⟨_, rfl, ?_⟩
    unfold tStep at h
    rw [hc] at h
    simp only [Bool.false_eq_true, if_false] at h
    simp only [b2i_0]
    cases hcc : T.1.contains B with
    | true =>
      rw [hcc] at h
      exact h s Fr.rf hT
    | false =>
      rw [hcc] at h
      exact ⟨by simp [T_Pack hb], s_Tree_takeOneByOne hb scr hP hm hw hT hB _ fun s' g1 g2 => ⟨rfl, h s' g1 g2⟩⟩
  simp [X_Tree_handle, B_Tree_handle, lini, lx, Value.category]
  refine sSqIf1 (t := pPk P (pDep f) w B && bFree kp T w B) (h' := hp scr s) ?h1 ?h2
  case h1 =>
    intro K hK
    simp [eV, eI, eL, eR, e1, e2, eDI, eDL, eFI, eFL, eFR, eAI, eAZ, eAR, eLen, aN, aC, xV, xS, eX, eIf, eC_b, cA, cO, cN, sSk, sSq, sI, sL, sR, sInc, sF, sFO, sAI, sAZ, sAO, sX, sXp, sIf, sCut, sSqs, sSw, sRt, sRz_g, is01_b, is01_0, is01_1, sRv, sBk, sCt, sCp, lset, lclr, lcut, lini, lx, Value.category, ixOf, b2i_0, b2i_1, T_Pack hb, bf, t1]
    refine s_Links_isPack hb scr hP hm hf hw hB _ ?_
    cases hp1 : pPk P (pDep f) w B with
    | false =>
      rw [hp1] at hK
      simp [b2i]
      exact hK
    | true =>
      rw [hp1] at hK
      simp [b2i, T_Pack hb, t1]
      refine s_setOf scr s w4 hWB _ ?_
      simp [T_Pack hb, t4, fm]
      exact hK
  case h2 =>
    cases hc : (pPk P (pDep f) w B && bFree kp T w B) with
    | false =>
      simp only [Bool.false_eq_true, if_false]
      simp [eV, eI, eL, eR, e1, e2, eDI, eDL, eFI, eFL, eFR, eAI, eAZ, eAR, eLen, aN, aC, xV, xS, eX, eIf, eC_b, cA, cO, cN, sSk, sSq, sI, sL, sR, sInc, sF, sFO, sAI, sAZ, sAO, sX, sXp, sIf, sCut, sSqs, sSw, sRt, sRz_g, is01_b, is01_0, is01_1, sRv, sBk, sCt, sCp, lset, lclr, lcut, lini, lx, Value.category, ixOf, b2i_0, b2i_1, T_Pack hb, bf]
      exact other hc
    | true =>
      unfold tStep at h ok2 len2
      rw [hc] at h ok2 len2
      simp only [if_true] at h ok2 len2 ⊢
      have l8 : T.1.length < 8 := by
        have := len2.1
        simp only [List.length_append, List.length_singleton] at this
        omega
      simp [eV, eI, eL, eR, e1, e2, eDI, eDL, eFI, eFL, eFR, eAI, eAZ, eAR, eLen, aN, aC, xV, xS, eX, eIf, eC_b, cA, cO, cN, sSk, sSq, sI, sL, sR, sInc, sF, sFO, sAI, sAZ, sAO, sX, sXp, sIf, sCut, sSqs, sSw, sRt, sRz_g, is01_b, is01_0, is01_1, sRv, sBk, sCt, sCp, lset, lclr, lcut, lini, lx, Value.category, ixOf, b2i_0, b2i_1, T_Pack hb, bf]
      refine s_Tree_addPack hb scr hP hw hT l8 hB _ fun s1 g1 g2 => ?_
      have m1 := st s1 g1
      simp [T_Pack hb, T_Code c6, G6, bf, show (0 : Int32) = nI 0 from rfl, s_inLane scr s1 w4 hWB (show 0 < 4 by omega), ixf hP.1 L0, mC6 m1 L0]
      simp (disch := omega) only [LIT, L_0le, L_0lt, L_0eq, L_eq0, L_le0, L_lt0, L_1eq, L_eq1, L_1le, L_1lt, L_lt1, L_le1, L_p1, nI_ltI, nI_leI, nI_eq, nI_add, nI_clamp]
      refine ⟨Nat.zero_le _, ?_⟩
      split
      · next q0 =>
        rw [if_pos q0] at h
        exact h s1 g1 g2
      · next q0 =>
        rw [if_neg q0] at h ok2 len2
        have hp1 : pPk P (pDep f) w B = true := by
          rw [Bool.and_eq_true] at hc
          exact hc.1
        have hbin := fun k (hk : k < w) => pPk_bin hP hB hp1 hv q0 hk
        have q15 : T.2.1.length + 2 ≤ 15 := by
          have := len2.2
          simp only [List.length_append, List.length_cons, List.length_nil] at this
          omega
        have op : ∀ k, k < w → s.1 11 (ln B k) = nI (pa P (ln B k)) ∧ s.1 12 (ln B k) = nI (pb P (ln B k)) ∧ pa P (ln B k) < 16 ∧ pb P (ln B k) < 16 := by
          intro k q
          have L := wfP_ln hB q
          have g := mC6 hm L
          have q2 := (hbin k q).2
          obtain ⟨o1, o2, -⟩ := opLR hP L q2
          exact ⟨by rw [g.2.2.2.2.1, if_neg (by omega), if_pos (by omega)], by rw [g.2.2.2.2.2, if_pos q2], by omega, by omega⟩
        refine s_Tree_turnedLanes hb scr hP m1 hw g2.1 hB (fun k hk => (hbin k hk).2) _ fun x hx => ⟨x, rfl, by simp [T_Pack hb], ?_⟩
        have r1 : ∀ s', Fr (FT b) s s' → ∀ k, s'.1 11 k = s.1 11 k ∧ s'.1 12 k = s.1 12 k := fun s' g k => ⟨g.2 _ _ (by omega), g.2 _ _ (by omega)⟩
        refine s_Tree_operands hb scr hP hw g2.1 hB (v := vL P B) (fun k hk => ?_) _ ⟨_, rfl, by simp [T_Pack hb], ?_⟩
        · rw [(r1 s1 g1 _).1, (r1 s1 g1 _).2, hx k hk]
          have := op k hk
          unfold vL
          cases pTurn P B k <;> simp [this]
        refine s_Tree_append hb scr hP g2 (by show T.2.1.length < 16; omega) _ fun s2 g3 g4 => ⟨rfl, by simp [T_Pack hb], ?_⟩
        have g13 := g1.tr g3 fun _ _ z => z
        refine s_Tree_operands hb scr hP hw g4.1 hB (v := vR P B) (fun k hk => ?_) _ ⟨_, rfl, by simp [T_Pack hb], ?_⟩
        · rw [(r1 s2 g13 _).1, (r1 s2 g13 _).2, b_cmp x (by omega), hx k hk]
          have := op k hk
          unfold vR
          cases pTurn P B k <;> simp [this]
        refine s_Tree_append hb scr hP g4 (by show (T.2.1 ++ [tab (vL P B) w]).length < 16; simp; omega) _ fun s3 g5 g6 => ⟨rfl, ?_⟩
        refine h s3 (g13.tr g5 fun _ _ z => z) ?_
        rw [List.append_assoc] at g6
        exact g6
theorem s_Tree_grow {P : PC} {b : Nat} (hb : pB b) (scr : List Int32) {s : MS} (hP : okP P) (hm : mC P 6 s) {f : Nat → Nat → Bool} (hf : mFD f (b + 7) (b + 8) P.1 s) {w : Nat} (hw : w = 2 ∨ w = 4) {kp : Nat → Bool} {km : Int32} (hkm : ∀ k, k < 32 → bt km k = kp k) {r : List Nat} (hr : wfP P w r) (hs : ∀ k, k < w → pK P (ln r k) = 6) (hn : r.Nodup) (Q : Option Value → HV → Prop)
    (h : ∀ s', Fr (FT b) s s' → mTP b w kp (tEnd P (pDep f) kp w r) s' → Q none (hp scr s')) : X_Tree_grow [.ref (b + 10), .int (nI (encN r)), .int (nI w), .int km] (hp scr s) Q := by
  have h16 := hP.1
  have bf := pbf hb
  have w4 : w ≤ 4 := by omega
  have st : ∀ s', Fr (FT b) s s' → mC P 6 s' ∧ mFD f (b + 7) (b + 8) P.1 s' := fun s' g => ⟨mC_fr g (by omega) (by omega) hm, mFD_fr g (by omega) (by omega) hf⟩
  simp [X_Tree_grow, B_Tree_grow, eV, eI, eL, eR, e1, e2, eDI, eDL, eFI, eFL, eFR, eAI, eAZ, eAR, eLen, aN, aC, xV, xS, eX, eIf, eC_b, cA, cO, cN, sSk, sSq, sI, sL, sR, sInc, sF, sFO, sAI, sAZ, sAO, sX, sXp, sIf, sCut, sSqs, sSw, sRt, sRz_g, is01_b, is01_0, is01_1, sRv, sBk, sCt, sCp, lset, lclr, lcut, lini, lx, Value.category, ixOf, b2i_0, b2i_1, T_Pack hb, U_Pack hb, bf]
  have hT0 : mTP b w kp ([], [], [], 0) (up (up (up (up (up (up (up s (b + 10) 7 (nI w)) (b + 10) 8 km) (b + 10) 3 0) (b + 10) 4 0) (b + 10) 6 0) (b + 10) 9 0) (b + 10) 10 0) := by
    refine ⟨?_, fun k hk => ?_, ?_, ?_, ?_, ?_, ?_, fun p hp => ?_, fun q hq => ?_⟩
    · simp [up_get]
    · simpa [up_get] using hkm k hk
    · simp [up_get]; rfl
    · simp [up_get]; rfl
    · simp [up_get]; rfl
    · simp [up_get]; rfl
    · simp [up_get]; rfl
    · simp at hp
    · simp at hq
  have g0 : Fr (FT b) s (up (up (up (up (up (up (up s (b + 10) 7 (nI w)) (b + 10) 8 km) (b + 10) 3 0) (b + 10) 4 0) (b + 10) 6 0) (b + 10) 9 0) (b + 10) 10 0) := ((((((Fr.rf.up _ (Or.inl rfl)).up _ (Or.inl rfl)).up _ (Or.inl rfl)).up _ (Or.inl rfl)).up _ (Or.inl rfl)).up _ (Or.inl rfl)).up _ (Or.inl rfl)
  generalize (up (up (up (up (up (up (up s (b + 10) 7 (nI w)) (b + 10) 8 km) (b + 10) 3 0) (b + 10) 4 0) (b + 10) 6 0) (b + 10) 9 0) (b + 10) 10 0) = s0 at hT0 g0 ⊢
  refine s_Tree_addPack hb scr hP hw hT0 (by simp) hr _ fun s1 g1 g2 => ⟨rfl, by simp [T_Pack hb], ?_⟩
  have g01 := g0.tr g1 fun _ _ z => z
  obtain ⟨m1, -⟩ := st s1 g01
  refine s_Tree_operands hb scr hP hw g2.1 hr (v := vS P r) (fun k hk => ?_) _ ⟨_, rfl, by simp [T_Pack hb], ?_⟩
  · have L := wfP_ln hr hk
    have q := hs k hk
    have o := opS hP L q
    refine ⟨fun _ => ?_, fun z => ?_, by unfold vS; omega⟩
    · rw [(mC6 m1 L).2.2.2.2.1, if_pos q]; rfl
    · rw [b_0] at z; simp at z
  refine s_Tree_append hb scr hP g2 (by simp) _ fun s2 g3 g4 => ⟨rfl, ?_⟩
  have g02 := g01.tr g3 fun _ _ z => z
  refine lp_ind (fun z ls h => ∃ k s', z = 16 - k ∧ k ≤ 16 ∧ ls = [.ref (b + 10), .int (nI (encN r)), .int (nI w), .int km, .int (nI k)] ∧ h = hp scr s' ∧ Fr (FT b) s s' ∧ mTP b w kp (tAt P (pDep f) kp w r k) s') ?_ ⟨0, s2, rfl, by omega, rfl, rfl, g02, g4⟩
  rintro z ls h' ⟨k, s3, hz, hk, rfl, rfl, f1, f2⟩ X hX
  obtain ⟨n1, n2⟩ := st s3 f1
  have ok := tAt_ok (f := f) (kp := kp) hP hw hr hs hn k
  have l8 := okT_8 hP hw ok
  have f5 := f2.2.2.2.2.1
  have fq := f2.2.2.2.2.2.2.2.2
  simp [eV, eI, eL, eR, e1, e2, eDI, eDL, eFI, eFL, eFR, eAI, eAZ, eAR, eLen, aN, aC, xV, xS, eX, eIf, eC_b, cA, cO, cN, sSk, sSq, sI, sL, sR, sInc, sF, sFO, sAI, sAZ, sAO, sX, sXp, sIf, sCut, sSqs, sSw, sRt, sRz_g, is01_b, is01_0, is01_1, sRv, sBk, sCt, sCp, lset, lclr, lcut, lini, lx, Value.category, ixOf, b2i_0, b2i_1, T_Pack hb, bf, f5]
  simp (disch := omega) only [LIT, L_0le, L_0lt, L_0eq, L_eq0, L_le0, L_lt0, L_1eq, L_eq1, L_1le, L_1lt, L_lt1, L_le1, L_p1, nI_ltI, nI_leI, nI_eq, nI_add, nI_clamp]
  by_cases hlt : k < (tAt P (pDep f) kp w r k).2.1.length
  · have hB := ok.2.2.1 _ (getD_mem hlt)
    have fqk := fq k hlt
    have h16' : k < 16 := by omega
    simp only [hlt, h16', if_true]
    simp [G_Pack hb, bf, ix80 h16' (by decide), fqk]
    rw [← List.getD_eq_getElem?_getD]
    refine s_Tree_handle hb scr hP n1 n2 hw ok f2 hB.1 hB.2 _ fun s4 g5 g6 => ?_
    simp [L_p1]
    refine hX _ _ _ (by omega) ⟨k + 1, s4, rfl, by omega, rfl, rfl, f1.tr g5 fun _ _ z => z, ?_⟩
    rw [tAt, if_pos hlt]
    exact g6
  · simp only [hlt, if_false]
    refine h s3 f1 ?_
    rw [← tAt_16 (by omega) hk]
    exact f2
