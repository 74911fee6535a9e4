theorem mPt_fr {b : Nat} {L : List (List Nat)} {F : Nat → Nat → Prop} {s s' : MS} (h : Fr F s s') (a : ∀ k, ¬ F (b + 1) k) (hm : mPt b L s) : mPt b L s' := by
  intro i hi
  rw [h.2 _ _ (a _)]
  exact hm i hi
theorem mem_fl {N : Nat → Bool} {n j : Nat} : j ∈ fl N n ↔ j < n ∧ N j = true := by simp [fl]
theorem sAt_ord {P : PC} {g : Nat → Nat → Bool} {L : List (List Nat)} {D0 : Nat → Bool} (hL : L.flatten.Nodup) (h0 : ∀ i j, D0 i = true → nd L i j = true → D0 j = true) : ∀ n, (sAt P g L D0 n).2.2.2.Nodup ∧ ∀ x, x ∈ (sAt P g L D0 n).2.2.2 → x < P.1 ∧ (sAt P g L D0 n).1 x = true
  | 0 => by simp [sAt]
  | n + 1 => by
    obtain ⟨i1, i2⟩ := sAt_ord (P := P) (g := g) hL h0 n
    have cl := sAt_nd (P := P) (g := g) hL h0 n
    rw [sAt, sStep]
    cases hn : nxt P g L (sAt P g L D0 n).1 with
    | none => exact ⟨i1, i2⟩
    | some i =>
      have sp := nxt_spec (P := P) (g := g) (L := L) (D := (sAt P g L D0 n).1)
      rw [hn] at sp
      obtain ⟨-, hi, hd, -⟩ := sp
      simp only [Bool.and_eq_true, Bool.not_eq_true'] at hd
      constructor
      · show ((sAt P g L D0 n).2.2.2 ++ fl (nd L i) P.1).Nodup
        rw [List.nodup_append]
        refine ⟨i1, List.Pairwise.filter _ List.nodup_range, fun x hx y hy e => ?_⟩
        subst e
        rw [mem_fl] at hy
        have := cl x i (i2 x hx).2 (nd_symm hy.2)
        rw [hd.1] at this
        exact absurd this (by simp)
      · intro x hx
        have hx : x ∈ (sAt P g L D0 n).2.2.2 ++ fl (nd L i) P.1 := hx
        rcases List.mem_append.mp hx with q | q
        · exact ⟨(i2 x q).1, by simp [sNext, (i2 x q).2]⟩
        · rw [mem_fl] at q
          exact ⟨q.1, by simp [sNext, q.2]⟩
theorem sAt_ol {P : PC} {g : Nat → Nat → Bool} {L : List (List Nat)} {D0 : Nat → Bool} (hP : okP P) (hL : L.flatten.Nodup) (h0 : ∀ i j, D0 i = true → nd L i j = true → D0 j = true) (n : Nat) : (sAt P g L D0 n).2.2.2.length ≤ 16 := by
  obtain ⟨i1, i2⟩ := sAt_ord (P := P) (g := g) hL h0 n
  have b := (dif_nd _ fun x hx => Nat.lt_of_lt_of_le (i2 x hx).1 hP.1).mpr i1
  have c : dif (sAt P g L D0 n).2.2.2 ≤ 16 := cnt_le _ 16
  omega
theorem nd_lt {P : PC} {w : Nat} {L : List (List Nat)} (hw : ∀ B, B ∈ L → wfP P w B) {i j : Nat} (hi : i < P.1) (h : nd L i j = true) : j < P.1 := by
  rw [nd_iff] at h
  rcases h with rfl | ⟨B, b1, b2, b3⟩
  · exact hi
  · exact (hw B b1).2 j b3
theorem sAt_dl {P : PC} {g : Nat → Nat → Bool} {w : Nat} {L : List (List Nat)} {D0 : Nat → Bool} (hw : ∀ B, B ∈ L → wfP P w B) (h0 : ∀ k, D0 k = true → k < P.1) : ∀ n k, (sAt P g L D0 n).1 k = true → k < P.1
  | 0, k, h => h0 k h
  | n + 1, k, h => by
    have ih := sAt_dl (P := P) (g := g) hw h0 n
    rw [sAt, sStep] at h
    cases hn : nxt P g L (sAt P g L D0 n).1 with
    | none =>
      rw [hn] at h
      exact ih k h
    | some i =>
      rw [hn] at h
      have sp := nxt_spec (P := P) (g := g) (L := L) (D := (sAt P g L D0 n).1)
      rw [hn] at sp
      simp only [sNext, Bool.or_eq_true] at h
      rcases h with h | h
      · exact ih k h
      · exact nd_lt hw sp.2.1 h
theorem s_Pack_putInOrder {P : PC} {b : Nat} (hb : pB b) (scr : List Int32) {s : MS} (hP : okP P) (hm : mC P 6 s) {f : Nat → Nat → Bool} (hf : mFD f (b + 7) (b + 8) P.1 s) {w : Nat} {L : List (List Nat)} (hw : ∀ B, B ∈ L → wfP P w B) (hLn : L.flatten.Nodup) (hL : mPt b L s) {out : Nat → Bool} (hou : mk (s.1 (b + 6) 4) out) (hol : ∀ k, out k = true → k < P.1) (hon : ∀ i j, out i = true → nd L i j = true → out j = true) (Q : Option Value → HV → Prop)
    (h : ∀ s', Fr (FO b) s s' → mOr b (sFin P (gF f) L out).2.2.2 s' → (∀ j, j < P.1 → (sFin P (gF f) L out).1 j = true → out j = false → s'.1 (b + 4) j = nI ((sFin P (gF f) L out).2.2.1 j)) → Q (some (.int (b2i (sOk P (gF f) L out)))) (hp scr s')) : X_Pack_putInOrder [.ref b] (hp scr s) Q := by
  have h16 := hP.1
  have bf := pbf hb
  have am := all_mask h16
  simp [X_Pack_putInOrder, B_Pack_putInOrder, eV, eI, eL, eR, e1, e2, eDI, eDL, eFI, eFL, eFR, eAI, eAZ, eAR, eLen, aN, aC, xV, xS, eX, eIf, eC_b, cA, cO, cN, sSk, sSq, sI, sL, sR, sInc, sF, sFO, sAI, sAZ, sAO, sX, sXp, sIf, sCut, sSqs, sSw, sRt, sRz_g, is01_b, is01_0, is01_1, sRv, sBk, sCt, sCp, lset, lclr, lcut, lini, lx, Value.category, ixOf, b2i_0, b2i_1, T_Pack hb, U_Pack hb, T_Code c6, bf, hm.1, am]
  refine lp_ind (fun z ls h => ∃ n x s', z = 17 - n ∧ n ≤ 16 ∧ mk x (sAt P (gF f) L out n).1 ∧ ls = [.ref b, .int (nI (2 ^ P.1 - 1)), .int x, .int (nI (sAt P (gF f) L out n).2.1), .int (nI n), .null] ∧ h = hp scr s' ∧ Fr (FO b) s s' ∧ mOr b (sAt P (gF f) L out n).2.2.2 s' ∧ (∀ j, j < P.1 → (sAt P (gF f) L out n).1 j = true → out j = false → s'.1 (b + 4) j = nI ((sAt P (gF f) L out n).2.2.1 j))) ?_ ⟨0, _, _, rfl, by omega, hou, rfl, rfl, Fr.rf.up _ (by omega), ⟨up_same, fun q hq => by simp [sAt] at hq⟩, fun j hj a1 a2 => by simp only [sAt] at a1; rw [a1] at a2; exact absurd a2 (by simp)⟩
  rintro z ls h' ⟨n, x, s1, hz, hn, hx, rfl, rfl, g1, g2, g3⟩ X hX
  have m1 : mC P 6 s1 := mC_fr g1 (by omega) (by omega) hm
  have d1 : mFD f (b + 7) (b + 8) P.1 s1 := mFD_fr g1 (by omega) (by omega) hf
  have p1 : mPt b L s1 := mPt_fr g1 (by omega) hL
  have al := mk_all hx (sAt_dl (P := P) (g := gF f) hw hol n) h16
  have ol := sAt_ol (g := gF f) hP hLn hon (n + 1)
  refine cX (t := decide (n < 16) && !allB (sAt P (gF f) L out n).1 P.1) (h' := hp scr s1) ?h1 ?h2
  case h1 =>
    intro K
    simp [eV, eI, eL, eR, e1, e2, eDI, eDL, eFI, eFL, eFR, eAI, eAZ, eAR, eLen, aN, aC, xV, xS, eX, eIf, eC_b, cA, cO, cN, sSk, sSq, sI, sL, sR, sInc, sF, sFO, sAI, sAZ, sAO, sX, sXp, sIf, sCut, sSqs, sSw, sRt, sRz_g, is01_b, is01_0, is01_1, sRv, sBk, sCt, sCp, lset, lclr, lcut, lini, lx, Value.category, ixOf, b2i_0, b2i_1, al]
    simp (disch := omega) only [LIT, L_0le, L_0lt, L_0eq, L_eq0, L_le0, L_lt0, L_1eq, L_eq1, L_1le, L_1lt, L_lt1, L_le1, L_p1, nI_ltI, nI_leI, nI_eq, nI_add, nI_clamp]
    by_cases c : n < 16 <;> simp [c]
  case h2 =>
    have fin : allB (sAt P (gF f) L out n).1 P.1 = true ∨ n = 16 → Q (some (.int (b2i (allB (sAt P (gF f) L out n).1 P.1)))) (hp scr s1) := by
      intro q
      have e : sAt P (gF f) L out n = sFin P (gF f) L out := by
        rcases q with q | q
        · exact sAt_fin hn (nxt_all q)
        · rw [q]; rfl
      have := h s1 g1 (by rw [← e]; exact g2) (by rw [← e]; exact g3)
      unfold sOk at this
      rw [← e] at this
      exact this
    cases hA : allB (sAt P (gF f) L out n).1 P.1 with
    | true =>
      rw [hA] at fin al
      simp [eV, eI, eL, eR, e1, e2, eDI, eDL, eFI, eFL, eFR, eAI, eAZ, eAR, eLen, aN, aC, xV, xS, eX, eIf, eC_b, cA, cO, cN, sSk, sSq, sI, sL, sR, sInc, sF, sFO, sAI, sAZ, sAO, sX, sXp, sIf, sCut, sSqs, sSw, sRt, sRz_g, is01_b, is01_0, is01_1, sRv, sBk, sCt, sCp, lset, lclr, lcut, lini, lx, Value.category, ixOf, b2i_0, b2i_1, al]
      exact fin (Or.inl rfl)
    | false =>
      by_cases hlt : n < 16
      · simp only [hlt, decide_true, Bool.not_false, Bool.and_self, if_true]
        simp [eV, eI, eL, eR, e1, e2, eDI, eDL, eFI, eFL, eFR, eAI, eAZ, eAR, eLen, aN, aC, xV, xS, eX, eIf, eC_b, cA, cO, cN, sSk, sSq, sI, sL, sR, sInc, sF, sFO, sAI, sAZ, sAO, sX, sXp, sIf, sCut, sSqs, sSw, sRt, sRz_g, is01_b, is01_0, is01_1, sRv, sBk, sCt, sCp, lset, lclr, lcut, lini, lx, Value.category, ixOf, b2i_0, b2i_1, T_Pack hb, bf]
        refine s_Pack_leastReady hb scr hP m1 d1 p1 hx _ ⟨_, rfl, ?_⟩
        rw [sAt] at ol
        cases hN : nxt P (gF f) L (sAt P (gF f) L out n).1 with
        | none =>
          have e := sAt_fin hn hN
          have := h s1 g1 (by rw [← e]; exact g2) (by rw [← e]; exact g3)
          unfold sOk at this
          rw [← e, hA] at this
          simp [vO, n9lt]
          exact this
        | some i =>
          have sp := nxt_spec (P := P) (g := gF f) (L := L) (D := (sAt P (gF f) L out n).1)
          rw [hN] at sp
          have hi : i < P.1 := sp.2.1
          have ng : (nI i < 0) = False := L_lt0 (by omega)
          rw [sStep, hN] at ol
          simp [vO, ng, T_Pack hb, G_Pack hb, bf, ixf hP.1 hi]
          refine s_Pack_appendNode hb scr hP m1 (p1 i (by omega)) g2 (by simpa [sNext, fl] using ol) _ _ fun s2 f1 f2 f3 => ⟨rfl, ?_⟩
          have p2 : mPt b L s2 := mPt_fr (g1.tr f1 fun _ _ z => z) (by omega) hL
          have eS : sAt P (gF f) L out (n + 1) = sNext P L (sAt P (gF f) L out n) (some i) := by rw [sAt, sStep, hN]
          simp [T_Pack hb, G_Pack hb, bf, ixf hP.1 hi, L_p1]
          refine hX _ _ _ (by rw [hz]; omega) ⟨n + 1, _, s2, rfl, by omega, ?_, by rw [eS]; rfl, rfl, g1.tr f1 fun _ _ z => z, ?_, fun j hj a1 a2 => ?_⟩
          · rw [eS]
            intro k hk
            rw [b_or, hx k hk, p2 i (by omega) k hk]
            rfl
          · rw [eS]
            exact f2
          · rw [eS] at a1 ⊢
            rw [f3 j hj]
            simp only [sNext] at a1 ⊢
            by_cases c : nd L i j = true
            · rw [if_pos c, if_pos c]
            · rw [if_neg c, if_neg c]
              refine g3 j hj ?_ a2
              rw [Bool.or_eq_true] at a1
              exact a1.resolve_right c
      · have : n = 16 := by omega
        subst this
        rw [hA] at fin al
        simp [eV, eI, eL, eR, e1, e2, eDI, eDL, eFI, eFL, eFR, eAI, eAZ, eAR, eLen, aN, aC, xV, xS, eX, eIf, eC_b, cA, cO, cN, sSk, sSq, sI, sL, sR, sInc, sF, sFO, sAI, sAZ, sAO, sX, sXp, sIf, sCut, sSqs, sSw, sRt, sRz_g, is01_b, is01_0, is01_1, sRv, sBk, sCt, sCp, lset, lclr, lcut, lini, lx, Value.category, ixOf, b2i_0, b2i_1, al]
        exact fin (Or.inr rfl)
