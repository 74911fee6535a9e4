theorem Z27 (scr : List Int32) (s : MS) : (∀ k, k < 2 → hg (hp scr s) 28 k = some (.int (s.1 28 k))) ∧ (∀ k x, k < 2 → hs (hp scr s) 28 k (.int x) = hp scr (up s 28 k x)) ∧ (∀ k, k < 2 → hg (hp scr s) 75 k = some (.int (s.1 75 k))) ∧ (∀ k x, k < 2 → hs (hp scr s) 75 k (.int x) = hp scr (up s 75 k x)) ∧ ∀ k, k < 2 → hg (hp scr s) 29 k = some (.ref (30 + k)) := by
  have two : ∀ k, k < 2 → k = 0 ∨ k = 1 := fun k h => by omega
  refine ⟨fun k hk => ?_, fun k x hk => ?_, fun k hk => ?_, fun k x hk => ?_, fun k hk => ?_⟩ <;> rcases two k hk with rfl | rfl
  · exact fld_hg (d := 0) (by decide) rfl
  · exact fld_hg (d := 0) (by decide) rfl
  · exact hs_hp (by decide) rfl
  · exact hs_hp (by decide) rfl
  · exact fld_hg (d := 0) (by decide) rfl
  · exact fld_hg (d := 0) (by decide) rfl
  · exact hs_hp (by decide) rfl
  · exact hs_hp (by decide) rfl
  · exact fld_hg (d := 32) (by decide) rfl
  · exact fld_hg (d := 33) (by decide) rfl
theorem arr_hn {scr : List Int32} {s : MS} {r n : Nat} (h : arr r n) : hn (hp scr s) r = some n := by
  obtain ⟨vs, h1, h2, h3⟩ := arr_src (scr := scr) (s := s) h
  unfold hn
  rw [h1, ← h2]
  rfl
theorem cpS_val (s : MS) (r q sp dp N a b : Nat) : (cpS s r q sp dp N).1 a b = if a = q ∧ dp ≤ b ∧ b < dp + N then s.1 r (sp + (b - dp)) else s.1 a b := rfl
theorem t_choose {P : PC} (scr : List Int32) {s : MS} (hP : okP P) (hm : mC P 6 s) {w : Row} (ok : okRow w) (hr : mRw 20 w s) (Q : Option Value → HV → Prop) (h : ∀ s', Fr (fun r _ => 35 ≤ r ∧ r ≤ 47) s s' → mNow P w s' → Q none (hp scr s')) : X_Pack_choosePacks [.ref 35, .ref 20, .int 0] (hp scr s) Q := by
  refine s_Pack_choosePacks (b := 35) (Or.inl rfl) scr hP hm (Or.inl rfl) (mRow_of hr ok) ok.1 (om := 0) (out := no) (fun k hk => b_0 k) (by simp [no]) (by simp [no]) Q fun s' g1 g2 g3 g4 g5 => h s' (g1.wk fun r k z => by omega) ⟨g2, g3, g4, fun j hj => g5 j hj ?_ rfl⟩
  have := (cAt_ok (P := P) (f := fol P w no) (out := no) hP ok.1.2.2 (by simp [no]) (2 * (9 - rW w))).2
  unfold sOk at this
  rw [allB_iff] at this
  exact this j hj
theorem mNow_row {P : PC} {w v : Row} {s : MS} (h1 : rB v = rB w) (h2 : rK v = rK w) (h3 : rW v = rW w) (h : mNow P w s) : mNow P v s := by
  unfold mNow ord chs fol at h ⊢
  rw [h1, h2, h3]
  exact h
def pushH (H : List Row) (w : Row) : List Row := (if H.length < 14 then H else H.drop 1) ++ [w]
theorem pushH_len {H : List Row} {w : Row} (h : H.length ≤ 14) : (pushH H w).length = if H.length < 14 then H.length + 1 else 14 := by
  unfold pushH
  split
  · simp
  · simp; omega
theorem pushH_get {H : List Row} {w : Row} (h : H.length ≤ 14) {m : Nat} (hm : m < (pushH H w).length) : (pushH H w).getD m zR = if m + 1 = (pushH H w).length then w else H.getD (if H.length < 14 then m else m + 1) zR := by
  have hl := pushH_len (w := w) h
  unfold pushH at hm ⊢
  rw [getD_app2 hm]
  by_cases c : H.length < 14
  · rw [if_pos c] at hm ⊢
    simp only [List.length_append, List.length_singleton, if_pos c] at hm ⊢
    by_cases e : m = H.length
    · rw [if_pos e, if_pos (by omega)]
    · rw [if_neg e, if_neg (by omega)]
  · rw [if_neg c] at hm ⊢
    simp only [List.length_append, List.length_singleton, List.length_drop, if_neg c] at hm ⊢
    by_cases e : m = H.length - 1
    · rw [if_pos e, if_pos (by omega)]
    · rw [if_neg e, if_neg (by omega), List.getD_eq_getElem?_getD, List.getD_eq_getElem?_getD, List.getElem?_drop, Nat.add_comm 1 m]
theorem getD_apR {H : List Row} {w : Row} {m : Nat} (h : m ≤ H.length) : (H ++ [w]).getD m zR = if m = H.length then w else H.getD m zR := getD_app2 (by simp; omega)
theorem mAc_push {H : List Row} {w : Row} {p : Nat} {v : Int32} {s s' : MS} (hl : H.length ≤ 14) (hpl : p < 19) (h : mAc H w s) (h1 : s'.1 24 2 = nI (pushH H w).length) (h2 : ∀ m, m < (pushH H w).length → s'.1 25 m = (if m + 1 = (pushH H w).length then nI p else s.1 25 (if H.length < 14 then m else m + 1)) ∧ s'.1 26 m = if m + 1 = (pushH H w).length then w p else s.1 26 (if H.length < 14 then m else m + 1)) : mAc (pushH H w) (fset w p v) s' := by
  have hlen := pushH_len (w := w) hl
  refine ⟨h1, fun m hm => ?_⟩
  obtain ⟨a1, a2⟩ := h2 m hm
  have nx : (pushH H w ++ [fset w p v]).getD (m + 1) zR = if m + 1 = (pushH H w).length then fset w p v else (pushH H w).getD (m + 1) zR := getD_apR (by omega)
  rw [nx, pushH_get hl hm, a1, a2]
  by_cases e : m + 1 = (pushH H w).length
  · simp only [if_pos e]
    refine ⟨p, hpl, rfl, fun k _ => ?_⟩
    unfold fset
    split
    · next q => rw [q]
    · rfl
  · simp only [if_neg e]
    have lt2 : m + 1 < (pushH H w).length := by omega
    rw [pushH_get hl lt2]
    have hM : (if H.length < 14 then m else m + 1) < H.length := by split at hlen <;> rename_i c <;> simp [c] <;> omega
    obtain ⟨q, q1, q2, q3⟩ := h.2 _ hM
    refine ⟨q, q1, q2, fun k hk => ?_⟩
    rw [q3 k hk]
    have e2 : (H ++ [w]).getD ((if H.length < 14 then m else m + 1) + 1) zR = if m + 1 + 1 = (pushH H w).length then w else H.getD (if H.length < 14 then m + 1 else m + 1 + 1) zR := by
      rw [getD_apR (by omega)]
      by_cases c : H.length < 14
      · simp only [if_pos c] at hlen ⊢
        by_cases d : m + 1 = H.length
        · rw [if_pos d, if_pos (by omega)]
        · rw [if_neg d, if_neg (by omega)]
      · simp only [if_neg c] at hlen ⊢
        by_cases d : m + 1 + 1 = H.length
        · rw [if_pos d, if_pos (by omega)]
        · rw [if_neg d, if_neg (by omega)]
    rw [e2]
theorem s_Acts_remember (scr : List Int32) {s : MS} {H : List Row} {w : Row} (hA : mAc H w s) (hl : H.length ≤ 14) {p : Nat} (hpl : p < 19) (v : Int32) (Q : Option Value → HV → Prop)
    (h : ∀ s', Fr (fun r k => r = 25 ∨ r = 26 ∨ (r = 24 ∧ k = 2)) s s' → mAc (pushH H w) (fset w p v) s' → Q none (hp scr s')) : X_Acts_remember [.ref 24, .int (nI p), .int (w p)] (hp scr s) Q := by
  have e1 := hA.1
  have hlen := pushH_len (w := w) hl
  simp [X_Acts_remember, B_Acts_remember, lini, lx, Value.category]
  rw [sSq_if (t := decide (14 ≤ H.length)) (by
    intro K
    simp [eV, eI, eL, eR, e1, e2, eDI, eDL, eFI, eFL, eFR, eAI, eAZ, eAR, eLen, aN, aC, xV, xS, eX, eIf, eC_b, cA, cO, cN, sSk, sSq, sI, sL, sR, sInc, sF, sFO, sAI, sAZ, sAO, sX, sXp, sIf, sCut, sSqs, sSw, sRt, sRz_g, is01_b, is01_0, is01_1, sRv, sBk, sCt, sCp, lset, lclr, lcut, lini, lx, Value.category, ixOf, b2i_0, b2i_1, T_Acts, e1]
    simp (disch := omega) only [LIT, L_0le, L_0lt, L_0eq, L_eq0, L_le0, L_lt0, L_1eq, L_eq1, L_1le, L_1lt, L_lt1, L_le1, L_p1, nI_ltI, nI_leI, nI_eq, nI_add, nI_clamp])]
  by_cases c : H.length < 14
  · have c2 : ¬ 14 ≤ H.length := by omega
    rw [if_pos c] at hlen
    simp only [c2, decide_false, Bool.false_eq_true, if_false, sSk_eq]
    simp [eV, eI, eL, eR, e1, e2, eDI, eDL, eFI, eFL, eFR, eAI, eAZ, eAR, eLen, aN, aC, xV, xS, eX, eIf, eC_b, cA, cO, cN, sSk, sSq, sI, sL, sR, sInc, sF, sFO, sAI, sAZ, sAO, sX, sXp, sIf, sCut, sSqs, sSw, sRt, sRz_g, is01_b, is01_0, is01_1, sRv, sBk, sCt, sCp, lset, lclr, lcut, lini, lx, Value.category, ixOf, b2i_0, b2i_1, T_Acts, U_Acts, G_Acts, e1, ix80 c (by decide), up_get, L_p1]
    refine h _ (((Fr.rf.up _ (by omega)).up _ (by omega)).up _ (by omega)) (mAc_push hl hpl hA (by simp [up_get, hlen]) fun m hm => ?_)
    rw [hlen] at hm ⊢
    simp only [if_pos c]
    by_cases e : m = H.length
    · subst e; simp [up_get]
    · simp [up_get, e]
  · have c2 : 14 ≤ H.length := by omega
    have l14 : H.length = 14 := by omega
    rw [if_neg c] at hlen
    simp only [c2, decide_true, if_true]
    refine sSq_Cp (r := 25) (q := 25) (n := 14) (n2 := 14) (sp := 1) (dp := 0) (N := 13) A_Acts_1 A_Acts_1 (by omega) (by omega) (by omega) (by omega) ?_ (fun K hK => hK) ?_ (fun K hK => hK) (fun K hK => hK) ?_
    · intro K hK; simpa [eV, eI, eL, eR, e1, e2, eDI, eDL, eFI, eFL, eFR, eAI, eAZ, eAR, eLen, aN, aC, xV, xS, eX, eIf, eC_b, cA, cO, cN, sSk, sSq, sI, sL, sR, sInc, sF, sFO, sAI, sAZ, sAO, sX, sXp, sIf, sCut, sSqs, sSw, sRt, sRz_g, is01_b, is01_0, is01_1, sRv, sBk, sCt, sCp, lset, lclr, lcut, lini, lx, Value.category, ixOf, b2i_0, b2i_1, T_Acts] using hK
    · intro K hK; simpa [eV, eI, eL, eR, e1, e2, eDI, eDL, eFI, eFL, eFR, eAI, eAZ, eAR, eLen, aN, aC, xV, xS, eX, eIf, eC_b, cA, cO, cN, sSk, sSq, sI, sL, sR, sInc, sF, sFO, sAI, sAZ, sAO, sX, sXp, sIf, sCut, sSqs, sSw, sRt, sRz_g, is01_b, is01_0, is01_1, sRv, sBk, sCt, sCp, lset, lclr, lcut, lini, lx, Value.category, ixOf, b2i_0, b2i_1, T_Acts] using hK
    have g1 : Fr (fun r k => r = 25 ∨ r = 26 ∨ (r = 24 ∧ k = 2)) s (cpS s 25 25 1 0 13) := (cpS_fr (s := s)).wk fun r k z => by omega
    have v1 : ∀ b, b < 13 → (cpS s 25 25 1 0 13).1 25 b = s.1 25 (b + 1) := fun b hb => by rw [cpS_val, if_pos (by omega), show 1 + (b - 0) = b + 1 by omega]
    have v2 : ∀ b, (cpS s 25 25 1 0 13).1 26 b = s.1 26 b := fun b => by rw [cpS_val, if_neg (by omega)]
    generalize cpS s 25 25 1 0 13 = s1 at g1 v1 v2 ⊢
    refine sSq_Cp (r := 26) (q := 26) (n := 14) (n2 := 14) (sp := 1) (dp := 0) (N := 13) A_Acts_2 A_Acts_2 (by omega) (by omega) (by omega) (by omega) ?_ (fun K hK => hK) ?_ (fun K hK => hK) (fun K hK => hK) ?_
    · intro K hK; simpa [eV, eI, eL, eR, e1, e2, eDI, eDL, eFI, eFL, eFR, eAI, eAZ, eAR, eLen, aN, aC, xV, xS, eX, eIf, eC_b, cA, cO, cN, sSk, sSq, sI, sL, sR, sInc, sF, sFO, sAI, sAZ, sAO, sX, sXp, sIf, sCut, sSqs, sSw, sRt, sRz_g, is01_b, is01_0, is01_1, sRv, sBk, sCt, sCp, lset, lclr, lcut, lini, lx, Value.category, ixOf, b2i_0, b2i_1, T_Acts] using hK
    · intro K hK; simpa [eV, eI, eL, eR, e1, e2, eDI, eDL, eFI, eFL, eFR, eAI, eAZ, eAR, eLen, aN, aC, xV, xS, eX, eIf, eC_b, cA, cO, cN, sSk, sSq, sI, sL, sR, sInc, sF, sFO, sAI, sAZ, sAO, sX, sXp, sIf, sCut, sSqs, sSw, sRt, sRz_g, is01_b, is01_0, is01_1, sRv, sBk, sCt, sCp, lset, lclr, lcut, lini, lx, Value.category, ixOf, b2i_0, b2i_1, T_Acts] using hK
    have g2 : Fr (fun r k => r = 25 ∨ r = 26 ∨ (r = 24 ∧ k = 2)) s (cpS s1 26 26 1 0 13) := g1.tr cpS_fr fun r k z => by omega
    have v3 : ∀ b, b < 13 → (cpS s1 26 26 1 0 13).1 26 b = s.1 26 (b + 1) := fun b hb => by rw [cpS_val, if_pos (by omega), v2, show 1 + (b - 0) = b + 1 by omega]
    have v4 : ∀ b, b < 13 → (cpS s1 26 26 1 0 13).1 25 b = s.1 25 (b + 1) := fun b hb => by rw [cpS_val, if_neg (by omega), v1 b hb]
    generalize cpS s1 26 26 1 0 13 = s2 at g2 v3 v4 ⊢
    simp [eV, eI, eL, eR, e1, e2, eDI, eDL, eFI, eFL, eFR, eAI, eAZ, eAR, eLen, aN, aC, xV, xS, eX, eIf, eC_b, cA, cO, cN, sSk, sSq, sI, sL, sR, sInc, sF, sFO, sAI, sAZ, sAO, sX, sXp, sIf, sCut, sSqs, sSw, sRt, sRz_g, is01_b, is01_0, is01_1, sRv, sBk, sCt, sCp, lset, lclr, lcut, lini, lx, Value.category, ixOf, b2i_0, b2i_1, T_Acts, U_Acts, G_Acts, up_get, show (13 : Int32).toNatClampNeg = 13 from rfl]
    refine h _ ((((g2.up _ (by omega)).up _ (by omega)).up _ (by omega)).up _ (by omega)) (mAc_push hl hpl hA (by simp [up_get, hlen]; rfl) fun m hm => ?_)
    rw [hlen] at hm ⊢
    simp only [if_neg c]
    by_cases e : m = 13
    · subst e; simp [up_get]
    · simp [up_get, e]
      exact ⟨v4 m (by omega), v3 m (by omega)⟩
theorem mAr_push {H : List Row} {w : Row} {s s' : MS} (hl : H.length ≤ 14) {nx : Nat} (hn : nx < 14) (h : ∀ m, m < H.length → ∀ k, k < 19 → s.1 73 (19 * ((nx + 14 - H.length + m) % 14) + k) = (H.getD m zR) k) (h1 : s'.1 65 10 = nI (pushH H w).length) (h2 : s'.1 65 11 = nI ((nx + 1) % 14)) (h3 : ∀ j k, j < 14 → k < 19 → s'.1 73 (19 * j + k) = if j = nx then w k else s.1 73 (19 * j + k)) : mAr (pushH H w) s' := by
  have hlen := pushH_len (w := w) hl
  refine ⟨h1, (nx + 1) % 14, by omega, h2, fun m hm k hk => ?_⟩
  rw [h3 _ _ (by omega) hk, pushH_get hl hm]
  by_cases c : H.length < 14
  · rw [if_pos c] at hlen
    rw [hlen] at hm ⊢
    simp only [if_pos c]
    by_cases e : m = H.length
    · rw [if_pos (by omega), if_pos (by omega)]
    · rw [if_neg (by omega), if_neg (by omega)]
      have := h m (by omega) k hk
      rw [← this, show ((nx + 1) % 14 + 14 - (H.length + 1) + m) % 14 = (nx + 14 - H.length + m) % 14 by omega]
  · rw [if_neg c] at hlen
    have l14 : H.length = 14 := by omega
    rw [hlen] at hm ⊢
    simp only [if_neg c]
    by_cases e : m = 13
    · rw [if_pos (by omega), if_pos (by omega)]
    · rw [if_neg (by omega), if_neg (by omega)]
      have := h (m + 1) (by omega) k hk
      rw [← this, show ((nx + 1) % 14 + 14 - 14 + m) % 14 = (nx + 14 - H.length + (m + 1)) % 14 by omega]
theorem s_R_note (scr : List Int32) {s : MS} {H : List Row} {w : Row} (hA : mAr H s) (hl : H.length ≤ 14) (hw : mRw 71 w s) (Q : Option Value → HV → Prop)
    (h : ∀ s', Fr (fun r k => r = 73 ∨ (r = 65 ∧ (k = 10 ∨ k = 11))) s s' → mAr (pushH H w) s' → Q none (hp scr s')) : X_R_note [.ref 65] (hp scr s) Q := by
  obtain ⟨e1, nx, hn, e2', hA⟩ := hA
  have hlen := pushH_len (w := w) hl
  simp [X_R_note, B_R_note, eV, eI, eL, eR, e1, e2, eDI, eDL, eFI, eFL, eFR, eAI, eAZ, eAR, eLen, aN, aC, xV, xS, eX, eIf, eC_b, cA, cO, cN, sSk, sSq, sI, sL, sR, sInc, sF, sFO, sAI, sAZ, sAO, sX, sXp, sIf, sCut, sSqs, sSw, sRt, sRz_g, is01_b, is01_0, is01_1, sRv, sBk, sCt, sCp, lset, lclr, lcut, lini, lx, Value.category, ixOf, b2i_0, b2i_1]
  refine lp_ind (fun z ls h => ∃ k s', z = 19 - k ∧ k ≤ 19 ∧ ls = [.ref 65, .int (nI k)] ∧ h = hp scr s' ∧ Fr (fun r _ => r = 73) s s' ∧ (∀ b, b < k → s'.1 73 (19 * nx + b) = w b) ∧ ∀ b, b < 19 * nx ∨ 19 * nx + k ≤ b → s'.1 73 b = s.1 73 b) ?_ ⟨0, s, rfl, by omega, rfl, rfl, Fr.rf, fun b hb => by omega, fun b _ => rfl⟩
  rintro z ls h' ⟨k, s1, hz, hk, rfl, rfl, g1, g2, g3⟩ X hX
  have x11 : s1.1 65 11 = nI nx := by rw [g1.2 _ _ (by omega), e2']
  have x10 : s1.1 65 10 = nI H.length := by rw [g1.2 _ _ (by omega), e1]
  refine cX (t := decide (k < 19)) (h' := hp scr s1) ?h1 ?h2
  case h1 =>
    intro K
    simp [eV, eI, eL, eR, e1, e2, eDI, eDL, eFI, eFL, eFR, eAI, eAZ, eAR, eLen, aN, aC, xV, xS, eX, eIf, eC_b, cA, cO, cN, sSk, sSq, sI, sL, sR, sInc, sF, sFO, sAI, sAZ, sAO, sX, sXp, sIf, sCut, sSqs, sSw, sRt, sRz_g, is01_b, is01_0, is01_1, sRv, sBk, sCt, sCp, lset, lclr, lcut, lini, lx, Value.category, ixOf, b2i_0, b2i_1]
    simp (disch := omega) only [LIT, L_0le, L_0lt, L_0eq, L_eq0, L_le0, L_lt0, L_1eq, L_eq1, L_1le, L_1lt, L_lt1, L_le1, L_p1, nI_ltI, nI_leI, nI_eq, nI_add, nI_clamp]
  case h2 =>
    by_cases hlt : k < 19
    · have e70 : s1.1 71 k = w k := by rw [g1.2 _ _ (by omega)]; exact hw k hlt
      have ei : (19 : Int32) * nI nx + nI k = nI (19 * nx + k) := by rw [show (19 : Int32) = nI 19 from rfl, nI_mul, nI_add]
      simp only [hlt, decide_true, if_true]
      simp [eV, eI, eL, eR, e1, e2, eDI, eDL, eFI, eFL, eFR, eAI, eAZ, eAR, eLen, aN, aC, xV, xS, eX, eIf, eC_b, cA, cO, cN, sSk, sSq, sI, sL, sR, sInc, sF, sFO, sAI, sAZ, sAO, sX, sXp, sIf, sCut, sSqs, sSw, sRt, sRz_g, is01_b, is01_0, is01_1, sRv, sBk, sCt, sCp, lset, lclr, lcut, lini, lx, Value.category, ixOf, b2i_0, b2i_1, T_R, G_R, x11, ei, ix80 hlt (by decide), ix80 (show 19 * nx + k < 266 by omega) (by decide), e70, L_p1]
      refine hX _ _ _ (by rw [hz]; omega) ⟨k + 1, _, rfl, hlt, rfl, rfl, g1.up _ rfl, fun b hb => ?_, fun b hb => ?_⟩
      · by_cases c : b = k
        · subst c; simp [up_get]
        · simp [up_get, c]; exact g2 b (by omega)
      · have c : b ≠ 19 * nx + k := by omega
        simp [up_get, c]
        exact g3 b (by omega)
    · have : k = 19 := by omega
      subst this
      simp only [hlt, decide_false, Bool.false_eq_true, if_false]
      have em : nI nx + 1 - (nI nx + 1) / 14 * 14 = nI ((nx + 1) % 14) := by
        rw [L_p1, show (14 : Int32) = nI 14 from rfl, pk_rem (by omega) (by decide) (by decide)]
      have ec : (nI H.length < 14) = (H.length < 14) := by rw [show (14 : Int32) = nI 14 from rfl]; exact propext (nI_ltI (by omega) (by decide))
      have fin := fun s' (f1 : Fr (fun r k => r = 73 ∨ (r = 65 ∧ (k = 10 ∨ k = 11))) s s') (f2 : s'.1 65 10 = nI (pushH H w).length) (f3 : s'.1 65 11 = nI ((nx + 1) % 14)) (f4 : ∀ b, s'.1 73 b = s1.1 73 b) => h s' f1 (mAr_push hl hn hA f2 f3 fun j b hj hb => by
        rw [f4]
        by_cases c : j = nx
        · rw [if_pos c, c]; exact g2 b hb
        · rw [if_neg c]
          exact g3 _ (by omega))
      simp [eV, eI, eL, eR, e1, e2, eDI, eDL, eFI, eFL, eFR, eAI, eAZ, eAR, eLen, aN, aC, xV, xS, eX, eIf, eC_b, cA, cO, cN, sSk, sSq, sI, sL, sR, sInc, sF, sFO, sAI, sAZ, sAO, sX, sXp, sIf, sCut, sSqs, sSw, sRt, sRz_g, is01_b, is01_0, is01_1, sRv, sBk, sCt, sCp, lset, lclr, lcut, lini, lx, Value.category, ixOf, b2i_0, b2i_1, T_R, U_R, x11, x10, em, up_get, ec]
      by_cases c : H.length < 14
      · rw [if_pos c] at hlen
        simp [c, L_p1]
        exact fin _ (((g1.wk fun r k z => by omega).up _ (by omega)).up _ (by omega)) (by simp [up_get, hlen]) (by simp [up_get]) (fun b => by simp [up_get])
      · rw [if_neg c] at hlen
        simp [c]
        exact fin _ (((g1.wk fun r k z => by omega).up _ (by omega)).up _ (by omega)) (by simp [up_get, hlen]; rfl) (by simp [up_get]) (fun b => by simp [up_get])
