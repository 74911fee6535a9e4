/-! the law's loop -/
theorem l_case {e : PX Bool} {rest : PS} {kn kb kc : LV → HV → Prop} {kr : Option Value → HV → Prop} {ls : LV} {scr : List Int32} {h : HV} (hc : ∀ K : Bool → HV → Prop, (∀ A' s', J A' s' → K false (hp scr s')) → e ls h K) (hb : ∀ A' s', J A' s' → kb ls (hp scr s')) : sSq (sSq (sIf e (sRz (eV (0 : Int32))) sSk) sBk) rest kn kb kc kr ls h :=
  hc _ fun A' s' hj => hb A' s' hj
theorem l_sw {n : Nat} {e : PX Int32} {tbl : List (Int32 × Nat)} {d : Nat} {bs : List PS} {kn kb kc : LV → HV → Prop} {kr : Option Value → HV → Prop} {ls : LV} {h h' : HV} {x : Int32} {j : Nat} {b : PS} {t : List PS} (he : ∀ K : Int32 → HV → Prop, K x h' → e ls h K) (hj : ixOf tbl d x = j) (hd : bs.drop j = b :: t) (H : sSq b (sSqs t) (fun ls2 h2 => kn (lcut n ls2) h2) (fun ls2 h2 => kn (lcut n ls2) h2) kc kr ls h') : sSw n e tbl d bs kn kb kc kr ls h := by
  refine he _ ?_
  show sSqs (bs.drop (ixOf tbl d x)) _ _ _ _ _ _
  rw [hj, hd]
  exact H
theorem and31 (x : Int32) : ∃ k, k < 32 ∧ x &&& 31 = nI k := by
  have h : (x &&& 31).toBitVec.toNat < 32 := by
    show (x.toBitVec &&& 31#32).toNat < 32
    rw [BitVec.toNat_and]
    exact Nat.lt_of_le_of_lt Nat.and_le_right (by decide)
  refine ⟨(x &&& 31).toBitVec.toNat, h, ?_⟩
  apply Int32.toBitVec_inj.mp
  show _ = BitVec.ofNat 32 _
  rw [BitVec.ofNat_toNat, BitVec.setWidth_eq]
theorem le4 {i n : Nat} (hi : i ≤ n) (hn : n ≤ 2048) : (nI i ≤ nI n - 4) ↔ i + 4 ≤ n := by
  by_cases c : n < 4
  · have := (by decide +kernel : ∀ n, n < 4 → ∀ i, i < 4 → ¬ (nI i ≤ nI n - 4)) n c i (by omega)
    exact ⟨fun q => absurd q this, fun q => by omega⟩
  · rw [show (4 : Int32) = nI 4 from rfl, nI_sub (by omega), nI_leI (by omega) (by omega)]
    omega
def l_tbl : List (Int32 × Nat) := [(0, 0), (1, 1), (2, 2), (3, 3), (4, 4), (5, 5), (6, 6), (7, 7), (8, 8), (9, 9), (10, 10), (11, 11), (12, 12), (13, 13), (14, 14), (15, 15), (16, 16), (17, 17), (18, 18), (19, 19), (20, 20), (21, 21)]
def l_bs (scr : List Int32) : List PS := [sSq (sIf (L_c0 scr) (sRz (eV (0 : Int32))) sSk) sBk, sSq (sIf (L_c1 scr) (sRz (eV (0 : Int32))) sSk) sBk, sSq (sIf (L_c2 scr) (sRz (eV (0 : Int32))) sSk) sBk, sSq (sIf (L_c3 scr) (sRz (eV (0 : Int32))) sSk) sBk, sSq (sIf (L_c4 scr) (sRz (eV (0 : Int32))) sSk) sBk, sSq (sIf (L_c5 scr) (sRz (eV (0 : Int32))) sSk) sBk, sSq (sIf (L_c6 scr) (sRz (eV (0 : Int32))) sSk) sBk, sSq (sIf (L_c7 scr) (sRz (eV (0 : Int32))) sSk) sBk, sSq (sIf (L_c8 scr) (sRz (eV (0 : Int32))) sSk) sBk, sSq (sIf (L_c9 scr) (sRz (eV (0 : Int32))) sSk) sBk, sSq (sIf (L_c10 scr) (sRz (eV (0 : Int32))) sSk) sBk, sSq (sIf (L_c11 scr) (sRz (eV (0 : Int32))) sSk) sBk, sSq (sIf (L_c12 scr) (sRz (eV (0 : Int32))) sSk) sBk, sSq (sIf (L_c13 scr) (sRz (eV (0 : Int32))) sSk) sBk, sSq (sIf (L_c14 scr) (sRz (eV (0 : Int32))) sSk) sBk, sSq (sIf (L_c15 scr) (sRz (eV (0 : Int32))) sSk) sBk, sSq (sIf (L_c16 scr) (sRz (eV (0 : Int32))) sSk) sBk, sSq (sIf (L_c17 scr) (sRz (eV (0 : Int32))) sSk) sBk, sSq (sIf (L_c18 scr) (sRz (eV (0 : Int32))) sSk) sBk, sSq (sIf (L_c19 scr) (sRz (eV (0 : Int32))) sSk) sBk, sSq (sIf (L_c20 scr) (sRz (eV (0 : Int32))) sSk) sBk, sSq (sIf (L_c21 scr) (sRz (eV (0 : Int32))) sSk) sBk, sBk]
def LSw (scr : List Int32) : PS := sSw 4 (e2 (fun x y : Int32 => x &&& y) (eSA scr (eR 0) (eI 3)) (eV (31 : Int32))) l_tbl 22 (l_bs scr)
theorem l_big : ∀ k, k < 32 → 22 ≤ k → ixOf l_tbl 22 (nI k) = 22 := by decide +kernel
theorem l_switch {scr : List Int32} {i : Nat} {x0 x1 x2 x3 : Int32} (hx : At scr i x1 x2 x3) (w0 : scr[i]? = some x0) {A : AS} {s : MS} (hJ : J A s) {kn kb kc : LV → HV → Prop} {kr : Option Value → HV → Prop} (hkn : ∀ A' s', J A' s' → kn (lw i) (hp scr s')) : LSw scr kn kb kc kr (lw i) (hp scr s) := by
  obtain ⟨k, hk32, e⟩ := and31 x0
  have hb : ∀ A' s', J A' s' → (fun ls2 h2 => kn (lcut 4 ls2) h2) (lw i) (hp scr s') := hkn
  have p0 : (0 : Int32) ≤ nI i := nI_pos' (by have := hx.1; omega)
  have q0 : (nI i).toNatClampNeg = i := nI_clamp (by have := hx.1; omega)
  have he : ∀ K : Int32 → HV → Prop, K (nI k) (hp scr s) → (e2 (fun x y : Int32 => x &&& y) (eSA scr (eR 0) (eI 3)) (eV (31 : Int32))) (lw i) (hp scr s) K := by
    intro K hK
    rw [← e] at hK
    simp [eV, eI, eL, eR, e1, e2, eDI, eDL, eFI, eFL, eFR, eAI, eAZ, eAR, eLen, aN, aC, xV, xS, eX, eIf, eC_b, cA, cO, cN, sSk, sSq, sI, sL, sR, sInc, sF, sFO, sAI, sAZ, sAO, sX, sXp, sIf, sCut, sSqs, sSw, sRt, sRz_g, is01_b, is01_0, is01_1, sRv, sBk, sCt, sCp, lset, lclr, lcut, lini, lx, Value.category, ixOf, b2i_0, b2i_1, eSA, p0, q0, w0]
    exact hK
  unfold LSw
  rcases Nat.lt_or_ge k 22 with c | c
  · rcases (show k = 0 ∨ k = 1 ∨ k = 2 ∨ k = 3 ∨ k = 4 ∨ k = 5 ∨ k = 6 ∨ k = 7 ∨ k = 8 ∨ k = 9 ∨ k = 10 ∨ k = 11 ∨ k = 12 ∨ k = 13 ∨ k = 14 ∨ k = 15 ∨ k = 16 ∨ k = 17 ∨ k = 18 ∨ k = 19 ∨ k = 20 ∨ k = 21 by omega) with rfl | rfl | rfl | rfl | rfl | rfl | rfl | rfl | rfl | rfl | rfl | rfl | rfl | rfl | rfl | rfl | rfl | rfl | rfl | rfl | rfl | rfl
    · exact l_sw he (j := 0) (by decide +kernel) rfl (l_case (fun K hK => l_c0 hx hJ K hK) hb)
    · exact l_sw he (j := 1) (by decide +kernel) rfl (l_case (fun K hK => l_c1 hx hJ K hK) hb)
    · exact l_sw he (j := 2) (by decide +kernel) rfl (l_case (fun K hK => l_c2 hx hJ K hK) hb)
    · exact l_sw he (j := 3) (by decide +kernel) rfl (l_case (fun K hK => l_c3 hx hJ K hK) hb)
    · exact l_sw he (j := 4) (by decide +kernel) rfl (l_case (fun K hK => l_c4 hx hJ K hK) hb)
    · exact l_sw he (j := 5) (by decide +kernel) rfl (l_case (fun K hK => l_c5 hx hJ K hK) hb)
    · exact l_sw he (j := 6) (by decide +kernel) rfl (l_case (fun K hK => l_c6 hx hJ K hK) hb)
    · exact l_sw he (j := 7) (by decide +kernel) rfl (l_case (fun K hK => l_c7 hx hJ K hK) hb)
    · exact l_sw he (j := 8) (by decide +kernel) rfl (l_case (fun K hK => l_c8 hx hJ K hK) hb)
    · exact l_sw he (j := 9) (by decide +kernel) rfl (l_case (fun K hK => l_c9 hx hJ K hK) hb)
    · exact l_sw he (j := 10) (by decide +kernel) rfl (l_case (fun K hK => l_c10 hx hJ K hK) hb)
    · exact l_sw he (j := 11) (by decide +kernel) rfl (l_case (fun K hK => l_c11 hx hJ K hK) hb)
    · exact l_sw he (j := 12) (by decide +kernel) rfl (l_case (fun K hK => l_c12 hx hJ K hK) hb)
    · exact l_sw he (j := 13) (by decide +kernel) rfl (l_case (fun K hK => l_c13 hx hJ K hK) hb)
    · exact l_sw he (j := 14) (by decide +kernel) rfl (l_case (fun K hK => l_c14 hx hJ K hK) hb)
    · exact l_sw he (j := 15) (by decide +kernel) rfl (l_case (fun K hK => l_c15 hx hJ K hK) hb)
    · exact l_sw he (j := 16) (by decide +kernel) rfl (l_case (fun K hK => l_c16 hx hJ K hK) hb)
    · exact l_sw he (j := 17) (by decide +kernel) rfl (l_case (fun K hK => l_c17 hx hJ K hK) hb)
    · exact l_sw he (j := 18) (by decide +kernel) rfl (l_case (fun K hK => l_c18 hx hJ K hK) hb)
    · exact l_sw he (j := 19) (by decide +kernel) rfl (l_case (fun K hK => l_c19 hx hJ K hK) hb)
    · exact l_sw he (j := 20) (by decide +kernel) rfl (l_case (fun K hK => l_c20 hx hJ K hK) hb)
    · exact l_sw he (j := 21) (by decide +kernel) rfl (l_case (fun K hK => l_c21 hx hJ K hK) hb)
  · exact l_sw he (l_big k hk32 c) rfl (hb A s hJ)
def A0 : AS := ([], e0P, row0 (8, 1, 2), [], fun _ => none, [], 0)
theorem ok_A0 : okA A0 := ⟨⟨by decide, fun x hx => absurd hx List.not_mem_nil⟩, ⟨by decide, fun i hi => absurd hi (Nat.not_lt_zero i)⟩, e0P_row, ⟨by decide, fun x hx => absurd hx List.not_mem_nil⟩, fun j w hw => (by cases hw), by decide, fun x hx => absurd hx List.not_mem_nil⟩
theorem chs_0 : chs e0P (row0 (8, 1, 2)) no = ([], 0, 0) := by decide +kernel
theorem ord_0 : (ord e0P (row0 (8, 1, 2))).2.2.2 = [] := by decide +kernel
theorem rW_0 : rW (row0 (8, 1, 2)) = 2 := by decide +kernel
theorem IC_0 {s : MS} (f1 : Fr (fun r k => r = 20 ∨ (r = 24 ∧ k = 2) ∨ r = 28 ∨ (35 ≤ r ∧ r ≤ 47)) z0 s) (f2 : mRw 20 (row0 (8, 1, 2)) s) (f3 : s.1 24 2 = 0) (f4 : ∀ j, j < 2 → s.1 28 j = 0) (f5 : mPk e0P 35 2 ([], 0, 0) s) (f6 : mOr 35 [] s) : IC A0 s := by
  refine ⟨⟨by rw [f1.2 _ _ (by omega)]; rfl, fun q hq => absurd hq (Nat.not_lt_zero q)⟩, ⟨by rw [f1.2 _ _ (by omega)]; rfl, fun q hq => absurd hq (Nat.not_lt_zero q)⟩, f2, ⟨f3, fun q hq => absurd hq (Nat.not_lt_zero q)⟩, fun j hj => ⟨f4 j hj, fun w hw => by cases hw⟩, ⟨by rw [f1.2 _ _ (by omega)]; rfl, fun q hq => absurd hq (Nat.not_lt_zero q)⟩, fun a ha => absurd ha (Nat.not_lt_zero a), ?_, ?_, fun a ha => absurd ha (Nat.not_lt_zero a)⟩
  · show mPk e0P 35 (rW (row0 (8, 1, 2))) (chs e0P (row0 (8, 1, 2)) no) s
    rw [chs_0, rW_0]; exact f5
  · show mOr 35 (ord e0P (row0 (8, 1, 2))).2.2.2 s
    rw [ord_0]; exact f6
theorem IR_0 {s : MS} (hz : ∀ r k, 65 ≤ r → r ≠ 71 → s.1 r k = 0) (f2 : mRw 71 (row0 (8, 1, 2)) s) : IR A0 s :=
  ⟨⟨hz _ _ (by decide) (by decide), fun q hq => absurd hq (Nat.not_lt_zero q)⟩, ⟨hz _ _ (by decide) (by decide), fun q hq => absurd hq (Nat.not_lt_zero q)⟩, f2, ⟨hz _ _ (by decide) (by decide), 0, by decide, hz _ _ (by decide) (by decide), fun q hq => absurd hq (Nat.not_lt_zero q)⟩, fun j hj => ⟨hz _ _ (by decide) (by decide), fun w hw => by cases hw⟩, ⟨hz _ _ (by decide) (by decide), fun q hq => absurd hq (Nat.not_lt_zero q)⟩⟩
theorem z0_64 {r k : Nat} (h : 65 ≤ r) : z0.1 r k = 0 := by
  have q : ∀ c, c < 65 → Nat.beq r c = false := fun c hc => by
    cases e : Nat.beq r c with
    | false => rfl
    | true => exact absurd (Nat.eq_of_beq_eq_true e) (by omega)
  show cond (Nat.beq r 35 && Nat.beq k 3) 2 (cond (Nat.beq r 48 && Nat.beq k 3) 2 (cond (Nat.beq r 45 && Nat.beq k 7) 2 (cond (Nat.beq r 58 && Nat.beq k 7) 2 (cond (Nat.beq r 61 && Nat.beq k 3) (-9) (cond (Nat.beq r 61 && Nat.beq k 4) 8 0))))) = (0 : Int32)
  rw [q 35 (by decide), q 48 (by decide), q 45 (by decide), q 58 (by decide), q 61 (by decide)]
  rfl
theorem l_law (scr : List Int32) (hl : scr.length ≤ 2048) : B_Law_law (2 + 600000, hsz (h_0 scr) + 7302250) scr (fun _ _ => False) (fun _ _ => False) (fun _ _ => False) (fun o _ => o = some (.int 1)) [.ref 1, .null, .null, .null] (h_0 scr) := by
  have hL := h_0_len scr
  unfold B_Law_law
  refine ⟨by show 3 ≤ 600002; decide, by show hsz (h_0 scr) + 15 ≤ hsz (h_0 scr) + 7302250; omega, rfl, ?_, ?_, ?_⟩
  · show (ob (h_0 scr) cPL []).length + 62 ≤ 600002
    rw [ob_len hL]; decide
  · show hsz (ob (h_0 scr) cPL []) + 908 ≤ hsz (h_0 scr) + 7302250
    rw [ob_sz]
    show hsz (h_0 scr) + (15 + 0) + 908 ≤ hsz (h_0 scr) + 7302250
    omega
  show X_PL_init [.ref 2] (ob (h_0 scr) cPL []) _
  refine i_PL scr _ fun s1 f1 f2 f3 f4 f5 f6 => ⟨rfl, by show 1 < 4; decide, ?_⟩
  have y1 : ∀ r k, 65 ≤ r → s1.1 r k = 0 := fun r k h => by rw [f1.2 _ _ (by omega)]; exact z0_64 h
  have y2 : s1.2 65 = 0 := by rw [f1.1]; rfl
  have hT := tp_len scr s1
  refine ⟨by rw [hT]; show 66 ≤ 600002; decide, ?_, rfl, ?_, ?_, ?_⟩
  · rw [tp_sz]
    show hsz (h_0 scr) + 923 + 50 ≤ hsz (h_0 scr) + 7302250
    omega
  · show (ob (tp scr s1) cR []).length + 28 ≤ 600002
    rw [ob_len hT]; decide
  · show hsz (ob (tp scr s1) cR []) + 858 ≤ hsz (h_0 scr) + 7302250
    rw [ob_sz, tp_sz]
    show hsz (h_0 scr) + 923 + (50 + 0) + 858 ≤ hsz (h_0 scr) + 7302250
    omega
  rw [hT]
  show X_R_init [.ref 65] (ob (tp scr s1) cR []) _
  refine i_R scr y1 y2 _ fun s2 g1 g2 => ⟨rfl, by show 2 < 4; decide, ?_⟩
  have hJ0 : J A0 s2 := ⟨ok_A0, IC_fr g1 (by omega) (IC_0 f1 f2 f3 f4 f5 f6), IR_0 (fun r k h h2 => by rw [g1.2 _ _ (by omega)]; exact y1 r k h) g2, by rw [g1.1, f1.1]; rfl, by rw [g1.1, f1.1]; rfl⟩
  refine ⟨by show 3 < 4; decide, ?_⟩
  refine lp_ind (fun m ls h => ∃ i A s, m = 2052 - i ∧ i ≤ scr.length ∧ ls = lw i ∧ h = hp scr s ∧ J A s) ?_ ⟨0, A0, s2, rfl, Nat.zero_le _, rfl, rfl, hJ0⟩
  rintro m ls h ⟨i, A, s, hm, hi, rfl, rfl, hJ⟩ X hX
  have e4 : (nI i ≤ Int32.ofNat scr.length - 4) = (i + 4 ≤ scr.length) := propext (le4 hi hl)
  refine cX (t := decide (i + 4 ≤ scr.length)) (h' := hp scr s) ?h1 ?h2
  case h1 =>
    intro K
    simp [eV, eI, eL, eR, e1, e2, eDI, eDL, eFI, eFL, eFR, eAI, eAZ, eAR, eLen, aN, aC, xV, xS, eX, eIf, eC_b, cA, cO, cN, sSk, sSq, sI, sL, sR, sInc, sF, sFO, sAI, sAZ, sAO, sX, sXp, sIf, sCut, sSqs, sSw, sRt, sRz_g, is01_b, is01_0, is01_1, sRv, sBk, sCt, sCp, lset, lclr, lcut, lini, lx, Value.category, ixOf, b2i_0, b2i_1, eSL, e4]
  case h2 =>
    by_cases hlt : i + 4 ≤ scr.length
    · simp only [hlt, decide_true, if_true]
      refine l_switch (scr := scr) (x0 := scr[i]) (x1 := scr[i + 1]) (x2 := scr[i + 2]) (x3 := scr[i + 3]) ⟨by omega, List.getElem?_eq_getElem _, List.getElem?_eq_getElem _, List.getElem?_eq_getElem _⟩ (List.getElem?_eq_getElem _) hJ ?_
      intro A' s' hJ'
      refine ⟨nI i, rfl, ?_⟩
      show X [.ref 1, .ref 2, .ref 65, .int (nI i + 4)] (hp scr s')
      rw [show (4 : Int32) = nI 4 from rfl, nI_add]
      exact hX _ _ _ (by rw [hm]; omega) ⟨i + 4, A', s', rfl, hlt, rfl, rfl, hJ'⟩
    · simp only [hlt, decide_false, Bool.false_eq_true, if_false]
      exact ⟨Or.inr rfl, rfl⟩
theorem whole_start {p : Program} {e : Env} {s : State} {m : MethodId} {below : List Frame} {meth : Method} {c : Code} (l : Launch) (hflags : l.flags = flags0) {b L : Nat} {xs : Nat → Int32} (hL : L ≤ 2048) (C0 : lw_At p s m meth c b L xs) : W p l e room_1 s m #[Value.ref b] below meth c s.heap [] 0 0 (lw_Z below #[Value.ref b] s) (entryFrame m ([Value.ref b] : List Value).toArray 4) :=
  law_start l C0 fun scr h => l_law scr (by rw [h]; exact hL)
