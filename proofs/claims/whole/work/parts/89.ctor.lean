/-! the two constructors -/
def z0 : MS := (fun r k => cond (Nat.beq r 35 && Nat.beq k 3) 2 (cond (Nat.beq r 48 && Nat.beq k 3) 2 (cond (Nat.beq r 45 && Nat.beq k 7) 2 (cond (Nat.beq r 58 && Nat.beq k 7) 2 (cond (Nat.beq r 61 && Nat.beq k 3) (-9) (cond (Nat.beq r 61 && Nat.beq k 4) 8 0))))), fun _ => 0)
theorem mkvs_ln (s : MS) (r : Nat) : ∀ (ds : List Nat) (k : Nat), (mkvs s r k ds).length = ds.length
  | [], _ => rfl
  | _ :: t, k => by simp [mkvs, mkvs_ln s r t (k + 1)]
theorem shAt_sz (s : MS) : ∀ (l : List (Nat × List Nat)) (r : Nat), hsz (shAt s r l) = (l.map fun c => c.2.length).sum
  | [], _ => rfl
  | c :: t, r => by simp [shAt, hsz, mkvs_ln, shAt_sz s t (r + 1)]
theorem shAt_take (s : MS) : ∀ (l : List (Nat × List Nat)) (r n : Nat), (shAt s r l).take n = shAt s r (l.take n)
  | _, _, 0 => by simp [shAt]
  | [], _, n + 1 => by simp [shAt]
  | c :: t, r, n + 1 => by simp [shAt, shAt_take s t (r + 1) n]
theorem shAt_len (s : MS) : ∀ (l : List (Nat × List Nat)) (r : Nat), (shAt s r l).length = l.length
  | [], _ => rfl
  | c :: t, r => by simp [shAt, shAt_len s t (r + 1)]
theorem h_0_len (scr : List Int32) : (h_0 scr).length = 2 := rfl
theorem tp_eq (scr : List Int32) (s : MS) : tp scr s = h_0 scr ++ shAt s 2 (shT.take 63) := by
  rw [← shAt_take]; rfl
theorem hp_eq (scr : List Int32) (s : MS) : hp scr s = h_0 scr ++ shAt s 2 shT := rfl
theorem tp_len (scr : List Int32) (s : MS) : (tp scr s).length = 65 := by rw [tp_eq, List.length_append, h_0_len, shAt_len]; rfl
theorem tp_sz (scr : List Int32) (s : MS) : hsz (tp scr s) = hsz (h_0 scr) + 923 := by rw [tp_eq, hsz_ap, shAt_sz]; rfl
theorem hp_len (scr : List Int32) (s : MS) : (hp scr s).length = 94 := by rw [hp_eq, List.length_append, h_0_len, shAt_len]; rfl
set_option maxRecDepth 20000 in
theorem hp_sz (scr : List Int32) (s : MS) : hsz (hp scr s) = hsz (h_0 scr) + 1831 := by rw [hp_eq, hsz_ap, shAt_sz]; rfl
def cPL : Nat × List Value := (9, [.null, .null, .null, .null, .null, .null, .null, .null, .null, .null, .null, .null, .null, .null, .long 0])
def cR : Nat × List Value := (10, [.null, .int 0, .int 0, .null, .null, .null, .null, .null, .null, .null, .int 0, .int 0, .null, .null, .null, .null, .int 0, .long 0, .int 0, .int 0, .null, .null, .null, .null, .int 0, .int 0, .int 0, .null, .null, .int 0, .null, .int 0, .int 0, .int 0, .null, .null, .null, .int 0, .null, .null, .int 0, .int 0, .int 0, .int 0, .null, .null, .null, .null, .int 0, .int 0])
theorem e0P_row : okRow (row0 (8, 1, 2)) := okRow_0 (by decide) (by decide) (Or.inl rfl)
theorem at_hp {r : PS} {kn kb kc : LV → HV → Prop} {kr : Option Value → HV → Prop} {ls : LV} {h h' : HV} (e : h = h') (H : r kn kb kc kr ls h') : r kn kb kc kr ls h := by rw [e]; exact H
set_option maxRecDepth 20000 in
theorem i_PL (scr : List Int32) (Q : Option Value → HV → Prop) (h : ∀ s', Fr (fun r k => r = 20 ∨ (r = 24 ∧ k = 2) ∨ r = 28 ∨ (35 ≤ r ∧ r ≤ 47)) z0 s' → mRw 20 (row0 (8, 1, 2)) s' → s'.1 24 2 = 0 → (∀ j, j < 2 → s'.1 28 j = 0) → mPk e0P 35 2 ([], 0, 0) s' → mOr 35 [] s' → Q none (tp scr s')) : X_PL_init [.ref 2] (ob (h_0 scr) cPL []) Q := by
  have hn := h_0_len scr
  have h2 : 2 ≤ 2 := Nat.le_refl 2
  have L0 : (ob (h_0 scr) cPL []).length = 3 := by rw [ob_len hn]; rfl
  have S0 : hsz (ob (h_0 scr) cPL []) = hsz (h_0 scr) + 15 := by rw [ob_sz]; rfl
  refine ⟨by simp [lx, Value.category], ?_⟩
  rw [L0, S0]
  unfold B_PL_init cPL
  refine sSq_sSO rfl ?_
  refine qN (m := 3) (t := []) hn h2 rfl (by simp [tl_Pk]; try omega) (by simp) rfl (by simp [tl_Pk, rm_Src_init]; try omega) (by simp [hsz, rp_len, tl_Pk, rm_Src_init]; try omega) rfl (fun K hK => by simpa [eV, eI, eL, eR, e1, e2, eDI, eDL, eFI, eFL, eFR, eAI, eAZ, eAR, eLen, aN, aC, xV, xS, eX, eIf, eC_b, cA, cO, cN, sSk, sSq, sI, sL, sR, sInc, sF, sFO, sAI, sAZ, sAO, sX, sXp, sIf, sCut, sSqs, sSw, sRt, sRz_g, is01_b, is01_0, is01_1, sRv, sBk, sCt, sCp, lset, lclr, lcut, lini, lx, Value.category, ixOf, b2i_0, b2i_1] using hK) (fun Q hQ => i_Src (by rw [ob_len hn]; simp [tl_Pk]; try omega) (by omega) Q hQ) ?_
  refine qN (m := 6) (t := []) hn h2 rfl (by simp [tl_Pk]; try omega) (by simp) rfl (by simp [tl_Pk, rm_Code_init]; try omega) (by simp [hsz, rp_len, tl_Pk, rm_Code_init]; try omega) rfl (fun K hK => by simpa [eV, eI, eL, eR, e1, e2, eDI, eDL, eFI, eFL, eFR, eAI, eAZ, eAR, eLen, aN, aC, xV, xS, eX, eIf, eC_b, cA, cO, cN, sSk, sSq, sI, sL, sR, sInc, sF, sFO, sAI, sAZ, sAO, sX, sXp, sIf, sCut, sSqs, sSw, sRt, sRz_g, is01_b, is01_0, is01_1, sRv, sBk, sCt, sCp, lset, lclr, lcut, lini, lx, Value.category, ixOf, b2i_0, b2i_1] using hK) (fun Q hQ => i_Code (by rw [ob_len hn]; simp [tl_Pk]; try omega) (by omega) Q hQ) ?_
  refine qN (m := 13) (t := []) hn h2 rfl (by simp [tl_Pk]; try omega) (by simp) rfl (by simp [tl_Pk, rm_Code_init]; try omega) (by simp [hsz, rp_len, tl_Pk, rm_Code_init]; try omega) rfl (fun K hK => by simpa [eV, eI, eL, eR, e1, e2, eDI, eDL, eFI, eFL, eFR, eAI, eAZ, eAR, eLen, aN, aC, xV, xS, eX, eIf, eC_b, cA, cO, cN, sSk, sSq, sI, sL, sR, sInc, sF, sFO, sAI, sAZ, sAO, sX, sXp, sIf, sCut, sSqs, sSw, sRt, sRz_g, is01_b, is01_0, is01_1, sRv, sBk, sCt, sCp, lset, lclr, lcut, lini, lx, Value.category, ixOf, b2i_0, b2i_1] using hK) (fun Q hQ => i_Code (by rw [ob_len hn]; simp [tl_Pk]; try omega) (by omega) Q hQ) ?_
  refine qA (N := 19) (m := 20) rfl (by decide) hn h2 rfl (by simp [tl_Pk]; try omega) (by simp) rfl (by simp; try omega) (by simp [hsz, rp_len, tl_Pk]; try omega) ?_
  refine qA (N := 19) (m := 21) rfl (by decide) hn h2 rfl (by simp [tl_Pk]; try omega) (by simp) rfl (by simp; try omega) (by simp [hsz, rp_len, tl_Pk]; try omega) ?_
  refine qA (N := 19) (m := 22) rfl (by decide) hn h2 rfl (by simp [tl_Pk]; try omega) (by simp) rfl (by simp; try omega) (by simp [hsz, rp_len, tl_Pk]; try omega) ?_
  refine qA (N := 3) (m := 23) rfl (by decide) hn h2 rfl (by simp [tl_Pk]; try omega) (by simp) rfl (by simp; try omega) (by simp [hsz, rp_len, tl_Pk]; try omega) ?_
  refine qN (m := 24) (t := []) hn h2 rfl (by simp [tl_Pk]; try omega) (by simp) rfl (by simp [tl_Pk, rm_Acts_init]; try omega) (by simp [hsz, rp_len, tl_Pk, rm_Acts_init]; try omega) rfl (fun K hK => by simpa [eV, eI, eL, eR, e1, e2, eDI, eDL, eFI, eFL, eFR, eAI, eAZ, eAR, eLen, aN, aC, xV, xS, eX, eIf, eC_b, cA, cO, cN, sSk, sSq, sI, sL, sR, sInc, sF, sFO, sAI, sAZ, sAO, sX, sXp, sIf, sCut, sSqs, sSw, sRt, sRz_g, is01_b, is01_0, is01_1, sRv, sBk, sCt, sCp, lset, lclr, lcut, lini, lx, Value.category, ixOf, b2i_0, b2i_1] using hK) (fun Q hQ => i_Acts (by rw [ob_len hn]; simp [tl_Pk]; try omega) (by omega) Q hQ) ?_
  refine qN (m := 27) (t := []) hn h2 rfl (by simp [tl_Pk]; try omega) (by simp) rfl (by simp [tl_Pk, rm_Slots_init]; try omega) (by simp [hsz, rp_len, tl_Pk, rm_Slots_init]; try omega) rfl (fun K hK => by simpa [eV, eI, eL, eR, e1, e2, eDI, eDL, eFI, eFL, eFR, eAI, eAZ, eAR, eLen, aN, aC, xV, xS, eX, eIf, eC_b, cA, cO, cN, sSk, sSq, sI, sL, sR, sInc, sF, sFO, sAI, sAZ, sAO, sX, sXp, sIf, sCut, sSqs, sSw, sRt, sRz_g, is01_b, is01_0, is01_1, sRv, sBk, sCt, sCp, lset, lclr, lcut, lini, lx, Value.category, ixOf, b2i_0, b2i_1] using hK) (fun Q hQ => i_Slots (by rw [ob_len hn]; simp [tl_Pk]; try omega) (by omega) Q hQ) ?_
  refine qN (m := 32) (t := []) hn h2 rfl (by simp [tl_Pk]; try omega) (by simp) rfl (by simp [tl_Pk, rm_Sights_init]; try omega) (by simp [hsz, rp_len, tl_Pk, rm_Sights_init]; try omega) rfl (fun K hK => by simpa [eV, eI, eL, eR, e1, e2, eDI, eDL, eFI, eFL, eFR, eAI, eAZ, eAR, eLen, aN, aC, xV, xS, eX, eIf, eC_b, cA, cO, cN, sSk, sSq, sI, sL, sR, sInc, sF, sFO, sAI, sAZ, sAO, sX, sXp, sIf, sCut, sSqs, sSw, sRt, sRz_g, is01_b, is01_0, is01_1, sRv, sBk, sCt, sCp, lset, lclr, lcut, lini, lx, Value.category, ixOf, b2i_0, b2i_1] using hK) (fun Q hQ => i_Sights (by rw [ob_len hn]; simp [tl_Pk]; try omega) (by omega) Q hQ) ?_
  refine qN (m := 35) (t := [.ref 6]) hn h2 rfl (by simp [tl_Pk]; try omega) (by simp) rfl (by simp [tl_Pk, rm_Pack_init]; try omega) (by simp [hsz, rp_len, tl_Pk, rm_Pack_init]; try omega) rfl (fun K hK => by simpa [eV, eI, eL, eR, e1, e2, eDI, eDL, eFI, eFL, eFR, eAI, eAZ, eAR, eLen, aN, aC, xV, xS, eX, eIf, eC_b, cA, cO, cN, sSk, sSq, sI, sL, sR, sInc, sF, sFO, sAI, sAZ, sAO, sX, sXp, sIf, sCut, sSqs, sSw, sRt, sRz_g, is01_b, is01_0, is01_1, sRv, sBk, sCt, sCp, lset, lclr, lcut, lini, lx, Value.category, ixOf, b2i_0, b2i_1, ob_k hn, ob_g hn] using hK) (fun Q hQ => i_Pack (by rw [ob_len hn]; simp [tl_Pk]; try omega) (by omega) Q hQ) ?_
  refine qN (m := 48) (t := [.ref 6]) hn h2 rfl (by simp [tl_Pk]; try omega) (by simp) rfl (by simp [tl_Pk, rm_Pack_init]; try omega) (by simp [hsz, rp_len, tl_Pk, rm_Pack_init]; try omega) rfl (fun K hK => by simpa [eV, eI, eL, eR, e1, e2, eDI, eDL, eFI, eFL, eFR, eAI, eAZ, eAR, eLen, aN, aC, xV, xS, eX, eIf, eC_b, cA, cO, cN, sSk, sSq, sI, sL, sR, sInc, sF, sFO, sAI, sAZ, sAO, sX, sXp, sIf, sCut, sSqs, sSw, sRt, sRz_g, is01_b, is01_0, is01_1, sRv, sBk, sCt, sCp, lset, lclr, lcut, lini, lx, Value.category, ixOf, b2i_0, b2i_1, ob_k hn, ob_g hn] using hK) (fun Q hQ => i_Pack (by rw [ob_len hn]; simp [tl_Pk]; try omega) (by omega) Q hQ) ?_
  refine qN (m := 61) (t := [.ref 6]) hn h2 rfl (by simp [tl_Pk]; try omega) (by simp) rfl (by simp [tl_Pk, rm_Mach_init]; try omega) (by simp [hsz, rp_len, tl_Pk, rm_Mach_init]; try omega) rfl (fun K hK => by simpa [eV, eI, eL, eR, e1, e2, eDI, eDL, eFI, eFL, eFR, eAI, eAZ, eAR, eLen, aN, aC, xV, xS, eX, eIf, eC_b, cA, cO, cN, sSk, sSq, sI, sL, sR, sInc, sF, sFO, sAI, sAZ, sAO, sX, sXp, sIf, sCut, sSqs, sSw, sRt, sRz_g, is01_b, is01_0, is01_1, sRv, sBk, sCt, sCp, lset, lclr, lcut, lini, lx, Value.category, ixOf, b2i_0, b2i_1, ob_k hn, ob_g hn] using hK) (fun Q hQ => i_Mach (by rw [ob_len hn]; simp [tl_Pk]; try omega) (by omega) Q hQ) ?_
  refine qA (N := 64) (m := 64) rfl (by decide) hn h2 rfl (by simp [tl_Pk]; try omega) (by simp) rfl (by simp; try omega) (by simp [hsz, rp_len, tl_Pk]; try omega) ?_
  refine qL hn h2 rfl (by simp) rfl ?_
  refine at_hp (h' := tp scr z0) rfl ?_
  simp [eV, eI, eL, eR, e1, e2, eDI, eDL, eFI, eFL, eFR, eAI, eAZ, eAR, eLen, aN, aC, xV, xS, eX, eIf, eC_b, cA, cO, cN, sSk, sSq, sI, sL, sR, sInc, sF, sFO, sAI, sAZ, sAO, sX, sXp, sIf, sCut, sSqs, sSw, sRt, sRz_g, is01_b, is01_0, is01_1, sRv, sBk, sCt, sCp, lset, lclr, lcut, lini, lx, Value.category, ixOf, b2i_0, b2i_1, tp_k, tp_g, T_PL]
  refine k_PL_restart scr (s := z0) (h := (8, 1, 2)) _ fun s1 f1 f2 f3 f4 => ⟨rfl, ?_⟩
  simp [tp_k, tp_g, T_PL, T34]
  have w18 : s1.1 20 18 = 2 := f2 18 (by omega)
  refine k_Pack_choosePacks scr (by rw [f1.2 _ _ (by omega)]; rfl) w18 _ fun s2 g1 g2 g3 => ⟨rfl, ⟨by rw [tp_len], by rw [tp_sz]⟩, ?_⟩
  refine h s2 ((f1.wk fun r k z => by omega).tr (g1.wk fun r k z => by omega) fun _ _ z => z) (mRw_fr g1 (by omega) f2) (by rw [g1.2 _ _ (by omega)]; exact f3) (fun j hj => by rw [g1.2 _ _ (by omega)]; exact f4 j hj) g2 g3
theorem mkvs_z {s : MS} {r : Nat} (hz : ∀ k, s.1 r k = 0) : ∀ (n k : Nat), mkvs s r k (List.replicate n 0) = rp n
  | 0, _ => rfl
  | n + 1, k => by simp only [List.replicate_succ, mkvs, mkv, hz, mkvs_z hz n (k + 1), rp]
theorem hp_tp {scr : List Int32} {s : MS} : hp scr s = tp scr s ++ shAt s 65 (shT.drop 63) := by
  show (hp scr s) = (hp scr s).take 65 ++ _
  conv => lhs; rw [← List.take_append_drop 65 (hp scr s)]
  rfl
