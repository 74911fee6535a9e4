/-! R's constructor -/
theorem mkv_i {s : MS} {r k : Nat} : mkv s r k 0 = .int (s.1 r k) := rfl
theorem mkv_l {s : MS} {r k : Nat} : mkv s r k 1 = .long (s.2 r) := rfl
theorem mkv_r {s : MS} {r k d : Nat} : mkv s r k (d + 2) = .ref d := rfl
theorem mkvs_y {s : MS} (hz : ∀ r k, 65 ≤ r → s.1 r k = 0) {r : Nat} (hr : 65 ≤ r) (n k : Nat) : mkvs s r k (List.replicate n 0) = rp n := mkvs_z (fun k => hz r k hr) n k
set_option maxRecDepth 20000 in
theorem hp_of {scr : List Int32} {s : MS} (hz : ∀ r k, 65 ≤ r → s.1 r k = 0) (hz2 : s.2 65 = 0) : hp scr s = ob (tp scr s) (10, [.ref 66, .int 0, .int 0, .ref 67, .ref 68, .ref 69, .ref 70, .ref 71, .ref 72, .ref 73, .int 0, .int 0, .ref 74, .ref 75, .ref 76, .ref 77, .int 0, .long 0, .int 0, .int 0, .ref 78, .ref 79, .ref 80, .ref 81, .int 0, .int 0, .int 0, .ref 82, .ref 83, .int 0, .ref 84, .int 0, .int 0, .int 0, .ref 85, .ref 86, .ref 87, .int 0, .ref 88, .ref 89, .int 0, .int 0, .int 0, .int 0, .ref 90, .ref 91, .ref 92, .ref 93, .int 0, .int 0]) [(20, rp 80), (20, rp 16), (20, rp 16), (20, rp 16), (20, rp 16), (20, rp 19), (20, rp 19), (20, rp 266), (20, rp 38), (21, rp 2), (20, rp 6), (20, rp 6), (20, rp 16), (20, rp 16), (20, rp 16), (20, rp 16), (20, rp 16), (20, rp 16), (20, rp 80), (20, rp 16), (20, rp 16), (20, rp 16), (20, rp 6), (20, rp 64), (20, rp 16), (20, rp 16), (20, rp 16), (20, rp 16)] := by
  rw [hp_tp]
  unfold ob
  refine congrArg (fun t => tp scr s ++ t) ?_
  show shAt s 65 [(10, [68, 0, 0, 69, 70, 71, 72, 73, 74, 75, 0, 0, 76, 77, 78, 79, 0, 1, 0, 0, 80, 81, 82, 83, 0, 0, 0, 84, 85, 0, 86, 0, 0, 0, 87, 88, 89, 0, 90, 91, 0, 0, 0, 0, 92, 93, 94, 95, 0, 0]), (20, List.replicate 80 0), (20, List.replicate 16 0), (20, List.replicate 16 0), (20, List.replicate 16 0), (20, List.replicate 16 0), (20, List.replicate 19 0), (20, List.replicate 19 0), (20, List.replicate 266 0), (20, List.replicate 38 0), (21, List.replicate 2 0), (20, List.replicate 6 0), (20, List.replicate 6 0), (20, List.replicate 16 0), (20, List.replicate 16 0), (20, List.replicate 16 0), (20, List.replicate 16 0), (20, List.replicate 16 0), (20, List.replicate 16 0), (20, List.replicate 80 0), (20, List.replicate 16 0), (20, List.replicate 16 0), (20, List.replicate 16 0), (20, List.replicate 6 0), (20, List.replicate 64 0), (20, List.replicate 16 0), (20, List.replicate 16 0), (20, List.replicate 16 0), (20, List.replicate 16 0)] = _
  simp only [shAt, mkvs_y hz, Nat.reduceAdd, Nat.reduceLeDiff]
  simp only [mkvs, mkv_i, mkv_l, mkv_r, hz 65 _ (Nat.le_refl 65), hz2, Nat.reduceAdd]
set_option maxRecDepth 20000 in
theorem i_R (scr : List Int32) {s : MS} (hz : ∀ r k, 65 ≤ r → s.1 r k = 0) (hz2 : s.2 65 = 0) (Q : Option Value → HV → Prop) (h : ∀ s', Fr (fun r _ => r = 71) s s' → mRw 71 (row0 (8, 1, 2)) s' → Q none (hp scr s')) : X_R_init [.ref 65] (ob (tp scr s) cR []) Q := by
  have hn := tp_len scr s
  have h2 : 2 ≤ 65 := by decide
  have L0 : (ob (tp scr s) cR []).length = 66 := by rw [ob_len hn]; rfl
  have S0 : hsz (ob (tp scr s) cR []) = hsz (tp scr s) + 50 := by rw [ob_sz]; rfl
  refine ⟨by simp [lx, Value.category], ?_⟩
  rw [L0, S0]
  unfold B_R_init cR
  refine sSq_sSO rfl ?_
  refine qA (N := 80) (m := 66) rfl (by decide) hn h2 rfl (by simp) (by simp) rfl (by simp; try omega) (by simp [hsz, rp_len]; try omega) ?_
  refine qA (N := 16) (m := 67) rfl (by decide) hn h2 rfl (by simp) (by simp) rfl (by simp; try omega) (by simp [hsz, rp_len]; try omega) ?_
  refine qA (N := 16) (m := 68) rfl (by decide) hn h2 rfl (by simp) (by simp) rfl (by simp; try omega) (by simp [hsz, rp_len]; try omega) ?_
  refine qA (N := 16) (m := 69) rfl (by decide) hn h2 rfl (by simp) (by simp) rfl (by simp; try omega) (by simp [hsz, rp_len]; try omega) ?_
  refine qA (N := 16) (m := 70) rfl (by decide) hn h2 rfl (by simp) (by simp) rfl (by simp; try omega) (by simp [hsz, rp_len]; try omega) ?_
  refine qA (N := 19) (m := 71) rfl (by decide) hn h2 rfl (by simp) (by simp) rfl (by simp; try omega) (by simp [hsz, rp_len]; try omega) ?_
  refine qA (N := 19) (m := 72) rfl (by decide) hn h2 rfl (by simp) (by simp) rfl (by simp; try omega) (by simp [hsz, rp_len]; try omega) ?_
  refine qA (N := 266) (m := 73) rfl (by decide) hn h2 rfl (by simp) (by simp) rfl (by simp; try omega) (by simp [hsz, rp_len]; try omega) ?_
  refine qA (N := 38) (m := 74) rfl (by decide) hn h2 rfl (by simp) (by simp) rfl (by simp; try omega) (by simp [hsz, rp_len]; try omega) ?_
  refine qA (N := 2) (m := 75) rfl (by decide) hn h2 rfl (by simp) (by simp) rfl (by simp; try omega) (by simp [hsz, rp_len]; try omega) ?_
  refine qA (N := 6) (m := 76) rfl (by decide) hn h2 rfl (by simp) (by simp) rfl (by simp; try omega) (by simp [hsz, rp_len]; try omega) ?_
  refine qA (N := 6) (m := 77) rfl (by decide) hn h2 rfl (by simp) (by simp) rfl (by simp; try omega) (by simp [hsz, rp_len]; try omega) ?_
  refine qA (N := 16) (m := 78) rfl (by decide) hn h2 rfl (by simp) (by simp) rfl (by simp; try omega) (by simp [hsz, rp_len]; try omega) ?_
  refine qA (N := 16) (m := 79) rfl (by decide) hn h2 rfl (by simp) (by simp) rfl (by simp; try omega) (by simp [hsz, rp_len]; try omega) ?_
  refine qA (N := 16) (m := 80) rfl (by decide) hn h2 rfl (by simp) (by simp) rfl (by simp; try omega) (by simp [hsz, rp_len]; try omega) ?_
  refine qA (N := 16) (m := 81) rfl (by decide) hn h2 rfl (by simp) (by simp) rfl (by simp; try omega) (by simp [hsz, rp_len]; try omega) ?_
  refine qA (N := 16) (m := 82) rfl (by decide) hn h2 rfl (by simp) (by simp) rfl (by simp; try omega) (by simp [hsz, rp_len]; try omega) ?_
  refine qA (N := 16) (m := 83) rfl (by decide) hn h2 rfl (by simp) (by simp) rfl (by simp; try omega) (by simp [hsz, rp_len]; try omega) ?_
  refine qA (N := 80) (m := 84) rfl (by decide) hn h2 rfl (by simp) (by simp) rfl (by simp; try omega) (by simp [hsz, rp_len]; try omega) ?_
  refine qA (N := 16) (m := 85) rfl (by decide) hn h2 rfl (by simp) (by simp) rfl (by simp; try omega) (by simp [hsz, rp_len]; try omega) ?_
  refine qA (N := 16) (m := 86) rfl (by decide) hn h2 rfl (by simp) (by simp) rfl (by simp; try omega) (by simp [hsz, rp_len]; try omega) ?_
  refine qA (N := 16) (m := 87) rfl (by decide) hn h2 rfl (by simp) (by simp) rfl (by simp; try omega) (by simp [hsz, rp_len]; try omega) ?_
  refine qA (N := 6) (m := 88) rfl (by decide) hn h2 rfl (by simp) (by simp) rfl (by simp; try omega) (by simp [hsz, rp_len]; try omega) ?_
  refine qA (N := 64) (m := 89) rfl (by decide) hn h2 rfl (by simp) (by simp) rfl (by simp; try omega) (by simp [hsz, rp_len]; try omega) ?_
  refine qA (N := 16) (m := 90) rfl (by decide) hn h2 rfl (by simp) (by simp) rfl (by simp; try omega) (by simp [hsz, rp_len]; try omega) ?_
  refine qA (N := 16) (m := 91) rfl (by decide) hn h2 rfl (by simp) (by simp) rfl (by simp; try omega) (by simp [hsz, rp_len]; try omega) ?_
  refine qA (N := 16) (m := 92) rfl (by decide) hn h2 rfl (by simp) (by simp) rfl (by simp; try omega) (by simp [hsz, rp_len]; try omega) ?_
  refine qA (N := 16) (m := 93) rfl (by decide) hn h2 rfl (by simp) (by simp) rfl (by simp; try omega) (by simp [hsz, rp_len]; try omega) ?_
  refine at_hp (h' := hp scr s) (hp_of hz hz2).symm ?_
  simp [eV, eI, eL, eR, e1, e2, eDI, eDL, eFI, eFL, eFR, eAI, eAZ, eAR, eLen, aN, aC, xV, xS, eX, eIf, eC_b, cA, cO, cN, sSk, sSq, sI, sL, sR, sInc, sF, sFO, sAI, sAZ, sAO, sX, sXp, sIf, sCut, sSqs, sSw, sRt, sRz_g, is01_b, is01_0, is01_1, sRv, sBk, sCt, sCp, lset, lclr, lcut, lini, lx, Value.category, ixOf, b2i_0, b2i_1, T_R]
  refine s_R_first scr _ fun s1 f1 f2 => ⟨rfl, ?_⟩
  simp [T_R, G_R, show (16 : Int32).toNatClampNeg = 16 from rfl, show (17 : Int32).toNatClampNeg = 17 from rfl, show (18 : Int32).toNatClampNeg = 18 from rfl]
  refine ⟨⟨by rw [hp_len], by rw [hp_sz, tp_sz]⟩, ?_⟩
  refine h _ (((f1.up _ rfl).up _ rfl).up _ rfl) fun k hk => ?_
  simp only [up_get, row0]
  by_cases a : k < 16
  · have a1 : k ≠ 16 := by omega
    have a2 : k ≠ 17 := by omega
    have a3 : k ≠ 18 := by omega
    simp [a, a1, a2, a3]; exact f2 k a
  · rcases (show k = 16 ∨ k = 17 ∨ k = 18 by omega) with rfl | rfl | rfl <;> simp <;> rfl
