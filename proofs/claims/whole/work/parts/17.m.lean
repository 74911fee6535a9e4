/-! methods: the decoded rows, the meaning (B, X), the contract (v) -/
theorem d_R_see_0 : decode prog_12_method_75_code 0 = .ok (.iload_n 1, 1) := by decide +kernel
theorem d_R_see_1 : decode prog_12_method_75_code 1 = .ok (.invokestatic 338, 3) := by decide +kernel
theorem d_R_see_4 : decode prog_12_method_75_code 4 = .ok (.ifCond .ne 5, 3) := by decide +kernel
theorem d_R_see_7 : decode prog_12_method_75_code 7 = .ok (.iconst (-1), 1) := by decide +kernel
theorem d_R_see_8 : decode prog_12_method_75_code 8 = .ok (.ireturn, 1) := by decide +kernel
theorem d_R_see_9 : decode prog_12_method_75_code 9 = .ok (.aload_n 0, 1) := by decide +kernel
theorem d_R_see_10 : decode prog_12_method_75_code 10 = .ok (.getfield 326, 3) := by decide +kernel
theorem d_R_see_13 : decode prog_12_method_75_code 13 = .ok (.bipush 6, 2) := by decide +kernel
theorem d_R_see_15 : decode prog_12_method_75_code 15 = .ok (.if_icmp .ne 6, 3) := by decide +kernel
theorem d_R_see_18 : decode prog_12_method_75_code 18 = .ok (.bipush (-4), 2) := by decide +kernel
theorem d_R_see_20 : decode prog_12_method_75_code 20 = .ok (.ireturn, 1) := by decide +kernel
theorem d_R_see_21 : decode prog_12_method_75_code 21 = .ok (.aload_n 0, 1) := by decide +kernel
theorem d_R_see_22 : decode prog_12_method_75_code 22 = .ok (.getfield 41, 3) := by decide +kernel
theorem d_R_see_25 : decode prog_12_method_75_code 25 = .ok (.aload_n 0, 1) := by decide +kernel
theorem d_R_see_26 : decode prog_12_method_75_code 26 = .ok (.getfield 326, 3) := by decide +kernel
theorem d_R_see_29 : decode prog_12_method_75_code 29 = .ok (.iload_n 1, 1) := by decide +kernel
theorem d_R_see_30 : decode prog_12_method_75_code 30 = .ok (.iastore, 1) := by decide +kernel
theorem d_R_see_31 : decode prog_12_method_75_code 31 = .ok (.aload_n 0, 1) := by decide +kernel
theorem d_R_see_32 : decode prog_12_method_75_code 32 = .ok (.getfield 44, 3) := by decide +kernel
theorem d_R_see_35 : decode prog_12_method_75_code 35 = .ok (.aload_n 0, 1) := by decide +kernel
theorem d_R_see_36 : decode prog_12_method_75_code 36 = .ok (.getfield 326, 3) := by decide +kernel
theorem d_R_see_39 : decode prog_12_method_75_code 39 = .ok (.iload_n 2, 1) := by decide +kernel
theorem d_R_see_40 : decode prog_12_method_75_code 40 = .ok (.iastore, 1) := by decide +kernel
theorem d_R_see_41 : decode prog_12_method_75_code 41 = .ok (.aload_n 0, 1) := by decide +kernel
theorem d_R_see_42 : decode prog_12_method_75_code 42 = .ok (.dup, 1) := by decide +kernel
theorem d_R_see_43 : decode prog_12_method_75_code 43 = .ok (.getfield 326, 3) := by decide +kernel
theorem d_R_see_46 : decode prog_12_method_75_code 46 = .ok (.iconst 1, 1) := by decide +kernel
theorem d_R_see_47 : decode prog_12_method_75_code 47 = .ok (.iadd, 1) := by decide +kernel
theorem d_R_see_48 : decode prog_12_method_75_code 48 = .ok (.putfield 326, 3) := by decide +kernel
theorem d_R_see_51 : decode prog_12_method_75_code 51 = .ok (.aload_n 0, 1) := by decide +kernel
theorem d_R_see_52 : decode prog_12_method_75_code 52 = .ok (.getfield 326, 3) := by decide +kernel
theorem d_R_see_55 : decode prog_12_method_75_code 55 = .ok (.ireturn, 1) := by decide +kernel
def B_R_see (_ : Nat × Nat) : PS :=
  (sSq (sIf (cN (e1 (fun x : Int32 => decide (¬ x = 0)) (eX .int (xS 1 X_R_isAddress (aC .int (eI 1) aN))))) (sRt .int (eV (-1 : Int32))) sSk)
    (sSq (sIf (e2 (fun x y : Int32 => decide (x = y)) (eFI 10 16 (eR 0)) (eV (6 : Int32))) (sRt .int (eV (-4 : Int32))) sSk)
    (sSq (sAI (eFR 10 14 (eR 0)) (eFI 10 16 (eR 0)) (eI 1))
    (sSq (sAI (eFR 10 15 (eR 0)) (eFI 10 16 (eR 0)) (eI 2))
    (sSq (sFO 10 16 (fun x y : Int32 => x + y) (eR 0) (eV (1 : Int32)))
    (sRt .int (eFI 10 16 (eR 0))))))))
def X_R_see : PM := fun vs h Q => (lx vs).length ≤ 3 ∧ B_R_see (h.length + 0, hsz h + 0) (fun _ _ => False) (fun _ _ => False) (fun _ _ => False) Q (lini 3 vs) h
theorem v_R_see (l : Launch) : Ctr l y_R_see prog_12_method_75_code 3 (some .int) rm_R_see X_R_see := by
  refine Ctr_of (own := "PackLanesModel") (B := B_R_see) (KR := fun _ Q => Q) (by decide) rfl (fun _ _ _ z => z) (fun _ _ _ _ z => ⟨Or.inl ⟨rfl, rfl⟩, z⟩) (Or.inr (Or.inl rfl)) (fun κ hl ho hR hrt hn0 => ?_)
  subst hl
  unfold B_R_see
  exact (S_sq (pc1 := 9) (S_if1 (pT := 7) (pF := 9) (C_not (T1_ne (pT := 9) (pc2 := 4) (E_x (O_S k_R_338 (v_R_isAddress _) ⟨rfl, rfl⟩ ho (rk hR rfl) (by decide) (pc2 := 1) (A_c catI (pc1 := 1) (E_iln d_R_see_0 rfl) A_n) d_R_see_1)) d_R_see_4 rfl)) (S_ri hrt (pc1 := 8) (E_ic d_R_see_7 rfl) d_R_see_8))
    (S_sq (pc1 := 21) (S_if1 (pT := 18) (pF := 21) (J2_eq (pF := 21) (pc1 := 13) (pc2 := 15) (E_fI f_R_326 ho (pc1 := 10) (E_aln d_R_see_9 rfl) d_R_see_10) (E_bi d_R_see_13 rfl) d_R_see_15 rfl) (S_ri hrt (pc1 := 20) (E_bi d_R_see_18 rfl) d_R_see_20))
    (S_sq (pc1 := 31) (S_AI (pc1 := 25) (pc2 := 29) (pc3 := 30) (E_fR f_R_41 ho (pc1 := 22) (E_aln d_R_see_21 rfl) d_R_see_22) (E_fI f_R_326 ho (pc1 := 26) (E_aln d_R_see_25 rfl) d_R_see_26) (E_iln d_R_see_29 rfl) d_R_see_30)
    (S_sq (pc1 := 41) (S_AI (pc1 := 35) (pc2 := 39) (pc3 := 40) (E_fR f_R_44 ho (pc1 := 32) (E_aln d_R_see_31 rfl) d_R_see_32) (E_fI f_R_326 ho (pc1 := 36) (E_aln d_R_see_35 rfl) d_R_see_36) (E_iln d_R_see_39 rfl) d_R_see_40)
    (S_sq (pc1 := 51) (S_FO f_R_326 f_R_326 ho (pc1 := 42) (pc2 := 47) (E_aln d_R_see_41 rfl) d_R_see_42 d_R_see_43 (E_ic d_R_see_46 rfl) (fun _ _ _ _ _ k => r_iadd d_R_see_47 k) d_R_see_48)
    (S_ri hrt (pc1 := 55) (E_fI f_R_326 ho (pc1 := 52) (E_aln d_R_see_51 rfl) d_R_see_52) d_R_see_55))))))
theorem d_R_unsee_0 : decode prog_12_method_76_code 0 = .ok (.aload_n 0, 1) := by decide +kernel
theorem d_R_unsee_1 : decode prog_12_method_76_code 1 = .ok (.getfield 326, 3) := by decide +kernel
theorem d_R_unsee_4 : decode prog_12_method_76_code 4 = .ok (.istore_n 1, 1) := by decide +kernel
theorem d_R_unsee_5 : decode prog_12_method_76_code 5 = .ok (.aload_n 0, 1) := by decide +kernel
theorem d_R_unsee_6 : decode prog_12_method_76_code 6 = .ok (.iconst 0, 1) := by decide +kernel
theorem d_R_unsee_7 : decode prog_12_method_76_code 7 = .ok (.putfield 326, 3) := by decide +kernel
theorem d_R_unsee_10 : decode prog_12_method_76_code 10 = .ok (.iload_n 1, 1) := by decide +kernel
theorem d_R_unsee_11 : decode prog_12_method_76_code 11 = .ok (.ireturn, 1) := by decide +kernel
def B_R_unsee (_ : Nat × Nat) : PS :=
  (sSq (sI 1 (eFI 10 16 (eR 0)))
    (sSq (sF .int 10 16 (eR 0) (eV (0 : Int32)))
    (sRt .int (eI 1))))
def X_R_unsee : PM := fun vs h Q => (lx vs).length ≤ 2 ∧ B_R_unsee (h.length + 0, hsz h + 0) (fun _ _ => False) (fun _ _ => False) (fun _ _ => False) Q (lini 2 vs) h
theorem v_R_unsee (l : Launch) : Ctr l y_R_unsee prog_12_method_76_code 2 (some .int) rm_R_unsee X_R_unsee := by
  refine Ctr_of (own := "PackLanesModel") (B := B_R_unsee) (KR := fun _ Q => Q) (by decide) rfl (fun _ _ _ z => z) (fun _ _ _ _ z => ⟨Or.inl ⟨rfl, rfl⟩, z⟩) (Or.inr (Or.inl rfl)) (fun κ hl ho hR hrt hn0 => ?_)
  subst hl
  unfold B_R_unsee
  exact (S_sq (pc1 := 5) (S_In (pc1 := 4) (E_fI f_R_326 ho (pc1 := 1) (E_aln d_R_unsee_0 rfl) d_R_unsee_1) d_R_unsee_4 rfl)
    (S_sq (pc1 := 10) (S_FI f_R_326 ho (pc1 := 6) (pc2 := 7) (E_aln d_R_unsee_5 rfl) (E_ic d_R_unsee_6 rfl) d_R_unsee_7)
    (S_ri hrt (pc1 := 11) (E_iln d_R_unsee_10 rfl) d_R_unsee_11)))
theorem d_R_which_0 : decode prog_12_method_77_code 0 = .ok (.iconst 0, 1) := by decide +kernel
theorem d_R_which_1 : decode prog_12_method_77_code 1 = .ok (.istore_n 1, 1) := by decide +kernel
theorem d_R_which_2 : decode prog_12_method_77_code 2 = .ok (.iconst 0, 1) := by decide +kernel
theorem d_R_which_3 : decode prog_12_method_77_code 3 = .ok (.istore_n 2, 1) := by decide +kernel
theorem d_R_which_4 : decode prog_12_method_77_code 4 = .ok (.iload_n 2, 1) := by decide +kernel
theorem d_R_which_5 : decode prog_12_method_77_code 5 = .ok (.aload_n 0, 1) := by decide +kernel
theorem d_R_which_6 : decode prog_12_method_77_code 6 = .ok (.getfield 99, 3) := by decide +kernel
theorem d_R_which_9 : decode prog_12_method_77_code 9 = .ok (.if_icmp .ge 84, 3) := by decide +kernel
theorem d_R_which_12 : decode prog_12_method_77_code 12 = .ok (.aload_n 0, 1) := by decide +kernel
theorem d_R_which_13 : decode prog_12_method_77_code 13 = .ok (.aload_n 0, 1) := by decide +kernel
theorem d_R_which_14 : decode prog_12_method_77_code 14 = .ok (.getfield 25, 3) := by decide +kernel
theorem d_R_which_17 : decode prog_12_method_77_code 17 = .ok (.iload_n 2, 1) := by decide +kernel
theorem d_R_which_18 : decode prog_12_method_77_code 18 = .ok (.invokevirtual 316, 3) := by decide +kernel
theorem d_R_which_21 : decode prog_12_method_77_code 21 = .ok (.iconst 1, 1) := by decide +kernel
theorem d_R_which_22 : decode prog_12_method_77_code 22 = .ok (.istore_n 3, 1) := by decide +kernel
theorem d_R_which_23 : decode prog_12_method_77_code 23 = .ok (.iconst 0, 1) := by decide +kernel
theorem d_R_which_24 : decode prog_12_method_77_code 24 = .ok (.istore 4, 2) := by decide +kernel
theorem d_R_which_26 : decode prog_12_method_77_code 26 = .ok (.iload 4, 2) := by decide +kernel
theorem d_R_which_28 : decode prog_12_method_77_code 28 = .ok (.aload_n 0, 1) := by decide +kernel
theorem d_R_which_29 : decode prog_12_method_77_code 29 = .ok (.getfield 326, 3) := by decide +kernel
theorem d_R_which_32 : decode prog_12_method_77_code 32 = .ok (.if_icmp .ge 41, 3) := by decide +kernel
theorem d_R_which_35 : decode prog_12_method_77_code 35 = .ok (.iload_n 3, 1) := by decide +kernel
theorem d_R_which_36 : decode prog_12_method_77_code 36 = .ok (.ifCond .eq 29, 3) := by decide +kernel
theorem d_R_which_39 : decode prog_12_method_77_code 39 = .ok (.aload_n 0, 1) := by decide +kernel
theorem d_R_which_40 : decode prog_12_method_77_code 40 = .ok (.getfield 71, 3) := by decide +kernel
theorem d_R_which_43 : decode prog_12_method_77_code 43 = .ok (.aload_n 0, 1) := by decide +kernel
theorem d_R_which_44 : decode prog_12_method_77_code 44 = .ok (.getfield 41, 3) := by decide +kernel
theorem d_R_which_47 : decode prog_12_method_77_code 47 = .ok (.iload 4, 2) := by decide +kernel
theorem d_R_which_49 : decode prog_12_method_77_code 49 = .ok (.iaload, 1) := by decide +kernel
theorem d_R_which_50 : decode prog_12_method_77_code 50 = .ok (.iaload, 1) := by decide +kernel
theorem d_R_which_51 : decode prog_12_method_77_code 51 = .ok (.aload_n 0, 1) := by decide +kernel
theorem d_R_which_52 : decode prog_12_method_77_code 52 = .ok (.getfield 44, 3) := by decide +kernel
theorem d_R_which_55 : decode prog_12_method_77_code 55 = .ok (.iload 4, 2) := by decide +kernel
theorem d_R_which_57 : decode prog_12_method_77_code 57 = .ok (.iaload, 1) := by decide +kernel
theorem d_R_which_58 : decode prog_12_method_77_code 58 = .ok (.if_icmp .ne 7, 3) := by decide +kernel
theorem d_R_which_61 : decode prog_12_method_77_code 61 = .ok (.iconst 1, 1) := by decide +kernel
theorem d_R_which_62 : decode prog_12_method_77_code 62 = .ok (.goto 4, 3) := by decide +kernel
theorem d_R_which_65 : decode prog_12_method_77_code 65 = .ok (.iconst 0, 1) := by decide +kernel
theorem d_R_which_66 : decode prog_12_method_77_code 66 = .ok (.istore_n 3, 1) := by decide +kernel
theorem d_R_which_67 : decode prog_12_method_77_code 67 = .ok (.iinc 4 1, 3) := by decide +kernel
theorem d_R_which_70 : decode prog_12_method_77_code 70 = .ok (.goto (-44), 3) := by decide +kernel
theorem d_R_which_73 : decode prog_12_method_77_code 73 = .ok (.iload_n 1, 1) := by decide +kernel
theorem d_R_which_74 : decode prog_12_method_77_code 74 = .ok (.iload_n 3, 1) := by decide +kernel
theorem d_R_which_75 : decode prog_12_method_77_code 75 = .ok (.ifCond .eq 9, 3) := by decide +kernel
theorem d_R_which_78 : decode prog_12_method_77_code 78 = .ok (.iconst 1, 1) := by decide +kernel
theorem d_R_which_79 : decode prog_12_method_77_code 79 = .ok (.iload_n 2, 1) := by decide +kernel
theorem d_R_which_80 : decode prog_12_method_77_code 80 = .ok (.ishl, 1) := by decide +kernel
theorem d_R_which_81 : decode prog_12_method_77_code 81 = .ok (.goto 4, 3) := by decide +kernel
theorem d_R_which_84 : decode prog_12_method_77_code 84 = .ok (.iconst 0, 1) := by decide +kernel
theorem d_R_which_85 : decode prog_12_method_77_code 85 = .ok (.ior, 1) := by decide +kernel
theorem d_R_which_86 : decode prog_12_method_77_code 86 = .ok (.istore_n 1, 1) := by decide +kernel
theorem d_R_which_87 : decode prog_12_method_77_code 87 = .ok (.iinc 2 1, 3) := by decide +kernel
theorem d_R_which_90 : decode prog_12_method_77_code 90 = .ok (.goto (-86), 3) := by decide +kernel
theorem d_R_which_93 : decode prog_12_method_77_code 93 = .ok (.iload_n 1, 1) := by decide +kernel
theorem d_R_which_94 : decode prog_12_method_77_code 94 = .ok (.ireturn, 1) := by decide +kernel
def B_R_which (_ : Nat × Nat) : PS :=
  (sSq (sI 1 (eV (0 : Int32)))
    (sSq (sCut 2 (sSq (sI 2 (eV (0 : Int32)))
    (sLp 3 (e2 (fun x y : Int32 => decide (x < y)) (eI 2) (eFI 10 2 (eR 0)))
    (sCut 3 (sSq (sX (xV 10 2 X_R_run (eR 0) (aC .ref (eFR 10 7 (eR 0)) (aC .int (eI 2) aN))))
    (sSq (sI 3 (eV (1 : Int32)))
    (sSq (sCut 4 (sSq (sI 4 (eV (0 : Int32)))
    (sLp 5 (e2 (fun x y : Int32 => decide (x < y)) (eI 4) (eFI 10 16 (eR 0)))
    (sI 3 (eC (cA (e1 (fun x : Int32 => decide (¬ x = 0)) (eI 3)) (e2 (fun x y : Int32 => decide (x = y)) (eAI (eFR 10 35 (eR 0)) (eAI (eFR 10 14 (eR 0)) (eI 4))) (eAI (eFR 10 15 (eR 0)) (eI 4))))))
    (sInc 4 (1)))))
    (sI 1 (e2 (fun x y : Int32 => x ||| y) (eI 1) (eIf (e1 (fun x : Int32 => decide (¬ x = 0)) (eI 3)) (e2 (fun x y : Int32 => x <<< (y &&& 31)) (eV (1 : Int32)) (eI 2)) (eV (0 : Int32)))))))))
    (sInc 2 (1)))))
    (sRt .int (eI 1))))
def X_R_which : PM := fun vs h Q => (lx vs).length ≤ 5 ∧ B_R_which (h.length + 0, hsz h + 0) (fun _ _ => False) (fun _ _ => False) (fun _ _ => False) Q (lini 5 vs) h
theorem v_R_which (l : Launch) : Ctr l y_R_which prog_12_method_77_code 5 (some .int) rm_R_which X_R_which := by
  refine Ctr_of (own := "PackLanesModel") (B := B_R_which) (KR := fun _ Q => Q) (by decide) rfl (fun _ _ _ z => z) (fun _ _ _ _ z => ⟨Or.inl ⟨rfl, rfl⟩, z⟩) (Or.inr (Or.inl rfl)) (fun κ hl ho hR hrt hn0 => ?_)
  subst hl
  unfold B_R_which
  exact (S_sq (pc1 := 2) (S_In (pc1 := 1) (E_ic d_R_which_0 rfl) d_R_which_1 rfl)
    (S_sq (pc1 := 93) (S_cut (S_sq (pc1 := 4) (S_In (pc1 := 3) (E_ic d_R_which_2 rfl) d_R_which_3 rfl)
    (S_lp (pT := 12) (pF := 93) (pS := 87) (pG := 90) (J2_lt (pF := 93) (pc1 := 5) (pc2 := 9) (E_iln d_R_which_4 rfl) (E_fI f_R_99 ho (pc1 := 6) (E_aln d_R_which_5 rfl) d_R_which_6) d_R_which_9 rfl)
    (S_cut (S_sq (pc1 := 21) (S_X (O_V k_R_316 (v_R_run _) ⟨rfl, rfl⟩ ho (rk hR rfl) (by decide) (T := KT10) (N := 50) rfl (by decide) (pc1 := 13) (pc2 := 18) (E_aln d_R_which_12 rfl) (A_c catR (pc1 := 17) (E_fR f_R_25 ho (pc1 := 14) (E_aln d_R_which_13 rfl) d_R_which_14) (A_c catI (pc1 := 18) (E_iln d_R_which_17 rfl) A_n)) d_R_which_18))
    (S_sq (pc1 := 23) (S_In (pc1 := 22) (E_ic d_R_which_21 rfl) d_R_which_22 rfl)
    (S_sq (pc1 := 73) (S_cut (S_sq (pc1 := 26) (S_I (pc1 := 24) (E_ic d_R_which_23 rfl) d_R_which_24)
    (S_lp (pT := 35) (pF := 73) (pS := 67) (pG := 70) (J2_lt (pF := 73) (pc1 := 28) (pc2 := 32) (E_il d_R_which_26) (E_fI f_R_326 ho (pc1 := 29) (E_aln d_R_which_28 rfl) d_R_which_29) d_R_which_32 rfl)
    (S_In (pc1 := 66) (E_C (pT := 61) (pF := 65) (pc2 := 66) (C_and (pc1 := 39) (J1_ne (pF := 65) (pc2 := 36) (E_iln d_R_which_35 rfl) d_R_which_36 rfl) (J2_eq (pF := 65) (pc1 := 51) (pc2 := 58) (E_aI (pc1 := 43) (pc2 := 50) (E_fR f_R_71 ho (pc1 := 40) (E_aln d_R_which_39 rfl) d_R_which_40) (E_aI (pc1 := 47) (pc2 := 49) (E_fR f_R_41 ho (pc1 := 44) (E_aln d_R_which_43 rfl) d_R_which_44) (E_il d_R_which_47) d_R_which_49) d_R_which_50) (E_aI (pc1 := 55) (pc2 := 57) (E_fR f_R_44 ho (pc1 := 52) (E_aln d_R_which_51 rfl) d_R_which_52) (E_il d_R_which_55) d_R_which_57) d_R_which_58 rfl)) d_R_which_61 d_R_which_62 rfl d_R_which_65 rfl) d_R_which_66 rfl)
    (S_Inc d_R_which_67 rfl) d_R_which_70 rfl)))
    (S_In (pc1 := 86) (E_ior (pc1 := 74) (pc2 := 85) (E_iln d_R_which_73 rfl) (E_if (pT := 78) (pF := 84) (pc1 := 81) (pc2 := 85) (J1_ne (pF := 84) (pc2 := 75) (E_iln d_R_which_74 rfl) d_R_which_75 rfl) (E_ishl (pc1 := 79) (pc2 := 80) (E_ic d_R_which_78 rfl) (E_iln d_R_which_79 rfl) d_R_which_80) d_R_which_81 rfl (E_ic d_R_which_84 rfl)) d_R_which_85) d_R_which_86 rfl)))))
    (S_Inc d_R_which_87 rfl) d_R_which_90 rfl)))
    (S_ri hrt (pc1 := 94) (E_iln d_R_which_93 rfl) d_R_which_94)))
theorem d_R_layStores_0 : decode prog_12_method_78_code 0 = .ok (.iconst 0, 1) := by decide +kernel
theorem d_R_layStores_1 : decode prog_12_method_78_code 1 = .ok (.istore_n 1, 1) := by decide +kernel
theorem d_R_layStores_2 : decode prog_12_method_78_code 2 = .ok (.iconst 0, 1) := by decide +kernel
theorem d_R_layStores_3 : decode prog_12_method_78_code 3 = .ok (.istore_n 2, 1) := by decide +kernel
theorem d_R_layStores_4 : decode prog_12_method_78_code 4 = .ok (.iload_n 2, 1) := by decide +kernel
theorem d_R_layStores_5 : decode prog_12_method_78_code 5 = .ok (.aload_n 0, 1) := by decide +kernel
theorem d_R_layStores_6 : decode prog_12_method_78_code 6 = .ok (.getfield 99, 3) := by decide +kernel
theorem d_R_layStores_9 : decode prog_12_method_78_code 9 = .ok (.if_icmp .ge 40, 3) := by decide +kernel
theorem d_R_layStores_12 : decode prog_12_method_78_code 12 = .ok (.aload_n 0, 1) := by decide +kernel
theorem d_R_layStores_13 : decode prog_12_method_78_code 13 = .ok (.getfield 13, 3) := by decide +kernel
theorem d_R_layStores_16 : decode prog_12_method_78_code 16 = .ok (.iload_n 2, 1) := by decide +kernel
theorem d_R_layStores_17 : decode prog_12_method_78_code 17 = .ok (.iaload, 1) := by decide +kernel
theorem d_R_layStores_18 : decode prog_12_method_78_code 18 = .ok (.bipush 6, 2) := by decide +kernel
theorem d_R_layStores_20 : decode prog_12_method_78_code 20 = .ok (.if_icmp .ne 23, 3) := by decide +kernel
theorem d_R_layStores_23 : decode prog_12_method_78_code 23 = .ok (.aload_n 0, 1) := by decide +kernel
theorem d_R_layStores_24 : decode prog_12_method_78_code 24 = .ok (.getfield 77, 3) := by decide +kernel
theorem d_R_layStores_27 : decode prog_12_method_78_code 27 = .ok (.iload_n 1, 1) := by decide +kernel
theorem d_R_layStores_28 : decode prog_12_method_78_code 28 = .ok (.bipush 6, 2) := by decide +kernel
theorem d_R_layStores_30 : decode prog_12_method_78_code 30 = .ok (.if_icmp .ge 7, 3) := by decide +kernel
theorem d_R_layStores_33 : decode prog_12_method_78_code 33 = .ok (.iload_n 1, 1) := by decide +kernel
theorem d_R_layStores_34 : decode prog_12_method_78_code 34 = .ok (.goto 4, 3) := by decide +kernel
theorem d_R_layStores_37 : decode prog_12_method_78_code 37 = .ok (.iconst 5, 1) := by decide +kernel
theorem d_R_layStores_38 : decode prog_12_method_78_code 38 = .ok (.iload_n 2, 1) := by decide +kernel
theorem d_R_layStores_39 : decode prog_12_method_78_code 39 = .ok (.iastore, 1) := by decide +kernel
theorem d_R_layStores_40 : decode prog_12_method_78_code 40 = .ok (.iinc 1 1, 3) := by decide +kernel
theorem d_R_layStores_43 : decode prog_12_method_78_code 43 = .ok (.iinc 2 1, 3) := by decide +kernel
theorem d_R_layStores_46 : decode prog_12_method_78_code 46 = .ok (.goto (-42), 3) := by decide +kernel
theorem d_R_layStores_49 : decode prog_12_method_78_code 49 = .ok (.iload_n 1, 1) := by decide +kernel
theorem d_R_layStores_50 : decode prog_12_method_78_code 50 = .ok (.ireturn, 1) := by decide +kernel
def B_R_layStores (_ : Nat × Nat) : PS :=
  (sSq (sI 1 (eV (0 : Int32)))
    (sSq (sCut 2 (sSq (sI 2 (eV (0 : Int32)))
    (sLp 3 (e2 (fun x y : Int32 => decide (x < y)) (eI 2) (eFI 10 2 (eR 0)))
    (sIf (e2 (fun x y : Int32 => decide (x = y)) (eAI (eFR 10 3 (eR 0)) (eI 2)) (eV (6 : Int32))) (sSq (sAI (eFR 10 38 (eR 0)) (eIf (e2 (fun x y : Int32 => decide (x < y)) (eI 1) (eV (6 : Int32))) (eI 1) (eV (5 : Int32))) (eI 2))
    (sInc 1 (1))) sSk)
    (sInc 2 (1)))))
    (sRt .int (eI 1))))
def X_R_layStores : PM := fun vs h Q => (lx vs).length ≤ 3 ∧ B_R_layStores (h.length + 0, hsz h + 0) (fun _ _ => False) (fun _ _ => False) (fun _ _ => False) Q (lini 3 vs) h
theorem v_R_layStores (l : Launch) : Ctr l y_R_layStores prog_12_method_78_code 3 (some .int) rm_R_layStores X_R_layStores := by
  refine Ctr_of (own := "PackLanesModel") (B := B_R_layStores) (KR := fun _ Q => Q) (by decide) rfl (fun _ _ _ z => z) (fun _ _ _ _ z => ⟨Or.inl ⟨rfl, rfl⟩, z⟩) (Or.inr (Or.inl rfl)) (fun κ hl ho hR hrt hn0 => ?_)
  subst hl
  unfold B_R_layStores
  exact (S_sq (pc1 := 2) (S_In (pc1 := 1) (E_ic d_R_layStores_0 rfl) d_R_layStores_1 rfl)
    (S_sq (pc1 := 49) (S_cut (S_sq (pc1 := 4) (S_In (pc1 := 3) (E_ic d_R_layStores_2 rfl) d_R_layStores_3 rfl)
    (S_lp (pT := 12) (pF := 49) (pS := 43) (pG := 46) (J2_lt (pF := 49) (pc1 := 5) (pc2 := 9) (E_iln d_R_layStores_4 rfl) (E_fI f_R_99 ho (pc1 := 6) (E_aln d_R_layStores_5 rfl) d_R_layStores_6) d_R_layStores_9 rfl)
    (S_if1 (pT := 23) (pF := 43) (J2_eq (pF := 43) (pc1 := 18) (pc2 := 20) (E_aI (pc1 := 16) (pc2 := 17) (E_fR f_R_13 ho (pc1 := 13) (E_aln d_R_layStores_12 rfl) d_R_layStores_13) (E_iln d_R_layStores_16 rfl) d_R_layStores_17) (E_bi d_R_layStores_18 rfl) d_R_layStores_20 rfl) (S_sq (pc1 := 40) (S_AI (pc1 := 27) (pc2 := 38) (pc3 := 39) (E_fR f_R_77 ho (pc1 := 24) (E_aln d_R_layStores_23 rfl) d_R_layStores_24) (E_if (pT := 33) (pF := 37) (pc1 := 34) (pc2 := 38) (J2_lt (pF := 37) (pc1 := 28) (pc2 := 30) (E_iln d_R_layStores_27 rfl) (E_bi d_R_layStores_28 rfl) d_R_layStores_30 rfl) (E_iln d_R_layStores_33 rfl) d_R_layStores_34 rfl (E_ic d_R_layStores_37 rfl)) (E_iln d_R_layStores_38 rfl) d_R_layStores_39)
    (S_Inc d_R_layStores_40 rfl)))
    (S_Inc d_R_layStores_43 rfl) d_R_layStores_46 rfl)))
    (S_ri hrt (pc1 := 50) (E_iln d_R_layStores_49 rfl) d_R_layStores_50)))
theorem d_R_gainsBy_0 : decode prog_12_method_79_code 0 = .ok (.iconst 0, 1) := by decide +kernel
theorem d_R_gainsBy_1 : decode prog_12_method_79_code 1 = .ok (.istore_n 3, 1) := by decide +kernel
theorem d_R_gainsBy_2 : decode prog_12_method_79_code 2 = .ok (.iconst 0, 1) := by decide +kernel
theorem d_R_gainsBy_3 : decode prog_12_method_79_code 3 = .ok (.istore 4, 2) := by decide +kernel
theorem d_R_gainsBy_5 : decode prog_12_method_79_code 5 = .ok (.iload 4, 2) := by decide +kernel
theorem d_R_gainsBy_7 : decode prog_12_method_79_code 7 = .ok (.iload_n 2, 1) := by decide +kernel
theorem d_R_gainsBy_8 : decode prog_12_method_79_code 8 = .ok (.if_icmp .ge 34, 3) := by decide +kernel
theorem d_R_gainsBy_11 : decode prog_12_method_79_code 11 = .ok (.iload_n 3, 1) := by decide +kernel
theorem d_R_gainsBy_12 : decode prog_12_method_79_code 12 = .ok (.iload_n 1, 1) := by decide +kernel
theorem d_R_gainsBy_13 : decode prog_12_method_79_code 13 = .ok (.iload 4, 2) := by decide +kernel
theorem d_R_gainsBy_15 : decode prog_12_method_79_code 15 = .ok (.invokestatic 190, 3) := by decide +kernel
theorem d_R_gainsBy_18 : decode prog_12_method_79_code 18 = .ok (.ifCond .eq 7, 3) := by decide +kernel
theorem d_R_gainsBy_21 : decode prog_12_method_79_code 21 = .ok (.iconst 0, 1) := by decide +kernel
theorem d_R_gainsBy_22 : decode prog_12_method_79_code 22 = .ok (.goto 12, 3) := by decide +kernel
theorem d_R_gainsBy_25 : decode prog_12_method_79_code 25 = .ok (.iconst 1, 1) := by decide +kernel
theorem d_R_gainsBy_26 : decode prog_12_method_79_code 26 = .ok (.aload_n 0, 1) := by decide +kernel
theorem d_R_gainsBy_27 : decode prog_12_method_79_code 27 = .ok (.getfield 77, 3) := by decide +kernel
theorem d_R_gainsBy_30 : decode prog_12_method_79_code 30 = .ok (.iload 4, 2) := by decide +kernel
theorem d_R_gainsBy_32 : decode prog_12_method_79_code 32 = .ok (.iaload, 1) := by decide +kernel
theorem d_R_gainsBy_33 : decode prog_12_method_79_code 33 = .ok (.ishl, 1) := by decide +kernel
theorem d_R_gainsBy_34 : decode prog_12_method_79_code 34 = .ok (.ior, 1) := by decide +kernel
theorem d_R_gainsBy_35 : decode prog_12_method_79_code 35 = .ok (.istore_n 3, 1) := by decide +kernel
theorem d_R_gainsBy_36 : decode prog_12_method_79_code 36 = .ok (.iinc 4 1, 3) := by decide +kernel
theorem d_R_gainsBy_39 : decode prog_12_method_79_code 39 = .ok (.goto (-34), 3) := by decide +kernel
theorem d_R_gainsBy_42 : decode prog_12_method_79_code 42 = .ok (.aload_n 0, 1) := by decide +kernel
theorem d_R_gainsBy_43 : decode prog_12_method_79_code 43 = .ok (.aload_n 0, 1) := by decide +kernel
theorem d_R_gainsBy_44 : decode prog_12_method_79_code 44 = .ok (.getfield 25, 3) := by decide +kernel
theorem d_R_gainsBy_47 : decode prog_12_method_79_code 47 = .ok (.iload_n 3, 1) := by decide +kernel
theorem d_R_gainsBy_48 : decode prog_12_method_79_code 48 = .ok (.invokevirtual 287, 3) := by decide +kernel
theorem d_R_gainsBy_51 : decode prog_12_method_79_code 51 = .ok (.aload_n 0, 1) := by decide +kernel
theorem d_R_gainsBy_52 : decode prog_12_method_79_code 52 = .ok (.getfield 259, 3) := by decide +kernel
theorem d_R_gainsBy_55 : decode prog_12_method_79_code 55 = .ok (.ireturn, 1) := by decide +kernel
def B_R_gainsBy (_ : Nat × Nat) : PS :=
  (sSq (sI 3 (eV (0 : Int32)))
    (sSq (sCut 4 (sSq (sI 4 (eV (0 : Int32)))
    (sLp 5 (e2 (fun x y : Int32 => decide (x < y)) (eI 4) (eI 2))
    (sI 3 (e2 (fun x y : Int32 => x ||| y) (eI 3) (eIf (e1 (fun x : Int32 => decide (¬ x = 0)) (eX .int (xS 2 X_R_has (aC .int (eI 1) (aC .int (eI 4) aN))))) (eV (0 : Int32)) (e2 (fun x y : Int32 => x <<< (y &&& 31)) (eV (1 : Int32)) (eAI (eFR 10 38 (eR 0)) (eI 4))))))
    (sInc 4 (1)))))
    (sSq (sX (xV 10 2 X_R_pack (eR 0) (aC .ref (eFR 10 7 (eR 0)) (aC .int (eI 3) aN))))
    (sRt .int (eFI 10 26 (eR 0))))))
def X_R_gainsBy : PM := fun vs h Q => (lx vs).length ≤ 5 ∧ B_R_gainsBy (h.length + 0, hsz h + 0) (fun _ _ => False) (fun _ _ => False) (fun _ _ => False) Q (lini 5 vs) h
theorem v_R_gainsBy (l : Launch) : Ctr l y_R_gainsBy prog_12_method_79_code 5 (some .int) rm_R_gainsBy X_R_gainsBy := by
  refine Ctr_of (own := "PackLanesModel") (B := B_R_gainsBy) (KR := fun _ Q => Q) (by decide) rfl (fun _ _ _ z => z) (fun _ _ _ _ z => ⟨Or.inl ⟨rfl, rfl⟩, z⟩) (Or.inr (Or.inl rfl)) (fun κ hl ho hR hrt hn0 => ?_)
  subst hl
  unfold B_R_gainsBy
  exact (S_sq (pc1 := 2) (S_In (pc1 := 1) (E_ic d_R_gainsBy_0 rfl) d_R_gainsBy_1 rfl)
    (S_sq (pc1 := 42) (S_cut (S_sq (pc1 := 5) (S_I (pc1 := 3) (E_ic d_R_gainsBy_2 rfl) d_R_gainsBy_3)
    (S_lp (pT := 11) (pF := 42) (pS := 36) (pG := 39) (J2_lt (pF := 42) (pc1 := 7) (pc2 := 8) (E_il d_R_gainsBy_5) (E_iln d_R_gainsBy_7 rfl) d_R_gainsBy_8 rfl)
    (S_In (pc1 := 35) (E_ior (pc1 := 12) (pc2 := 34) (E_iln d_R_gainsBy_11 rfl) (E_if (pT := 21) (pF := 25) (pc1 := 22) (pc2 := 34) (J1_ne (pF := 25) (pc2 := 18) (E_x (O_S k_R_190 (v_R_has _) ⟨rfl, rfl⟩ ho (rk hR rfl) (by decide) (pc2 := 15) (A_c catI (pc1 := 13) (E_iln d_R_gainsBy_12 rfl) (A_c catI (pc1 := 15) (E_il d_R_gainsBy_13) A_n)) d_R_gainsBy_15)) d_R_gainsBy_18 rfl) (E_ic d_R_gainsBy_21 rfl) d_R_gainsBy_22 rfl (E_ishl (pc1 := 26) (pc2 := 33) (E_ic d_R_gainsBy_25 rfl) (E_aI (pc1 := 30) (pc2 := 32) (E_fR f_R_77 ho (pc1 := 27) (E_aln d_R_gainsBy_26 rfl) d_R_gainsBy_27) (E_il d_R_gainsBy_30) d_R_gainsBy_32) d_R_gainsBy_33)) d_R_gainsBy_34) d_R_gainsBy_35 rfl)
    (S_Inc d_R_gainsBy_36 rfl) d_R_gainsBy_39 rfl)))
    (S_sq (pc1 := 51) (S_X (O_V k_R_287 (v_R_pack _) ⟨rfl, rfl⟩ ho (rk hR rfl) (by decide) (T := KT10) (N := 50) rfl (by decide) (pc1 := 43) (pc2 := 48) (E_aln d_R_gainsBy_42 rfl) (A_c catR (pc1 := 47) (E_fR f_R_25 ho (pc1 := 44) (E_aln d_R_gainsBy_43 rfl) d_R_gainsBy_44) (A_c catI (pc1 := 48) (E_iln d_R_gainsBy_47 rfl) A_n)) d_R_gainsBy_48))
    (S_ri hrt (pc1 := 55) (E_fI f_R_259 ho (pc1 := 52) (E_aln d_R_gainsBy_51 rfl) d_R_gainsBy_52) d_R_gainsBy_55))))
theorem d_R_share_0 : decode prog_12_method_80_code 0 = .ok (.aload_n 0, 1) := by decide +kernel
theorem d_R_share_1 : decode prog_12_method_80_code 1 = .ok (.iload_n 1, 1) := by decide +kernel
theorem d_R_share_2 : decode prog_12_method_80_code 2 = .ok (.invokevirtual 332, 3) := by decide +kernel
theorem d_R_share_5 : decode prog_12_method_80_code 5 = .ok (.ifCond .ne 5, 3) := by decide +kernel
theorem d_R_share_8 : decode prog_12_method_80_code 8 = .ok (.iconst (-1), 1) := by decide +kernel
theorem d_R_share_9 : decode prog_12_method_80_code 9 = .ok (.ireturn, 1) := by decide +kernel
theorem d_R_share_10 : decode prog_12_method_80_code 10 = .ok (.aload_n 0, 1) := by decide +kernel
theorem d_R_share_11 : decode prog_12_method_80_code 11 = .ok (.invokevirtual 371, 3) := by decide +kernel
theorem d_R_share_14 : decode prog_12_method_80_code 14 = .ok (.istore_n 3, 1) := by decide +kernel
theorem d_R_share_15 : decode prog_12_method_80_code 15 = .ok (.aload_n 0, 1) := by decide +kernel
theorem d_R_share_16 : decode prog_12_method_80_code 16 = .ok (.getfield 13, 3) := by decide +kernel
theorem d_R_share_19 : decode prog_12_method_80_code 19 = .ok (.iload_n 1, 1) := by decide +kernel
theorem d_R_share_20 : decode prog_12_method_80_code 20 = .ok (.iaload, 1) := by decide +kernel
theorem d_R_share_21 : decode prog_12_method_80_code 21 = .ok (.bipush 6, 2) := by decide +kernel
theorem d_R_share_23 : decode prog_12_method_80_code 23 = .ok (.if_icmp .ne 9, 3) := by decide +kernel
theorem d_R_share_26 : decode prog_12_method_80_code 26 = .ok (.iload_n 3, 1) := by decide +kernel
theorem d_R_share_27 : decode prog_12_method_80_code 27 = .ok (.bipush 6, 2) := by decide +kernel
theorem d_R_share_29 : decode prog_12_method_80_code 29 = .ok (.if_icmp .le 6, 3) := by decide +kernel
theorem d_R_share_32 : decode prog_12_method_80_code 32 = .ok (.bipush (-3), 2) := by decide +kernel
theorem d_R_share_34 : decode prog_12_method_80_code 34 = .ok (.ireturn, 1) := by decide +kernel
theorem d_R_share_35 : decode prog_12_method_80_code 35 = .ok (.iconst 0, 1) := by decide +kernel
theorem d_R_share_36 : decode prog_12_method_80_code 36 = .ok (.istore 4, 2) := by decide +kernel
theorem d_R_share_38 : decode prog_12_method_80_code 38 = .ok (.iconst 0, 1) := by decide +kernel
theorem d_R_share_39 : decode prog_12_method_80_code 39 = .ok (.istore 5, 2) := by decide +kernel
theorem d_R_share_41 : decode prog_12_method_80_code 41 = .ok (.iload 5, 2) := by decide +kernel
theorem d_R_share_43 : decode prog_12_method_80_code 43 = .ok (.iload_n 3, 1) := by decide +kernel
theorem d_R_share_44 : decode prog_12_method_80_code 44 = .ok (.if_icmp .ge 29, 3) := by decide +kernel
theorem d_R_share_47 : decode prog_12_method_80_code 47 = .ok (.aload_n 0, 1) := by decide +kernel
theorem d_R_share_48 : decode prog_12_method_80_code 48 = .ok (.getfield 77, 3) := by decide +kernel
theorem d_R_share_51 : decode prog_12_method_80_code 51 = .ok (.iload 5, 2) := by decide +kernel
theorem d_R_share_53 : decode prog_12_method_80_code 53 = .ok (.iaload, 1) := by decide +kernel
theorem d_R_share_54 : decode prog_12_method_80_code 54 = .ok (.iload_n 1, 1) := by decide +kernel
theorem d_R_share_55 : decode prog_12_method_80_code 55 = .ok (.if_icmp .ne 8, 3) := by decide +kernel
theorem d_R_share_58 : decode prog_12_method_80_code 58 = .ok (.iload 5, 2) := by decide +kernel
theorem d_R_share_60 : decode prog_12_method_80_code 60 = .ok (.goto 5, 3) := by decide +kernel
theorem d_R_share_63 : decode prog_12_method_80_code 63 = .ok (.iload 4, 2) := by decide +kernel
theorem d_R_share_65 : decode prog_12_method_80_code 65 = .ok (.istore 4, 2) := by decide +kernel
theorem d_R_share_67 : decode prog_12_method_80_code 67 = .ok (.iinc 5 1, 3) := by decide +kernel
theorem d_R_share_70 : decode prog_12_method_80_code 70 = .ok (.goto (-29), 3) := by decide +kernel
theorem d_R_share_73 : decode prog_12_method_80_code 73 = .ok (.iconst 0, 1) := by decide +kernel
theorem d_R_share_74 : decode prog_12_method_80_code 74 = .ok (.istore 5, 2) := by decide +kernel
theorem d_R_share_76 : decode prog_12_method_80_code 76 = .ok (.iload 5, 2) := by decide +kernel
theorem d_R_share_78 : decode prog_12_method_80_code 78 = .ok (.iconst 1, 1) := by decide +kernel
theorem d_R_share_79 : decode prog_12_method_80_code 79 = .ok (.iload_n 3, 1) := by decide +kernel
theorem d_R_share_80 : decode prog_12_method_80_code 80 = .ok (.ishl, 1) := by decide +kernel
theorem d_R_share_81 : decode prog_12_method_80_code 81 = .ok (.if_icmp .ge 23, 3) := by decide +kernel
theorem d_R_share_84 : decode prog_12_method_80_code 84 = .ok (.aload_n 0, 1) := by decide +kernel
theorem d_R_share_85 : decode prog_12_method_80_code 85 = .ok (.getfield 80, 3) := by decide +kernel
theorem d_R_share_88 : decode prog_12_method_80_code 88 = .ok (.iload 5, 2) := by decide +kernel
theorem d_R_share_90 : decode prog_12_method_80_code 90 = .ok (.aload_n 0, 1) := by decide +kernel
theorem d_R_share_91 : decode prog_12_method_80_code 91 = .ok (.iload 5, 2) := by decide +kernel
theorem d_R_share_93 : decode prog_12_method_80_code 93 = .ok (.iload_n 3, 1) := by decide +kernel
theorem d_R_share_94 : decode prog_12_method_80_code 94 = .ok (.invokevirtual 374, 3) := by decide +kernel
theorem d_R_share_97 : decode prog_12_method_80_code 97 = .ok (.iastore, 1) := by decide +kernel
theorem d_R_share_98 : decode prog_12_method_80_code 98 = .ok (.iinc 5 1, 3) := by decide +kernel
theorem d_R_share_101 : decode prog_12_method_80_code 101 = .ok (.goto (-25), 3) := by decide +kernel
theorem d_R_share_104 : decode prog_12_method_80_code 104 = .ok (.iconst 0, 1) := by decide +kernel
theorem d_R_share_105 : decode prog_12_method_80_code 105 = .ok (.istore 5, 2) := by decide +kernel
theorem d_R_share_107 : decode prog_12_method_80_code 107 = .ok (.iconst 0, 1) := by decide +kernel
theorem d_R_share_108 : decode prog_12_method_80_code 108 = .ok (.istore 6, 2) := by decide +kernel
theorem d_R_share_110 : decode prog_12_method_80_code 110 = .ok (.iload 6, 2) := by decide +kernel
theorem d_R_share_112 : decode prog_12_method_80_code 112 = .ok (.iconst 1, 1) := by decide +kernel
theorem d_R_share_113 : decode prog_12_method_80_code 113 = .ok (.iload_n 3, 1) := by decide +kernel
theorem d_R_share_114 : decode prog_12_method_80_code 114 = .ok (.ishl, 1) := by decide +kernel
theorem d_R_share_115 : decode prog_12_method_80_code 115 = .ok (.if_icmp .ge 67, 3) := by decide +kernel
theorem d_R_share_118 : decode prog_12_method_80_code 118 = .ok (.iload 6, 2) := by decide +kernel
theorem d_R_share_120 : decode prog_12_method_80_code 120 = .ok (.iload 4, 2) := by decide +kernel
theorem d_R_share_122 : decode prog_12_method_80_code 122 = .ok (.invokestatic 190, 3) := by decide +kernel
theorem d_R_share_125 : decode prog_12_method_80_code 125 = .ok (.ifCond .ne 51, 3) := by decide +kernel
theorem d_R_share_128 : decode prog_12_method_80_code 128 = .ok (.iload 6, 2) := by decide +kernel
theorem d_R_share_130 : decode prog_12_method_80_code 130 = .ok (.invokestatic 335, 3) := by decide +kernel
theorem d_R_share_133 : decode prog_12_method_80_code 133 = .ok (.istore 7, 2) := by decide +kernel
theorem d_R_share_135 : decode prog_12_method_80_code 135 = .ok (.iload 5, 2) := by decide +kernel
theorem d_R_share_137 : decode prog_12_method_80_code 137 = .ok (.iload 7, 2) := by decide +kernel
theorem d_R_share_139 : decode prog_12_method_80_code 139 = .ok (.invokestatic 378, 3) := by decide +kernel
theorem d_R_share_142 : decode prog_12_method_80_code 142 = .ok (.iload_n 3, 1) := by decide +kernel
theorem d_R_share_143 : decode prog_12_method_80_code 143 = .ok (.iconst 1, 1) := by decide +kernel
theorem d_R_share_144 : decode prog_12_method_80_code 144 = .ok (.isub, 1) := by decide +kernel
theorem d_R_share_145 : decode prog_12_method_80_code 145 = .ok (.iload 7, 2) := by decide +kernel
theorem d_R_share_147 : decode prog_12_method_80_code 147 = .ok (.isub, 1) := by decide +kernel
theorem d_R_share_148 : decode prog_12_method_80_code 148 = .ok (.invokestatic 378, 3) := by decide +kernel
theorem d_R_share_151 : decode prog_12_method_80_code 151 = .ok (.imul, 1) := by decide +kernel
theorem d_R_share_152 : decode prog_12_method_80_code 152 = .ok (.aload_n 0, 1) := by decide +kernel
theorem d_R_share_153 : decode prog_12_method_80_code 153 = .ok (.getfield 80, 3) := by decide +kernel
theorem d_R_share_156 : decode prog_12_method_80_code 156 = .ok (.iload 6, 2) := by decide +kernel
theorem d_R_share_158 : decode prog_12_method_80_code 158 = .ok (.iconst 1, 1) := by decide +kernel
theorem d_R_share_159 : decode prog_12_method_80_code 159 = .ok (.iload 4, 2) := by decide +kernel
theorem d_R_share_161 : decode prog_12_method_80_code 161 = .ok (.ishl, 1) := by decide +kernel
theorem d_R_share_162 : decode prog_12_method_80_code 162 = .ok (.ior, 1) := by decide +kernel
theorem d_R_share_163 : decode prog_12_method_80_code 163 = .ok (.iaload, 1) := by decide +kernel
theorem d_R_share_164 : decode prog_12_method_80_code 164 = .ok (.aload_n 0, 1) := by decide +kernel
theorem d_R_share_165 : decode prog_12_method_80_code 165 = .ok (.getfield 80, 3) := by decide +kernel
theorem d_R_share_168 : decode prog_12_method_80_code 168 = .ok (.iload 6, 2) := by decide +kernel
theorem d_R_share_170 : decode prog_12_method_80_code 170 = .ok (.iaload, 1) := by decide +kernel
theorem d_R_share_171 : decode prog_12_method_80_code 171 = .ok (.isub, 1) := by decide +kernel
theorem d_R_share_172 : decode prog_12_method_80_code 172 = .ok (.imul, 1) := by decide +kernel
theorem d_R_share_173 : decode prog_12_method_80_code 173 = .ok (.iadd, 1) := by decide +kernel
theorem d_R_share_174 : decode prog_12_method_80_code 174 = .ok (.istore 5, 2) := by decide +kernel
theorem d_R_share_176 : decode prog_12_method_80_code 176 = .ok (.iinc 6 1, 3) := by decide +kernel
theorem d_R_share_179 : decode prog_12_method_80_code 179 = .ok (.goto (-69), 3) := by decide +kernel
theorem d_R_share_182 : decode prog_12_method_80_code 182 = .ok (.iload 5, 2) := by decide +kernel
theorem d_R_share_184 : decode prog_12_method_80_code 184 = .ok (.iload_n 3, 1) := by decide +kernel
theorem d_R_share_185 : decode prog_12_method_80_code 185 = .ok (.invokestatic 378, 3) := by decide +kernel
theorem d_R_share_188 : decode prog_12_method_80_code 188 = .ok (.iload_n 2, 1) := by decide +kernel
theorem d_R_share_189 : decode prog_12_method_80_code 189 = .ok (.invokestatic 381, 3) := by decide +kernel
theorem d_R_share_192 : decode prog_12_method_80_code 192 = .ok (.ireturn, 1) := by decide +kernel
def B_R_share (_ : Nat × Nat) : PS :=
  (sSq (sIf (cN (e1 (fun x : Int32 => decide (¬ x = 0)) (eX .int (xV 10 1 X_R_isThere (eR 0) (aC .int (eI 1) aN))))) (sRt .int (eV (-1 : Int32))) sSk)
    (sSq (sI 3 (eX .int (xV 10 0 X_R_layStores (eR 0) aN)))
    (sSq (sIf (cO (e2 (fun x y : Int32 => decide (¬ x = y)) (eAI (eFR 10 3 (eR 0)) (eI 1)) (eV (6 : Int32))) (e2 (fun x y : Int32 => decide (y < x)) (eI 3) (eV (6 : Int32)))) (sRt .int (eV (-3 : Int32))) sSk)
    (sSq (sI 4 (eV (0 : Int32)))
    (sSq (sCut 5 (sSq (sI 5 (eV (0 : Int32)))
    (sLp 6 (e2 (fun x y : Int32 => decide (x < y)) (eI 5) (eI 3))
    (sI 4 (eIf (e2 (fun x y : Int32 => decide (x = y)) (eAI (eFR 10 38 (eR 0)) (eI 5)) (eI 1)) (eI 5) (eI 4)))
    (sInc 5 (1)))))
    (sSq (sCut 5 (sSq (sI 5 (eV (0 : Int32)))
    (sLp 6 (e2 (fun x y : Int32 => decide (x < y)) (eI 5) (e2 (fun x y : Int32 => x <<< (y &&& 31)) (eV (1 : Int32)) (eI 3)))
    (sAI (eFR 10 39 (eR 0)) (eI 5) (eX .int (xV 10 2 X_R_gainsBy (eR 0) (aC .int (eI 5) (aC .int (eI 3) aN)))))
    (sInc 5 (1)))))
    (sSq (sI 5 (eV (0 : Int32)))
    (sSq (sCut 6 (sSq (sI 6 (eV (0 : Int32)))
    (sLp 7 (e2 (fun x y : Int32 => decide (x < y)) (eI 6) (e2 (fun x y : Int32 => x <<< (y &&& 31)) (eV (1 : Int32)) (eI 3)))
    (sIf (cN (e1 (fun x : Int32 => decide (¬ x = 0)) (eX .int (xS 2 X_R_has (aC .int (eI 6) (aC .int (eI 4) aN)))))) (sCut 7 (sSq (sI 7 (eX .int (xS 1 X_R_ones (aC .int (eI 6) aN))))
    (sI 5 (e2 (fun x y : Int32 => x + y) (eI 5) (e2 (fun x y : Int32 => x * y) (e2 (fun x y : Int32 => x * y) (eX .int (xS 1 X_R_factorial (aC .int (eI 7) aN))) (eX .int (xS 1 X_R_factorial (aC .int (e2 (fun x y : Int32 => x - y) (e2 (fun x y : Int32 => x - y) (eI 3) (eV (1 : Int32))) (eI 7)) aN)))) (e2 (fun x y : Int32 => x - y) (eAI (eFR 10 39 (eR 0)) (e2 (fun x y : Int32 => x ||| y) (eI 6) (e2 (fun x y : Int32 => x <<< (y &&& 31)) (eV (1 : Int32)) (eI 4)))) (eAI (eFR 10 39 (eR 0)) (eI 6)))))))) sSk)
    (sInc 6 (1)))))
    (sRt .int (eX .int (xS 3 X_R_fraction (aC .int (eI 5) (aC .int (eX .int (xS 1 X_R_factorial (aC .int (eI 3) aN))) (aC .int (eI 2) aN))))))))))))))
def X_R_share : PM := fun vs h Q => (lx vs).length ≤ 8 ∧ B_R_share (h.length + 0, hsz h + 0) (fun _ _ => False) (fun _ _ => False) (fun _ _ => False) Q (lini 8 vs) h
theorem v_R_share (l : Launch) : Ctr l y_R_share prog_12_method_80_code 8 (some .int) rm_R_share X_R_share := by
  refine Ctr_of (own := "PackLanesModel") (B := B_R_share) (KR := fun _ Q => Q) (by decide) rfl (fun _ _ _ z => z) (fun _ _ _ _ z => ⟨Or.inl ⟨rfl, rfl⟩, z⟩) (Or.inr (Or.inl rfl)) (fun κ hl ho hR hrt hn0 => ?_)
  subst hl
  unfold B_R_share
  exact (S_sq (pc1 := 10) (S_if1 (pT := 8) (pF := 10) (C_not (T1_ne (pT := 10) (pc2 := 5) (E_x (O_V k_R_332 (v_R_isThere _) ⟨rfl, rfl⟩ ho (rk hR rfl) (by decide) (T := KT10) (N := 50) rfl (by decide) (pc1 := 1) (pc2 := 2) (E_aln d_R_share_0 rfl) (A_c catI (pc1 := 2) (E_iln d_R_share_1 rfl) A_n) d_R_share_2)) d_R_share_5 rfl)) (S_ri hrt (pc1 := 9) (E_ic d_R_share_8 rfl) d_R_share_9))
    (S_sq (pc1 := 15) (S_In (pc1 := 14) (E_x (O_V k_R_371 (v_R_layStores _) ⟨rfl, rfl⟩ ho (rk hR rfl) (by decide) (T := KT10) (N := 50) rfl (by decide) (pc1 := 11) (pc2 := 11) (E_aln d_R_share_10 rfl) A_n d_R_share_11)) d_R_share_14 rfl)
    (S_sq (pc1 := 35) (S_if1 (pT := 32) (pF := 35) (C_or (pc1 := 26) (T2_ne (pT := 32) (pc1 := 21) (pc2 := 23) (E_aI (pc1 := 19) (pc2 := 20) (E_fR f_R_13 ho (pc1 := 16) (E_aln d_R_share_15 rfl) d_R_share_16) (E_iln d_R_share_19 rfl) d_R_share_20) (E_bi d_R_share_21 rfl) d_R_share_23 rfl) (J2_gt (pF := 35) (pc1 := 27) (pc2 := 29) (E_iln d_R_share_26 rfl) (E_bi d_R_share_27 rfl) d_R_share_29 rfl)) (S_ri hrt (pc1 := 34) (E_bi d_R_share_32 rfl) d_R_share_34))
    (S_sq (pc1 := 38) (S_I (pc1 := 36) (E_ic d_R_share_35 rfl) d_R_share_36)
    (S_sq (pc1 := 73) (S_cut (S_sq (pc1 := 41) (S_I (pc1 := 39) (E_ic d_R_share_38 rfl) d_R_share_39)
    (S_lp (pT := 47) (pF := 73) (pS := 67) (pG := 70) (J2_lt (pF := 73) (pc1 := 43) (pc2 := 44) (E_il d_R_share_41) (E_iln d_R_share_43 rfl) d_R_share_44 rfl)
    (S_I (pc1 := 65) (E_if (pT := 58) (pF := 63) (pc1 := 60) (pc2 := 65) (J2_eq (pF := 63) (pc1 := 54) (pc2 := 55) (E_aI (pc1 := 51) (pc2 := 53) (E_fR f_R_77 ho (pc1 := 48) (E_aln d_R_share_47 rfl) d_R_share_48) (E_il d_R_share_51) d_R_share_53) (E_iln d_R_share_54 rfl) d_R_share_55 rfl) (E_il d_R_share_58) d_R_share_60 rfl (E_il d_R_share_63)) d_R_share_65)
    (S_Inc d_R_share_67 rfl) d_R_share_70 rfl)))
    (S_sq (pc1 := 104) (S_cut (S_sq (pc1 := 76) (S_I (pc1 := 74) (E_ic d_R_share_73 rfl) d_R_share_74)
    (S_lp (pT := 84) (pF := 104) (pS := 98) (pG := 101) (J2_lt (pF := 104) (pc1 := 78) (pc2 := 81) (E_il d_R_share_76) (E_ishl (pc1 := 79) (pc2 := 80) (E_ic d_R_share_78 rfl) (E_iln d_R_share_79 rfl) d_R_share_80) d_R_share_81 rfl)
    (S_AI (pc1 := 88) (pc2 := 90) (pc3 := 97) (E_fR f_R_80 ho (pc1 := 85) (E_aln d_R_share_84 rfl) d_R_share_85) (E_il d_R_share_88) (E_x (O_V k_R_374 (v_R_gainsBy _) ⟨rfl, rfl⟩ ho (rk hR rfl) (by decide) (T := KT10) (N := 50) rfl (by decide) (pc1 := 91) (pc2 := 94) (E_aln d_R_share_90 rfl) (A_c catI (pc1 := 93) (E_il d_R_share_91) (A_c catI (pc1 := 94) (E_iln d_R_share_93 rfl) A_n)) d_R_share_94)) d_R_share_97)
    (S_Inc d_R_share_98 rfl) d_R_share_101 rfl)))
    (S_sq (pc1 := 107) (S_I (pc1 := 105) (E_ic d_R_share_104 rfl) d_R_share_105)
    (S_sq (pc1 := 182) (S_cut (S_sq (pc1 := 110) (S_I (pc1 := 108) (E_ic d_R_share_107 rfl) d_R_share_108)
    (S_lp (pT := 118) (pF := 182) (pS := 176) (pG := 179) (J2_lt (pF := 182) (pc1 := 112) (pc2 := 115) (E_il d_R_share_110) (E_ishl (pc1 := 113) (pc2 := 114) (E_ic d_R_share_112 rfl) (E_iln d_R_share_113 rfl) d_R_share_114) d_R_share_115 rfl)
    (S_if1 (pT := 128) (pF := 176) (C_not (T1_ne (pT := 176) (pc2 := 125) (E_x (O_S k_R_190 (v_R_has _) ⟨rfl, rfl⟩ ho (rk hR rfl) (by decide) (pc2 := 122) (A_c catI (pc1 := 120) (E_il d_R_share_118) (A_c catI (pc1 := 122) (E_il d_R_share_120) A_n)) d_R_share_122)) d_R_share_125 rfl)) (S_cut (S_sq (pc1 := 135) (S_I (pc1 := 133) (E_x (O_S k_R_335 (v_R_ones _) ⟨rfl, rfl⟩ ho (rk hR rfl) (by decide) (pc2 := 130) (A_c catI (pc1 := 130) (E_il d_R_share_128) A_n) d_R_share_130)) d_R_share_133)
    (S_I (pc1 := 174) (E_iadd (pc1 := 137) (pc2 := 173) (E_il d_R_share_135) (E_imul (pc1 := 152) (pc2 := 172) (E_imul (pc1 := 142) (pc2 := 151) (E_x (O_S k_R_378 (v_R_factorial _) ⟨rfl, rfl⟩ ho (rk hR rfl) (by decide) (pc2 := 139) (A_c catI (pc1 := 139) (E_il d_R_share_137) A_n) d_R_share_139)) (E_x (O_S k_R_378 (v_R_factorial _) ⟨rfl, rfl⟩ ho (rk hR rfl) (by decide) (pc2 := 148) (A_c catI (pc1 := 148) (E_isub (pc1 := 145) (pc2 := 147) (E_isub (pc1 := 143) (pc2 := 144) (E_iln d_R_share_142 rfl) (E_ic d_R_share_143 rfl) d_R_share_144) (E_il d_R_share_145) d_R_share_147) A_n) d_R_share_148)) d_R_share_151) (E_isub (pc1 := 164) (pc2 := 171) (E_aI (pc1 := 156) (pc2 := 163) (E_fR f_R_80 ho (pc1 := 153) (E_aln d_R_share_152 rfl) d_R_share_153) (E_ior (pc1 := 158) (pc2 := 162) (E_il d_R_share_156) (E_ishl (pc1 := 159) (pc2 := 161) (E_ic d_R_share_158 rfl) (E_il d_R_share_159) d_R_share_161) d_R_share_162) d_R_share_163) (E_aI (pc1 := 168) (pc2 := 170) (E_fR f_R_80 ho (pc1 := 165) (E_aln d_R_share_164 rfl) d_R_share_165) (E_il d_R_share_168) d_R_share_170) d_R_share_171) d_R_share_172) d_R_share_173) d_R_share_174))))
    (S_Inc d_R_share_176 rfl) d_R_share_179 rfl)))
    (S_ri hrt (pc1 := 192) (E_x (O_S k_R_381 (v_R_fraction _) ⟨rfl, rfl⟩ ho (rk hR rfl) (by decide) (pc2 := 189) (A_c catI (pc1 := 184) (E_il d_R_share_182) (A_c catI (pc1 := 188) (E_x (O_S k_R_378 (v_R_factorial _) ⟨rfl, rfl⟩ ho (rk hR rfl) (by decide) (pc2 := 185) (A_c catI (pc1 := 185) (E_iln d_R_share_184 rfl) A_n) d_R_share_185)) (A_c catI (pc1 := 189) (E_iln d_R_share_188 rfl) A_n))) d_R_share_189)) d_R_share_192)))))))))
theorem d_R_chance_0 : decode prog_12_method_81_code 0 = .ok (.iload_n 1, 1) := by decide +kernel
theorem d_R_chance_1 : decode prog_12_method_81_code 1 = .ok (.i2l, 1) := by decide +kernel
theorem d_R_chance_2 : decode prog_12_method_81_code 2 = .ok (.lconst 0, 1) := by decide +kernel
theorem d_R_chance_3 : decode prog_12_method_81_code 3 = .ok (.ldc2_w 346, 3) := by decide +kernel
theorem d_R_chance_6 : decode prog_12_method_81_code 6 = .ok (.invokestatic 103, 3) := by decide +kernel
theorem d_R_chance_9 : decode prog_12_method_81_code 9 = .ok (.ifCond .eq 15, 3) := by decide +kernel
theorem d_R_chance_12 : decode prog_12_method_81_code 12 = .ok (.iload_n 2, 1) := by decide +kernel
theorem d_R_chance_13 : decode prog_12_method_81_code 13 = .ok (.i2l, 1) := by decide +kernel
theorem d_R_chance_14 : decode prog_12_method_81_code 14 = .ok (.lconst 0, 1) := by decide +kernel
theorem d_R_chance_15 : decode prog_12_method_81_code 15 = .ok (.ldc2_w 385, 3) := by decide +kernel
theorem d_R_chance_18 : decode prog_12_method_81_code 18 = .ok (.invokestatic 103, 3) := by decide +kernel
theorem d_R_chance_21 : decode prog_12_method_81_code 21 = .ok (.ifCond .ne 6, 3) := by decide +kernel
theorem d_R_chance_24 : decode prog_12_method_81_code 24 = .ok (.bipush (-2), 2) := by decide +kernel
theorem d_R_chance_26 : decode prog_12_method_81_code 26 = .ok (.ireturn, 1) := by decide +kernel
theorem d_R_chance_27 : decode prog_12_method_81_code 27 = .ok (.aload_n 0, 1) := by decide +kernel
theorem d_R_chance_28 : decode prog_12_method_81_code 28 = .ok (.invokevirtual 371, 3) := by decide +kernel
theorem d_R_chance_31 : decode prog_12_method_81_code 31 = .ok (.istore 4, 2) := by decide +kernel
theorem d_R_chance_33 : decode prog_12_method_81_code 33 = .ok (.iload 4, 2) := by decide +kernel
theorem d_R_chance_35 : decode prog_12_method_81_code 35 = .ok (.bipush 6, 2) := by decide +kernel
theorem d_R_chance_37 : decode prog_12_method_81_code 37 = .ok (.if_icmp .le 6, 3) := by decide +kernel
theorem d_R_chance_40 : decode prog_12_method_81_code 40 = .ok (.bipush (-3), 2) := by decide +kernel
theorem d_R_chance_42 : decode prog_12_method_81_code 42 = .ok (.ireturn, 1) := by decide +kernel
theorem d_R_chance_43 : decode prog_12_method_81_code 43 = .ok (.iconst 0, 1) := by decide +kernel
theorem d_R_chance_44 : decode prog_12_method_81_code 44 = .ok (.istore 5, 2) := by decide +kernel
theorem d_R_chance_46 : decode prog_12_method_81_code 46 = .ok (.iconst 0, 1) := by decide +kernel
theorem d_R_chance_47 : decode prog_12_method_81_code 47 = .ok (.istore 6, 2) := by decide +kernel
theorem d_R_chance_49 : decode prog_12_method_81_code 49 = .ok (.iload 6, 2) := by decide +kernel
theorem d_R_chance_51 : decode prog_12_method_81_code 51 = .ok (.iconst 1, 1) := by decide +kernel
theorem d_R_chance_52 : decode prog_12_method_81_code 52 = .ok (.iload 4, 2) := by decide +kernel
theorem d_R_chance_54 : decode prog_12_method_81_code 54 = .ok (.ishl, 1) := by decide +kernel
theorem d_R_chance_55 : decode prog_12_method_81_code 55 = .ok (.if_icmp .ge 55, 3) := by decide +kernel
theorem d_R_chance_58 : decode prog_12_method_81_code 58 = .ok (.iload 5, 2) := by decide +kernel
theorem d_R_chance_60 : decode prog_12_method_81_code 60 = .ok (.aload_n 0, 1) := by decide +kernel
theorem d_R_chance_61 : decode prog_12_method_81_code 61 = .ok (.iload 6, 2) := by decide +kernel
theorem d_R_chance_63 : decode prog_12_method_81_code 63 = .ok (.iload 4, 2) := by decide +kernel
theorem d_R_chance_65 : decode prog_12_method_81_code 65 = .ok (.invokevirtual 374, 3) := by decide +kernel
theorem d_R_chance_68 : decode prog_12_method_81_code 68 = .ok (.iload_n 1, 1) := by decide +kernel
theorem d_R_chance_69 : decode prog_12_method_81_code 69 = .ok (.if_icmp .lt 31, 3) := by decide +kernel
theorem d_R_chance_72 : decode prog_12_method_81_code 72 = .ok (.bipush 10, 2) := by decide +kernel
theorem d_R_chance_74 : decode prog_12_method_81_code 74 = .ok (.iload_n 2, 1) := by decide +kernel
theorem d_R_chance_75 : decode prog_12_method_81_code 75 = .ok (.isub, 1) := by decide +kernel
theorem d_R_chance_76 : decode prog_12_method_81_code 76 = .ok (.iload 6, 2) := by decide +kernel
theorem d_R_chance_78 : decode prog_12_method_81_code 78 = .ok (.invokestatic 335, 3) := by decide +kernel
theorem d_R_chance_81 : decode prog_12_method_81_code 81 = .ok (.invokestatic 387, 3) := by decide +kernel
theorem d_R_chance_84 : decode prog_12_method_81_code 84 = .ok (.iload_n 2, 1) := by decide +kernel
theorem d_R_chance_85 : decode prog_12_method_81_code 85 = .ok (.iload 4, 2) := by decide +kernel
theorem d_R_chance_87 : decode prog_12_method_81_code 87 = .ok (.iload 6, 2) := by decide +kernel
theorem d_R_chance_89 : decode prog_12_method_81_code 89 = .ok (.invokestatic 335, 3) := by decide +kernel
theorem d_R_chance_92 : decode prog_12_method_81_code 92 = .ok (.isub, 1) := by decide +kernel
theorem d_R_chance_93 : decode prog_12_method_81_code 93 = .ok (.invokestatic 387, 3) := by decide +kernel
theorem d_R_chance_96 : decode prog_12_method_81_code 96 = .ok (.imul, 1) := by decide +kernel
theorem d_R_chance_97 : decode prog_12_method_81_code 97 = .ok (.goto 4, 3) := by decide +kernel
theorem d_R_chance_100 : decode prog_12_method_81_code 100 = .ok (.iconst 0, 1) := by decide +kernel
theorem d_R_chance_101 : decode prog_12_method_81_code 101 = .ok (.iadd, 1) := by decide +kernel
theorem d_R_chance_102 : decode prog_12_method_81_code 102 = .ok (.istore 5, 2) := by decide +kernel
theorem d_R_chance_104 : decode prog_12_method_81_code 104 = .ok (.iinc 6 1, 3) := by decide +kernel
theorem d_R_chance_107 : decode prog_12_method_81_code 107 = .ok (.goto (-58), 3) := by decide +kernel
theorem d_R_chance_110 : decode prog_12_method_81_code 110 = .ok (.iload 5, 2) := by decide +kernel
theorem d_R_chance_112 : decode prog_12_method_81_code 112 = .ok (.bipush 10, 2) := by decide +kernel
theorem d_R_chance_114 : decode prog_12_method_81_code 114 = .ok (.iload 4, 2) := by decide +kernel
theorem d_R_chance_116 : decode prog_12_method_81_code 116 = .ok (.invokestatic 387, 3) := by decide +kernel
theorem d_R_chance_119 : decode prog_12_method_81_code 119 = .ok (.iload_n 3, 1) := by decide +kernel
theorem d_R_chance_120 : decode prog_12_method_81_code 120 = .ok (.invokestatic 381, 3) := by decide +kernel
theorem d_R_chance_123 : decode prog_12_method_81_code 123 = .ok (.ireturn, 1) := by decide +kernel
def B_R_chance (_ : Nat × Nat) : PS :=
  (sSq (sIf (cO (cN (e1 (fun x : Int32 => decide (¬ x = 0)) (eX .int (xS 3 X_R_in (aC .long (e1 (fun x : Int32 => x.toInt64) (eI 1)) (aC .long (eV (0 : Int64)) (aC .long (eV (99 : Int64)) aN))))))) (cN (e1 (fun x : Int32 => decide (¬ x = 0)) (eX .int (xS 3 X_R_in (aC .long (e1 (fun x : Int32 => x.toInt64) (eI 2)) (aC .long (eV (0 : Int64)) (aC .long (eV (10 : Int64)) aN)))))))) (sRt .int (eV (-2 : Int32))) sSk)
    (sSq (sI 4 (eX .int (xV 10 0 X_R_layStores (eR 0) aN)))
    (sSq (sIf (e2 (fun x y : Int32 => decide (y < x)) (eI 4) (eV (6 : Int32))) (sRt .int (eV (-3 : Int32))) sSk)
    (sSq (sI 5 (eV (0 : Int32)))
    (sSq (sCut 6 (sSq (sI 6 (eV (0 : Int32)))
    (sLp 7 (e2 (fun x y : Int32 => decide (x < y)) (eI 6) (e2 (fun x y : Int32 => x <<< (y &&& 31)) (eV (1 : Int32)) (eI 4)))
    (sI 5 (e2 (fun x y : Int32 => x + y) (eI 5) (eIf (e2 (fun x y : Int32 => decide (y ≤ x)) (eX .int (xV 10 2 X_R_gainsBy (eR 0) (aC .int (eI 6) (aC .int (eI 4) aN)))) (eI 1)) (e2 (fun x y : Int32 => x * y) (eX .int (xS 2 X_R_power (aC .int (e2 (fun x y : Int32 => x - y) (eV (10 : Int32)) (eI 2)) (aC .int (eX .int (xS 1 X_R_ones (aC .int (eI 6) aN))) aN)))) (eX .int (xS 2 X_R_power (aC .int (eI 2) (aC .int (e2 (fun x y : Int32 => x - y) (eI 4) (eX .int (xS 1 X_R_ones (aC .int (eI 6) aN)))) aN))))) (eV (0 : Int32)))))
    (sInc 6 (1)))))
    (sRt .int (eX .int (xS 3 X_R_fraction (aC .int (eI 5) (aC .int (eX .int (xS 2 X_R_power (aC .int (eV (10 : Int32)) (aC .int (eI 4) aN)))) (aC .int (eI 3) aN)))))))))))
def X_R_chance : PM := fun vs h Q => (lx vs).length ≤ 7 ∧ B_R_chance (h.length + 0, hsz h + 0) (fun _ _ => False) (fun _ _ => False) (fun _ _ => False) Q (lini 7 vs) h
theorem v_R_chance (l : Launch) : Ctr l y_R_chance prog_12_method_81_code 7 (some .int) rm_R_chance X_R_chance := by
  refine Ctr_of (own := "PackLanesModel") (B := B_R_chance) (KR := fun _ Q => Q) (by decide) rfl (fun _ _ _ z => z) (fun _ _ _ _ z => ⟨Or.inl ⟨rfl, rfl⟩, z⟩) (Or.inr (Or.inl rfl)) (fun κ hl ho hR hrt hn0 => ?_)
  subst hl
  unfold B_R_chance
  exact (S_sq (pc1 := 27) (S_if1 (pT := 24) (pF := 27) (C_or (pc1 := 12) (C_not (J1_ne (pF := 24) (pc2 := 9) (E_x (O_S k_R_103 (v_R_in _) ⟨rfl, rfl⟩ ho (rk hR rfl) (by decide) (pc2 := 6) (A_c catL (pc1 := 2) (E_i2l (pc1 := 1) (E_iln d_R_chance_0 rfl) d_R_chance_1) (A_c catL (pc1 := 3) (E_lc d_R_chance_2 rfl) (A_c catL (pc1 := 6) (E_ldc2 ho w_cl_R_346 d_R_chance_3) A_n))) d_R_chance_6)) d_R_chance_9 rfl)) (C_not (T1_ne (pT := 27) (pc2 := 21) (E_x (O_S k_R_103 (v_R_in _) ⟨rfl, rfl⟩ ho (rk hR rfl) (by decide) (pc2 := 18) (A_c catL (pc1 := 14) (E_i2l (pc1 := 13) (E_iln d_R_chance_12 rfl) d_R_chance_13) (A_c catL (pc1 := 15) (E_lc d_R_chance_14 rfl) (A_c catL (pc1 := 18) (E_ldc2 ho w_cl_R_385 d_R_chance_15) A_n))) d_R_chance_18)) d_R_chance_21 rfl))) (S_ri hrt (pc1 := 26) (E_bi d_R_chance_24 rfl) d_R_chance_26))
    (S_sq (pc1 := 33) (S_I (pc1 := 31) (E_x (O_V k_R_371 (v_R_layStores _) ⟨rfl, rfl⟩ ho (rk hR rfl) (by decide) (T := KT10) (N := 50) rfl (by decide) (pc1 := 28) (pc2 := 28) (E_aln d_R_chance_27 rfl) A_n d_R_chance_28)) d_R_chance_31)
    (S_sq (pc1 := 43) (S_if1 (pT := 40) (pF := 43) (J2_gt (pF := 43) (pc1 := 35) (pc2 := 37) (E_il d_R_chance_33) (E_bi d_R_chance_35 rfl) d_R_chance_37 rfl) (S_ri hrt (pc1 := 42) (E_bi d_R_chance_40 rfl) d_R_chance_42))
    (S_sq (pc1 := 46) (S_I (pc1 := 44) (E_ic d_R_chance_43 rfl) d_R_chance_44)
    (S_sq (pc1 := 110) (S_cut (S_sq (pc1 := 49) (S_I (pc1 := 47) (E_ic d_R_chance_46 rfl) d_R_chance_47)
    (S_lp (pT := 58) (pF := 110) (pS := 104) (pG := 107) (J2_lt (pF := 110) (pc1 := 51) (pc2 := 55) (E_il d_R_chance_49) (E_ishl (pc1 := 52) (pc2 := 54) (E_ic d_R_chance_51 rfl) (E_il d_R_chance_52) d_R_chance_54) d_R_chance_55 rfl)
    (S_I (pc1 := 102) (E_iadd (pc1 := 60) (pc2 := 101) (E_il d_R_chance_58) (E_if (pT := 72) (pF := 100) (pc1 := 97) (pc2 := 101) (J2_ge (pF := 100) (pc1 := 68) (pc2 := 69) (E_x (O_V k_R_374 (v_R_gainsBy _) ⟨rfl, rfl⟩ ho (rk hR rfl) (by decide) (T := KT10) (N := 50) rfl (by decide) (pc1 := 61) (pc2 := 65) (E_aln d_R_chance_60 rfl) (A_c catI (pc1 := 63) (E_il d_R_chance_61) (A_c catI (pc1 := 65) (E_il d_R_chance_63) A_n)) d_R_chance_65)) (E_iln d_R_chance_68 rfl) d_R_chance_69 rfl) (E_imul (pc1 := 84) (pc2 := 96) (E_x (O_S k_R_387 (v_R_power _) ⟨rfl, rfl⟩ ho (rk hR rfl) (by decide) (pc2 := 81) (A_c catI (pc1 := 76) (E_isub (pc1 := 74) (pc2 := 75) (E_bi d_R_chance_72 rfl) (E_iln d_R_chance_74 rfl) d_R_chance_75) (A_c catI (pc1 := 81) (E_x (O_S k_R_335 (v_R_ones _) ⟨rfl, rfl⟩ ho (rk hR rfl) (by decide) (pc2 := 78) (A_c catI (pc1 := 78) (E_il d_R_chance_76) A_n) d_R_chance_78)) A_n)) d_R_chance_81)) (E_x (O_S k_R_387 (v_R_power _) ⟨rfl, rfl⟩ ho (rk hR rfl) (by decide) (pc2 := 93) (A_c catI (pc1 := 85) (E_iln d_R_chance_84 rfl) (A_c catI (pc1 := 93) (E_isub (pc1 := 87) (pc2 := 92) (E_il d_R_chance_85) (E_x (O_S k_R_335 (v_R_ones _) ⟨rfl, rfl⟩ ho (rk hR rfl) (by decide) (pc2 := 89) (A_c catI (pc1 := 89) (E_il d_R_chance_87) A_n) d_R_chance_89)) d_R_chance_92) A_n)) d_R_chance_93)) d_R_chance_96) d_R_chance_97 rfl (E_ic d_R_chance_100 rfl)) d_R_chance_101) d_R_chance_102)
    (S_Inc d_R_chance_104 rfl) d_R_chance_107 rfl)))
    (S_ri hrt (pc1 := 123) (E_x (O_S k_R_381 (v_R_fraction _) ⟨rfl, rfl⟩ ho (rk hR rfl) (by decide) (pc2 := 120) (A_c catI (pc1 := 112) (E_il d_R_chance_110) (A_c catI (pc1 := 119) (E_x (O_S k_R_387 (v_R_power _) ⟨rfl, rfl⟩ ho (rk hR rfl) (by decide) (pc2 := 116) (A_c catI (pc1 := 114) (E_bi d_R_chance_112 rfl) (A_c catI (pc1 := 116) (E_il d_R_chance_114) A_n)) d_R_chance_116)) (A_c catI (pc1 := 120) (E_iln d_R_chance_119 rfl) A_n))) d_R_chance_120)) d_R_chance_123))))))
theorem d_R_seed_0 : decode prog_12_method_82_code 0 = .ok (.aload_n 0, 1) := by decide +kernel
theorem d_R_seed_1 : decode prog_12_method_82_code 1 = .ok (.getfield 390, 3) := by decide +kernel
theorem d_R_seed_4 : decode prog_12_method_82_code 4 = .ok (.lstore_n 3, 1) := by decide +kernel
theorem d_R_seed_5 : decode prog_12_method_82_code 5 = .ok (.aload_n 0, 1) := by decide +kernel
theorem d_R_seed_6 : decode prog_12_method_82_code 6 = .ok (.lload_n 1, 1) := by decide +kernel
theorem d_R_seed_7 : decode prog_12_method_82_code 7 = .ok (.putfield 390, 3) := by decide +kernel
theorem d_R_seed_10 : decode prog_12_method_82_code 10 = .ok (.lload_n 3, 1) := by decide +kernel
theorem d_R_seed_11 : decode prog_12_method_82_code 11 = .ok (.lreturn, 1) := by decide +kernel
def B_R_seed (_ : Nat × Nat) : PS :=
  (sSq (sL 3 (eFL 10 17 (eR 0)))
    (sSq (sF .long 10 17 (eR 0) (eL 1))
    (sRt .long (eL 3))))
def X_R_seed : PM := fun vs h Q => (lx vs).length ≤ 5 ∧ B_R_seed (h.length + 0, hsz h + 0) (fun _ _ => False) (fun _ _ => False) (fun _ _ => False) Q (lini 5 vs) h
theorem v_R_seed (l : Launch) : Ctr l y_R_seed prog_12_method_82_code 5 (some .long) rm_R_seed X_R_seed := by
  refine Ctr_of (own := "PackLanesModel") (B := B_R_seed) (KR := fun _ Q => Q) (by decide) rfl (fun _ _ _ z => z) (fun _ _ _ _ z => ⟨Or.inl ⟨rfl, rfl⟩, z⟩) (Or.inr (Or.inr (Or.inr rfl))) (fun κ hl ho hR hrt hn0 => ?_)
  subst hl
  unfold B_R_seed
  exact (S_sq (pc1 := 5) (S_Ln (pc1 := 4) (E_fL f_R_390 ho (pc1 := 1) (E_aln d_R_seed_0 rfl) d_R_seed_1) d_R_seed_4 rfl)
    (S_sq (pc1 := 10) (S_FL f_R_390 ho (pc1 := 6) (pc2 := 7) (E_aln d_R_seed_5 rfl) (E_lln d_R_seed_6 rfl) d_R_seed_7)
    (S_rl hrt (pc1 := 11) (E_lln d_R_seed_10 rfl) d_R_seed_11)))
theorem d_R_drawn_0 : decode prog_12_method_83_code 0 = .ok (.iload_n 1, 1) := by decide +kernel
theorem d_R_drawn_1 : decode prog_12_method_83_code 1 = .ok (.i2l, 1) := by decide +kernel
theorem d_R_drawn_2 : decode prog_12_method_83_code 2 = .ok (.lconst 1, 1) := by decide +kernel
theorem d_R_drawn_3 : decode prog_12_method_83_code 3 = .ok (.ldc2_w 385, 3) := by decide +kernel
theorem d_R_drawn_6 : decode prog_12_method_83_code 6 = .ok (.invokestatic 103, 3) := by decide +kernel
theorem d_R_drawn_9 : decode prog_12_method_83_code 9 = .ok (.ifCond .ne 6, 3) := by decide +kernel
theorem d_R_drawn_12 : decode prog_12_method_83_code 12 = .ok (.bipush (-2), 2) := by decide +kernel
theorem d_R_drawn_14 : decode prog_12_method_83_code 14 = .ok (.ireturn, 1) := by decide +kernel
theorem d_R_drawn_15 : decode prog_12_method_83_code 15 = .ok (.aload_n 0, 1) := by decide +kernel
theorem d_R_drawn_16 : decode prog_12_method_83_code 16 = .ok (.getfield 25, 3) := by decide +kernel
theorem d_R_drawn_19 : decode prog_12_method_83_code 19 = .ok (.aload_n 0, 1) := by decide +kernel
theorem d_R_drawn_20 : decode prog_12_method_83_code 20 = .ok (.getfield 28, 3) := by decide +kernel
theorem d_R_drawn_23 : decode prog_12_method_83_code 23 = .ok (.invokestatic 302, 3) := by decide +kernel
theorem d_R_drawn_26 : decode prog_12_method_83_code 26 = .ok (.iconst 0, 1) := by decide +kernel
theorem d_R_drawn_27 : decode prog_12_method_83_code 27 = .ok (.istore_n 2, 1) := by decide +kernel
theorem d_R_drawn_28 : decode prog_12_method_83_code 28 = .ok (.iconst 0, 1) := by decide +kernel
theorem d_R_drawn_29 : decode prog_12_method_83_code 29 = .ok (.istore_n 3, 1) := by decide +kernel
theorem d_R_drawn_30 : decode prog_12_method_83_code 30 = .ok (.iload_n 3, 1) := by decide +kernel
theorem d_R_drawn_31 : decode prog_12_method_83_code 31 = .ok (.iload_n 1, 1) := by decide +kernel
theorem d_R_drawn_32 : decode prog_12_method_83_code 32 = .ok (.if_icmp .ge 119, 3) := by decide +kernel
theorem d_R_drawn_35 : decode prog_12_method_83_code 35 = .ok (.aload_n 0, 1) := by decide +kernel
theorem d_R_drawn_36 : decode prog_12_method_83_code 36 = .ok (.aload_n 0, 1) := by decide +kernel
theorem d_R_drawn_37 : decode prog_12_method_83_code 37 = .ok (.getfield 390, 3) := by decide +kernel
theorem d_R_drawn_40 : decode prog_12_method_83_code 40 = .ok (.ldc2_w 394, 3) := by decide +kernel
theorem d_R_drawn_43 : decode prog_12_method_83_code 43 = .ok (.lmul, 1) := by decide +kernel
theorem d_R_drawn_44 : decode prog_12_method_83_code 44 = .ok (.ldc2_w 396, 3) := by decide +kernel
theorem d_R_drawn_47 : decode prog_12_method_83_code 47 = .ok (.ladd, 1) := by decide +kernel
theorem d_R_drawn_48 : decode prog_12_method_83_code 48 = .ok (.putfield 390, 3) := by decide +kernel
theorem d_R_drawn_51 : decode prog_12_method_83_code 51 = .ok (.aload_n 0, 1) := by decide +kernel
theorem d_R_drawn_52 : decode prog_12_method_83_code 52 = .ok (.getfield 390, 3) := by decide +kernel
theorem d_R_drawn_55 : decode prog_12_method_83_code 55 = .ok (.bipush 33, 2) := by decide +kernel
theorem d_R_drawn_57 : decode prog_12_method_83_code 57 = .ok (.lushr, 1) := by decide +kernel
theorem d_R_drawn_58 : decode prog_12_method_83_code 58 = .ok (.l2i, 1) := by decide +kernel
theorem d_R_drawn_59 : decode prog_12_method_83_code 59 = .ok (.istore 4, 2) := by decide +kernel
theorem d_R_drawn_61 : decode prog_12_method_83_code 61 = .ok (.iconst 0, 1) := by decide +kernel
theorem d_R_drawn_62 : decode prog_12_method_83_code 62 = .ok (.istore 5, 2) := by decide +kernel
theorem d_R_drawn_64 : decode prog_12_method_83_code 64 = .ok (.iload 5, 2) := by decide +kernel
theorem d_R_drawn_66 : decode prog_12_method_83_code 66 = .ok (.bipush 16, 2) := by decide +kernel
theorem d_R_drawn_68 : decode prog_12_method_83_code 68 = .ok (.if_icmp .ge 26, 3) := by decide +kernel
theorem d_R_drawn_71 : decode prog_12_method_83_code 71 = .ok (.aload_n 0, 1) := by decide +kernel
theorem d_R_drawn_72 : decode prog_12_method_83_code 72 = .ok (.getfield 28, 3) := by decide +kernel
theorem d_R_drawn_75 : decode prog_12_method_83_code 75 = .ok (.iload 5, 2) := by decide +kernel
theorem d_R_drawn_77 : decode prog_12_method_83_code 77 = .ok (.iload 4, 2) := by decide +kernel
theorem d_R_drawn_79 : decode prog_12_method_83_code 79 = .ok (.iload 5, 2) := by decide +kernel
theorem d_R_drawn_81 : decode prog_12_method_83_code 81 = .ok (.ishr, 1) := by decide +kernel
theorem d_R_drawn_82 : decode prog_12_method_83_code 82 = .ok (.bipush 15, 2) := by decide +kernel
theorem d_R_drawn_84 : decode prog_12_method_83_code 84 = .ok (.iand, 1) := by decide +kernel
theorem d_R_drawn_85 : decode prog_12_method_83_code 85 = .ok (.iconst 4, 1) := by decide +kernel
theorem d_R_drawn_86 : decode prog_12_method_83_code 86 = .ok (.isub, 1) := by decide +kernel
theorem d_R_drawn_87 : decode prog_12_method_83_code 87 = .ok (.iastore, 1) := by decide +kernel
theorem d_R_drawn_88 : decode prog_12_method_83_code 88 = .ok (.iinc 5 1, 3) := by decide +kernel
theorem d_R_drawn_91 : decode prog_12_method_83_code 91 = .ok (.goto (-27), 3) := by decide +kernel
theorem d_R_drawn_94 : decode prog_12_method_83_code 94 = .ok (.aload_n 0, 1) := by decide +kernel
theorem d_R_drawn_95 : decode prog_12_method_83_code 95 = .ok (.aload_n 0, 1) := by decide +kernel
theorem d_R_drawn_96 : decode prog_12_method_83_code 96 = .ok (.getfield 28, 3) := by decide +kernel
theorem d_R_drawn_99 : decode prog_12_method_83_code 99 = .ok (.bipush (-9), 2) := by decide +kernel
theorem d_R_drawn_101 : decode prog_12_method_83_code 101 = .ok (.invokevirtual 316, 3) := by decide +kernel
theorem d_R_drawn_104 : decode prog_12_method_83_code 104 = .ok (.iconst 0, 1) := by decide +kernel
theorem d_R_drawn_105 : decode prog_12_method_83_code 105 = .ok (.istore 5, 2) := by decide +kernel
theorem d_R_drawn_107 : decode prog_12_method_83_code 107 = .ok (.iload 5, 2) := by decide +kernel
theorem d_R_drawn_109 : decode prog_12_method_83_code 109 = .ok (.bipush 16, 2) := by decide +kernel
theorem d_R_drawn_111 : decode prog_12_method_83_code 111 = .ok (.if_icmp .ge 34, 3) := by decide +kernel
theorem d_R_drawn_114 : decode prog_12_method_83_code 114 = .ok (.iload_n 2, 1) := by decide +kernel
theorem d_R_drawn_115 : decode prog_12_method_83_code 115 = .ok (.aload_n 0, 1) := by decide +kernel
theorem d_R_drawn_116 : decode prog_12_method_83_code 116 = .ok (.getfield 71, 3) := by decide +kernel
theorem d_R_drawn_119 : decode prog_12_method_83_code 119 = .ok (.iload 5, 2) := by decide +kernel
theorem d_R_drawn_121 : decode prog_12_method_83_code 121 = .ok (.iaload, 1) := by decide +kernel
theorem d_R_drawn_122 : decode prog_12_method_83_code 122 = .ok (.aload_n 0, 1) := by decide +kernel
theorem d_R_drawn_123 : decode prog_12_method_83_code 123 = .ok (.getfield 28, 3) := by decide +kernel
theorem d_R_drawn_126 : decode prog_12_method_83_code 126 = .ok (.iload 5, 2) := by decide +kernel
theorem d_R_drawn_128 : decode prog_12_method_83_code 128 = .ok (.iaload, 1) := by decide +kernel
theorem d_R_drawn_129 : decode prog_12_method_83_code 129 = .ok (.if_icmp .eq 7, 3) := by decide +kernel
theorem d_R_drawn_132 : decode prog_12_method_83_code 132 = .ok (.iconst 1, 1) := by decide +kernel
theorem d_R_drawn_133 : decode prog_12_method_83_code 133 = .ok (.goto 4, 3) := by decide +kernel
theorem d_R_drawn_136 : decode prog_12_method_83_code 136 = .ok (.iconst 0, 1) := by decide +kernel
theorem d_R_drawn_137 : decode prog_12_method_83_code 137 = .ok (.iadd, 1) := by decide +kernel
theorem d_R_drawn_138 : decode prog_12_method_83_code 138 = .ok (.istore_n 2, 1) := by decide +kernel
theorem d_R_drawn_139 : decode prog_12_method_83_code 139 = .ok (.iinc 5 1, 3) := by decide +kernel
theorem d_R_drawn_142 : decode prog_12_method_83_code 142 = .ok (.goto (-35), 3) := by decide +kernel
theorem d_R_drawn_145 : decode prog_12_method_83_code 145 = .ok (.iinc 3 1, 3) := by decide +kernel
theorem d_R_drawn_148 : decode prog_12_method_83_code 148 = .ok (.goto (-118), 3) := by decide +kernel
theorem d_R_drawn_151 : decode prog_12_method_83_code 151 = .ok (.iload_n 2, 1) := by decide +kernel
theorem d_R_drawn_152 : decode prog_12_method_83_code 152 = .ok (.ireturn, 1) := by decide +kernel
def B_R_drawn (_ : Nat × Nat) : PS :=
  (sSq (sIf (cN (e1 (fun x : Int32 => decide (¬ x = 0)) (eX .int (xS 3 X_R_in (aC .long (e1 (fun x : Int32 => x.toInt64) (eI 1)) (aC .long (eV (1 : Int64)) (aC .long (eV (10 : Int64)) aN))))))) (sRt .int (eV (-2 : Int32))) sSk)
    (sSq (sX (xS 2 X_R_copy (aC .ref (eFR 10 7 (eR 0)) (aC .ref (eFR 10 8 (eR 0)) aN))))
    (sSq (sI 2 (eV (0 : Int32)))
    (sSq (sCut 3 (sSq (sI 3 (eV (0 : Int32)))
    (sLp 4 (e2 (fun x y : Int32 => decide (x < y)) (eI 3) (eI 1))
    (sCut 4 (sSq (sF .long 10 17 (eR 0) (e2 (fun x y : Int64 => x + y) (e2 (fun x y : Int64 => x * y) (eFL 10 17 (eR 0)) (eV (6364136223846793005 : Int64))) (eV (1442695040888963407 : Int64))))
    (sSq (sI 4 (e1 (fun x : Int64 => x.toInt32) (e2 (fun (x : Int64) (y : Int32) => (x.toUInt64 >>> (y.toInt64.toUInt64 &&& Int64.toUInt64 63)).toInt64) (eFL 10 17 (eR 0)) (eV (33 : Int32)))))
    (sSq (sCut 5 (sSq (sI 5 (eV (0 : Int32)))
    (sLp 6 (e2 (fun x y : Int32 => decide (x < y)) (eI 5) (eV (16 : Int32)))
    (sAI (eFR 10 8 (eR 0)) (eI 5) (e2 (fun x y : Int32 => x - y) (e2 (fun x y : Int32 => x &&& y) (e2 (fun x y : Int32 => x >>> (y &&& 31)) (eI 4) (eI 5)) (eV (15 : Int32))) (eV (4 : Int32))))
    (sInc 5 (1)))))
    (sSq (sX (xV 10 2 X_R_run (eR 0) (aC .ref (eFR 10 8 (eR 0)) (aC .int (eV (-9 : Int32)) aN))))
    (sCut 5 (sSq (sI 5 (eV (0 : Int32)))
    (sLp 6 (e2 (fun x y : Int32 => decide (x < y)) (eI 5) (eV (16 : Int32)))
    (sI 2 (e2 (fun x y : Int32 => x + y) (eI 2) (eIf (e2 (fun x y : Int32 => decide (¬ x = y)) (eAI (eFR 10 35 (eR 0)) (eI 5)) (eAI (eFR 10 8 (eR 0)) (eI 5))) (eV (1 : Int32)) (eV (0 : Int32)))))
    (sInc 5 (1))))))))))
    (sInc 3 (1)))))
    (sRt .int (eI 2))))))
def X_R_drawn : PM := fun vs h Q => (lx vs).length ≤ 6 ∧ B_R_drawn (h.length + 0, hsz h + 0) (fun _ _ => False) (fun _ _ => False) (fun _ _ => False) Q (lini 6 vs) h
theorem v_R_drawn (l : Launch) : Ctr l y_R_drawn prog_12_method_83_code 6 (some .int) rm_R_drawn X_R_drawn := by
  refine Ctr_of (own := "PackLanesModel") (B := B_R_drawn) (KR := fun _ Q => Q) (by decide) rfl (fun _ _ _ z => z) (fun _ _ _ _ z => ⟨Or.inl ⟨rfl, rfl⟩, z⟩) (Or.inr (Or.inl rfl)) (fun κ hl ho hR hrt hn0 => ?_)
  subst hl
  unfold B_R_drawn
  exact (S_sq (pc1 := 15) (S_if1 (pT := 12) (pF := 15) (C_not (T1_ne (pT := 15) (pc2 := 9) (E_x (O_S k_R_103 (v_R_in _) ⟨rfl, rfl⟩ ho (rk hR rfl) (by decide) (pc2 := 6) (A_c catL (pc1 := 2) (E_i2l (pc1 := 1) (E_iln d_R_drawn_0 rfl) d_R_drawn_1) (A_c catL (pc1 := 3) (E_lc d_R_drawn_2 rfl) (A_c catL (pc1 := 6) (E_ldc2 ho w_cl_R_385 d_R_drawn_3) A_n))) d_R_drawn_6)) d_R_drawn_9 rfl)) (S_ri hrt (pc1 := 14) (E_bi d_R_drawn_12 rfl) d_R_drawn_14))
    (S_sq (pc1 := 26) (S_X (O_S k_R_302 (v_R_copy _) ⟨rfl, rfl⟩ ho (rk hR rfl) (by decide) (pc2 := 23) (A_c catR (pc1 := 19) (E_fR f_R_25 ho (pc1 := 16) (E_aln d_R_drawn_15 rfl) d_R_drawn_16) (A_c catR (pc1 := 23) (E_fR f_R_28 ho (pc1 := 20) (E_aln d_R_drawn_19 rfl) d_R_drawn_20) A_n)) d_R_drawn_23))
    (S_sq (pc1 := 28) (S_In (pc1 := 27) (E_ic d_R_drawn_26 rfl) d_R_drawn_27 rfl)
    (S_sq (pc1 := 151) (S_cut (S_sq (pc1 := 30) (S_In (pc1 := 29) (E_ic d_R_drawn_28 rfl) d_R_drawn_29 rfl)
    (S_lp (pT := 35) (pF := 151) (pS := 145) (pG := 148) (J2_lt (pF := 151) (pc1 := 31) (pc2 := 32) (E_iln d_R_drawn_30 rfl) (E_iln d_R_drawn_31 rfl) d_R_drawn_32 rfl)
    (S_cut (S_sq (pc1 := 51) (S_FL f_R_390 ho (pc1 := 36) (pc2 := 48) (E_aln d_R_drawn_35 rfl) (E_ladd (pc1 := 44) (pc2 := 47) (E_lmul (pc1 := 40) (pc2 := 43) (E_fL f_R_390 ho (pc1 := 37) (E_aln d_R_drawn_36 rfl) d_R_drawn_37) (E_ldc2 ho w_cl_R_394 d_R_drawn_40) d_R_drawn_43) (E_ldc2 ho w_cl_R_396 d_R_drawn_44) d_R_drawn_47) d_R_drawn_48)
    (S_sq (pc1 := 61) (S_I (pc1 := 59) (E_l2i (pc1 := 58) (E_lushr (pc1 := 55) (pc2 := 57) (E_fL f_R_390 ho (pc1 := 52) (E_aln d_R_drawn_51 rfl) d_R_drawn_52) (E_bi d_R_drawn_55 rfl) d_R_drawn_57) d_R_drawn_58) d_R_drawn_59)
    (S_sq (pc1 := 94) (S_cut (S_sq (pc1 := 64) (S_I (pc1 := 62) (E_ic d_R_drawn_61 rfl) d_R_drawn_62)
    (S_lp (pT := 71) (pF := 94) (pS := 88) (pG := 91) (J2_lt (pF := 94) (pc1 := 66) (pc2 := 68) (E_il d_R_drawn_64) (E_bi d_R_drawn_66 rfl) d_R_drawn_68 rfl)
    (S_AI (pc1 := 75) (pc2 := 77) (pc3 := 87) (E_fR f_R_28 ho (pc1 := 72) (E_aln d_R_drawn_71 rfl) d_R_drawn_72) (E_il d_R_drawn_75) (E_isub (pc1 := 85) (pc2 := 86) (E_iand (pc1 := 82) (pc2 := 84) (E_ishr (pc1 := 79) (pc2 := 81) (E_il d_R_drawn_77) (E_il d_R_drawn_79) d_R_drawn_81) (E_bi d_R_drawn_82 rfl) d_R_drawn_84) (E_ic d_R_drawn_85 rfl) d_R_drawn_86) d_R_drawn_87)
    (S_Inc d_R_drawn_88 rfl) d_R_drawn_91 rfl)))
    (S_sq (pc1 := 104) (S_X (O_V k_R_316 (v_R_run _) ⟨rfl, rfl⟩ ho (rk hR rfl) (by decide) (T := KT10) (N := 50) rfl (by decide) (pc1 := 95) (pc2 := 101) (E_aln d_R_drawn_94 rfl) (A_c catR (pc1 := 99) (E_fR f_R_28 ho (pc1 := 96) (E_aln d_R_drawn_95 rfl) d_R_drawn_96) (A_c catI (pc1 := 101) (E_bi d_R_drawn_99 rfl) A_n)) d_R_drawn_101))
    (S_cut (S_sq (pc1 := 107) (S_I (pc1 := 105) (E_ic d_R_drawn_104 rfl) d_R_drawn_105)
    (S_lp (pT := 114) (pF := 145) (pS := 139) (pG := 142) (J2_lt (pF := 145) (pc1 := 109) (pc2 := 111) (E_il d_R_drawn_107) (E_bi d_R_drawn_109 rfl) d_R_drawn_111 rfl)
    (S_In (pc1 := 138) (E_iadd (pc1 := 115) (pc2 := 137) (E_iln d_R_drawn_114 rfl) (E_if (pT := 132) (pF := 136) (pc1 := 133) (pc2 := 137) (J2_ne (pF := 136) (pc1 := 122) (pc2 := 129) (E_aI (pc1 := 119) (pc2 := 121) (E_fR f_R_71 ho (pc1 := 116) (E_aln d_R_drawn_115 rfl) d_R_drawn_116) (E_il d_R_drawn_119) d_R_drawn_121) (E_aI (pc1 := 126) (pc2 := 128) (E_fR f_R_28 ho (pc1 := 123) (E_aln d_R_drawn_122 rfl) d_R_drawn_123) (E_il d_R_drawn_126) d_R_drawn_128) d_R_drawn_129 rfl) (E_ic d_R_drawn_132 rfl) d_R_drawn_133 rfl (E_ic d_R_drawn_136 rfl)) d_R_drawn_137) d_R_drawn_138 rfl)
    (S_Inc d_R_drawn_139 rfl) d_R_drawn_142 rfl))))))))
    (S_Inc d_R_drawn_145 rfl) d_R_drawn_148 rfl)))
    (S_ri hrt (pc1 := 152) (E_iln d_R_drawn_151 rfl) d_R_drawn_152)))))
theorem d_R_keep_0 : decode prog_12_method_84_code 0 = .ok (.iload_n 1, 1) := by decide +kernel
theorem d_R_keep_1 : decode prog_12_method_84_code 1 = .ok (.i2l, 1) := by decide +kernel
theorem d_R_keep_2 : decode prog_12_method_84_code 2 = .ok (.lconst 0, 1) := by decide +kernel
theorem d_R_keep_3 : decode prog_12_method_84_code 3 = .ok (.lconst 1, 1) := by decide +kernel
theorem d_R_keep_4 : decode prog_12_method_84_code 4 = .ok (.invokestatic 103, 3) := by decide +kernel
theorem d_R_keep_7 : decode prog_12_method_84_code 7 = .ok (.ifCond .ne 5, 3) := by decide +kernel
theorem d_R_keep_10 : decode prog_12_method_84_code 10 = .ok (.iconst (-1), 1) := by decide +kernel
theorem d_R_keep_11 : decode prog_12_method_84_code 11 = .ok (.ireturn, 1) := by decide +kernel
theorem d_R_keep_12 : decode prog_12_method_84_code 12 = .ok (.aload_n 0, 1) := by decide +kernel
theorem d_R_keep_13 : decode prog_12_method_84_code 13 = .ok (.getfield 37, 3) := by decide +kernel
theorem d_R_keep_16 : decode prog_12_method_84_code 16 = .ok (.iload_n 1, 1) := by decide +kernel
theorem d_R_keep_17 : decode prog_12_method_84_code 17 = .ok (.iconst 1, 1) := by decide +kernel
theorem d_R_keep_18 : decode prog_12_method_84_code 18 = .ok (.bastore, 1) := by decide +kernel
theorem d_R_keep_19 : decode prog_12_method_84_code 19 = .ok (.iconst 0, 1) := by decide +kernel
theorem d_R_keep_20 : decode prog_12_method_84_code 20 = .ok (.istore_n 2, 1) := by decide +kernel
theorem d_R_keep_21 : decode prog_12_method_84_code 21 = .ok (.iload_n 2, 1) := by decide +kernel
theorem d_R_keep_22 : decode prog_12_method_84_code 22 = .ok (.bipush 19, 2) := by decide +kernel
theorem d_R_keep_24 : decode prog_12_method_84_code 24 = .ok (.if_icmp .ge 26, 3) := by decide +kernel
theorem d_R_keep_27 : decode prog_12_method_84_code 27 = .ok (.aload_n 0, 1) := by decide +kernel
theorem d_R_keep_28 : decode prog_12_method_84_code 28 = .ok (.getfield 34, 3) := by decide +kernel
theorem d_R_keep_31 : decode prog_12_method_84_code 31 = .ok (.bipush 19, 2) := by decide +kernel
theorem d_R_keep_33 : decode prog_12_method_84_code 33 = .ok (.iload_n 1, 1) := by decide +kernel
theorem d_R_keep_34 : decode prog_12_method_84_code 34 = .ok (.imul, 1) := by decide +kernel
theorem d_R_keep_35 : decode prog_12_method_84_code 35 = .ok (.iload_n 2, 1) := by decide +kernel
theorem d_R_keep_36 : decode prog_12_method_84_code 36 = .ok (.iadd, 1) := by decide +kernel
theorem d_R_keep_37 : decode prog_12_method_84_code 37 = .ok (.aload_n 0, 1) := by decide +kernel
theorem d_R_keep_38 : decode prog_12_method_84_code 38 = .ok (.getfield 25, 3) := by decide +kernel
theorem d_R_keep_41 : decode prog_12_method_84_code 41 = .ok (.iload_n 2, 1) := by decide +kernel
theorem d_R_keep_42 : decode prog_12_method_84_code 42 = .ok (.iaload, 1) := by decide +kernel
theorem d_R_keep_43 : decode prog_12_method_84_code 43 = .ok (.iastore, 1) := by decide +kernel
theorem d_R_keep_44 : decode prog_12_method_84_code 44 = .ok (.iinc 2 1, 3) := by decide +kernel
theorem d_R_keep_47 : decode prog_12_method_84_code 47 = .ok (.goto (-26), 3) := by decide +kernel
theorem d_R_keep_50 : decode prog_12_method_84_code 50 = .ok (.aload_n 0, 1) := by decide +kernel
theorem d_R_keep_51 : decode prog_12_method_84_code 51 = .ok (.getfield 25, 3) := by decide +kernel
theorem d_R_keep_54 : decode prog_12_method_84_code 54 = .ok (.bipush 18, 2) := by decide +kernel
theorem d_R_keep_56 : decode prog_12_method_84_code 56 = .ok (.iaload, 1) := by decide +kernel
theorem d_R_keep_57 : decode prog_12_method_84_code 57 = .ok (.ireturn, 1) := by decide +kernel
def B_R_keep (_ : Nat × Nat) : PS :=
  (sSq (sIf (cN (e1 (fun x : Int32 => decide (¬ x = 0)) (eX .int (xS 3 X_R_in (aC .long (e1 (fun x : Int32 => x.toInt64) (eI 1)) (aC .long (eV (0 : Int64)) (aC .long (eV (1 : Int64)) aN))))))) (sRt .int (eV (-1 : Int32))) sSk)
    (sSq (sAZ (eFR 10 13 (eR 0)) (eI 1) (eV (1 : Int32)))
    (sSq (sCut 2 (sSq (sI 2 (eV (0 : Int32)))
    (sLp 3 (e2 (fun x y : Int32 => decide (x < y)) (eI 2) (eV (19 : Int32)))
    (sAI (eFR 10 12 (eR 0)) (e2 (fun x y : Int32 => x + y) (e2 (fun x y : Int32 => x * y) (eV (19 : Int32)) (eI 1)) (eI 2)) (eAI (eFR 10 7 (eR 0)) (eI 2)))
    (sInc 2 (1)))))
    (sRt .int (eAI (eFR 10 7 (eR 0)) (eV (18 : Int32)))))))
def X_R_keep : PM := fun vs h Q => (lx vs).length ≤ 3 ∧ B_R_keep (h.length + 0, hsz h + 0) (fun _ _ => False) (fun _ _ => False) (fun _ _ => False) Q (lini 3 vs) h
theorem v_R_keep (l : Launch) : Ctr l y_R_keep prog_12_method_84_code 3 (some .int) rm_R_keep X_R_keep := by
  refine Ctr_of (own := "PackLanesModel") (B := B_R_keep) (KR := fun _ Q => Q) (by decide) rfl (fun _ _ _ z => z) (fun _ _ _ _ z => ⟨Or.inl ⟨rfl, rfl⟩, z⟩) (Or.inr (Or.inl rfl)) (fun κ hl ho hR hrt hn0 => ?_)
  subst hl
  unfold B_R_keep
  exact (S_sq (pc1 := 12) (S_if1 (pT := 10) (pF := 12) (C_not (T1_ne (pT := 12) (pc2 := 7) (E_x (O_S k_R_103 (v_R_in _) ⟨rfl, rfl⟩ ho (rk hR rfl) (by decide) (pc2 := 4) (A_c catL (pc1 := 2) (E_i2l (pc1 := 1) (E_iln d_R_keep_0 rfl) d_R_keep_1) (A_c catL (pc1 := 3) (E_lc d_R_keep_2 rfl) (A_c catL (pc1 := 4) (E_lc d_R_keep_3 rfl) A_n))) d_R_keep_4)) d_R_keep_7 rfl)) (S_ri hrt (pc1 := 11) (E_ic d_R_keep_10 rfl) d_R_keep_11))
    (S_sq (pc1 := 19) (S_AZ (pc1 := 16) (pc2 := 17) (pc3 := 18) (E_fR f_R_37 ho (pc1 := 13) (E_aln d_R_keep_12 rfl) d_R_keep_13) (E_iln d_R_keep_16 rfl) (E_ic d_R_keep_17 rfl) d_R_keep_18)
    (S_sq (pc1 := 50) (S_cut (S_sq (pc1 := 21) (S_In (pc1 := 20) (E_ic d_R_keep_19 rfl) d_R_keep_20 rfl)
    (S_lp (pT := 27) (pF := 50) (pS := 44) (pG := 47) (J2_lt (pF := 50) (pc1 := 22) (pc2 := 24) (E_iln d_R_keep_21 rfl) (E_bi d_R_keep_22 rfl) d_R_keep_24 rfl)
    (S_AI (pc1 := 31) (pc2 := 37) (pc3 := 43) (E_fR f_R_34 ho (pc1 := 28) (E_aln d_R_keep_27 rfl) d_R_keep_28) (E_iadd (pc1 := 35) (pc2 := 36) (E_imul (pc1 := 33) (pc2 := 34) (E_bi d_R_keep_31 rfl) (E_iln d_R_keep_33 rfl) d_R_keep_34) (E_iln d_R_keep_35 rfl) d_R_keep_36) (E_aI (pc1 := 41) (pc2 := 42) (E_fR f_R_25 ho (pc1 := 38) (E_aln d_R_keep_37 rfl) d_R_keep_38) (E_iln d_R_keep_41 rfl) d_R_keep_42) d_R_keep_43)
    (S_Inc d_R_keep_44 rfl) d_R_keep_47 rfl)))
    (S_ri hrt (pc1 := 57) (E_aI (pc1 := 54) (pc2 := 56) (E_fR f_R_25 ho (pc1 := 51) (E_aln d_R_keep_50 rfl) d_R_keep_51) (E_bi d_R_keep_54 rfl) d_R_keep_56) d_R_keep_57))))
theorem d_R_again_0 : decode prog_12_method_85_code 0 = .ok (.iload_n 1, 1) := by decide +kernel
theorem d_R_again_1 : decode prog_12_method_85_code 1 = .ok (.i2l, 1) := by decide +kernel
theorem d_R_again_2 : decode prog_12_method_85_code 2 = .ok (.lconst 0, 1) := by decide +kernel
theorem d_R_again_3 : decode prog_12_method_85_code 3 = .ok (.lconst 1, 1) := by decide +kernel
theorem d_R_again_4 : decode prog_12_method_85_code 4 = .ok (.invokestatic 103, 3) := by decide +kernel
theorem d_R_again_7 : decode prog_12_method_85_code 7 = .ok (.ifCond .ne 5, 3) := by decide +kernel
theorem d_R_again_10 : decode prog_12_method_85_code 10 = .ok (.iconst (-1), 1) := by decide +kernel
theorem d_R_again_11 : decode prog_12_method_85_code 11 = .ok (.ireturn, 1) := by decide +kernel
theorem d_R_again_12 : decode prog_12_method_85_code 12 = .ok (.aload_n 0, 1) := by decide +kernel
theorem d_R_again_13 : decode prog_12_method_85_code 13 = .ok (.getfield 37, 3) := by decide +kernel
theorem d_R_again_16 : decode prog_12_method_85_code 16 = .ok (.iload_n 1, 1) := by decide +kernel
theorem d_R_again_17 : decode prog_12_method_85_code 17 = .ok (.baload, 1) := by decide +kernel
theorem d_R_again_18 : decode prog_12_method_85_code 18 = .ok (.ifCond .ne 6, 3) := by decide +kernel
theorem d_R_again_21 : decode prog_12_method_85_code 21 = .ok (.bipush (-3), 2) := by decide +kernel
theorem d_R_again_23 : decode prog_12_method_85_code 23 = .ok (.ireturn, 1) := by decide +kernel
theorem d_R_again_24 : decode prog_12_method_85_code 24 = .ok (.iconst 0, 1) := by decide +kernel
theorem d_R_again_25 : decode prog_12_method_85_code 25 = .ok (.istore_n 2, 1) := by decide +kernel
theorem d_R_again_26 : decode prog_12_method_85_code 26 = .ok (.iload_n 2, 1) := by decide +kernel
theorem d_R_again_27 : decode prog_12_method_85_code 27 = .ok (.bipush 19, 2) := by decide +kernel
theorem d_R_again_29 : decode prog_12_method_85_code 29 = .ok (.if_icmp .ge 26, 3) := by decide +kernel
theorem d_R_again_32 : decode prog_12_method_85_code 32 = .ok (.aload_n 0, 1) := by decide +kernel
theorem d_R_again_33 : decode prog_12_method_85_code 33 = .ok (.getfield 25, 3) := by decide +kernel
theorem d_R_again_36 : decode prog_12_method_85_code 36 = .ok (.iload_n 2, 1) := by decide +kernel
theorem d_R_again_37 : decode prog_12_method_85_code 37 = .ok (.aload_n 0, 1) := by decide +kernel
theorem d_R_again_38 : decode prog_12_method_85_code 38 = .ok (.getfield 34, 3) := by decide +kernel
theorem d_R_again_41 : decode prog_12_method_85_code 41 = .ok (.bipush 19, 2) := by decide +kernel
theorem d_R_again_43 : decode prog_12_method_85_code 43 = .ok (.iload_n 1, 1) := by decide +kernel
theorem d_R_again_44 : decode prog_12_method_85_code 44 = .ok (.imul, 1) := by decide +kernel
theorem d_R_again_45 : decode prog_12_method_85_code 45 = .ok (.iload_n 2, 1) := by decide +kernel
theorem d_R_again_46 : decode prog_12_method_85_code 46 = .ok (.iadd, 1) := by decide +kernel
theorem d_R_again_47 : decode prog_12_method_85_code 47 = .ok (.iaload, 1) := by decide +kernel
theorem d_R_again_48 : decode prog_12_method_85_code 48 = .ok (.iastore, 1) := by decide +kernel
theorem d_R_again_49 : decode prog_12_method_85_code 49 = .ok (.iinc 2 1, 3) := by decide +kernel
theorem d_R_again_52 : decode prog_12_method_85_code 52 = .ok (.goto (-26), 3) := by decide +kernel
theorem d_R_again_55 : decode prog_12_method_85_code 55 = .ok (.aload_n 0, 1) := by decide +kernel
theorem d_R_again_56 : decode prog_12_method_85_code 56 = .ok (.iconst 0, 1) := by decide +kernel
theorem d_R_again_57 : decode prog_12_method_85_code 57 = .ok (.putfield 173, 3) := by decide +kernel
theorem d_R_again_60 : decode prog_12_method_85_code 60 = .ok (.aload_n 0, 1) := by decide +kernel
theorem d_R_again_61 : decode prog_12_method_85_code 61 = .ok (.getfield 25, 3) := by decide +kernel
theorem d_R_again_64 : decode prog_12_method_85_code 64 = .ok (.bipush 18, 2) := by decide +kernel
theorem d_R_again_66 : decode prog_12_method_85_code 66 = .ok (.iaload, 1) := by decide +kernel
theorem d_R_again_67 : decode prog_12_method_85_code 67 = .ok (.ireturn, 1) := by decide +kernel
def B_R_again (_ : Nat × Nat) : PS :=
  (sSq (sIf (cN (e1 (fun x : Int32 => decide (¬ x = 0)) (eX .int (xS 3 X_R_in (aC .long (e1 (fun x : Int32 => x.toInt64) (eI 1)) (aC .long (eV (0 : Int64)) (aC .long (eV (1 : Int64)) aN))))))) (sRt .int (eV (-1 : Int32))) sSk)
    (sSq (sIf (cN (e1 (fun x : Int32 => decide (¬ x = 0)) (eAZ (eFR 10 13 (eR 0)) (eI 1)))) (sRt .int (eV (-3 : Int32))) sSk)
    (sSq (sCut 2 (sSq (sI 2 (eV (0 : Int32)))
    (sLp 3 (e2 (fun x y : Int32 => decide (x < y)) (eI 2) (eV (19 : Int32)))
    (sAI (eFR 10 7 (eR 0)) (eI 2) (eAI (eFR 10 12 (eR 0)) (e2 (fun x y : Int32 => x + y) (e2 (fun x y : Int32 => x * y) (eV (19 : Int32)) (eI 1)) (eI 2))))
    (sInc 2 (1)))))
    (sSq (sF .int 10 10 (eR 0) (eV (0 : Int32)))
    (sRt .int (eAI (eFR 10 7 (eR 0)) (eV (18 : Int32))))))))
def X_R_again : PM := fun vs h Q => (lx vs).length ≤ 3 ∧ B_R_again (h.length + 0, hsz h + 0) (fun _ _ => False) (fun _ _ => False) (fun _ _ => False) Q (lini 3 vs) h
theorem v_R_again (l : Launch) : Ctr l y_R_again prog_12_method_85_code 3 (some .int) rm_R_again X_R_again := by
  refine Ctr_of (own := "PackLanesModel") (B := B_R_again) (KR := fun _ Q => Q) (by decide) rfl (fun _ _ _ z => z) (fun _ _ _ _ z => ⟨Or.inl ⟨rfl, rfl⟩, z⟩) (Or.inr (Or.inl rfl)) (fun κ hl ho hR hrt hn0 => ?_)
  subst hl
  unfold B_R_again
  exact (S_sq (pc1 := 12) (S_if1 (pT := 10) (pF := 12) (C_not (T1_ne (pT := 12) (pc2 := 7) (E_x (O_S k_R_103 (v_R_in _) ⟨rfl, rfl⟩ ho (rk hR rfl) (by decide) (pc2 := 4) (A_c catL (pc1 := 2) (E_i2l (pc1 := 1) (E_iln d_R_again_0 rfl) d_R_again_1) (A_c catL (pc1 := 3) (E_lc d_R_again_2 rfl) (A_c catL (pc1 := 4) (E_lc d_R_again_3 rfl) A_n))) d_R_again_4)) d_R_again_7 rfl)) (S_ri hrt (pc1 := 11) (E_ic d_R_again_10 rfl) d_R_again_11))
    (S_sq (pc1 := 24) (S_if1 (pT := 21) (pF := 24) (C_not (T1_ne (pT := 24) (pc2 := 18) (E_aZ (pc1 := 16) (pc2 := 17) (E_fR f_R_37 ho (pc1 := 13) (E_aln d_R_again_12 rfl) d_R_again_13) (E_iln d_R_again_16 rfl) d_R_again_17) d_R_again_18 rfl)) (S_ri hrt (pc1 := 23) (E_bi d_R_again_21 rfl) d_R_again_23))
    (S_sq (pc1 := 55) (S_cut (S_sq (pc1 := 26) (S_In (pc1 := 25) (E_ic d_R_again_24 rfl) d_R_again_25 rfl)
    (S_lp (pT := 32) (pF := 55) (pS := 49) (pG := 52) (J2_lt (pF := 55) (pc1 := 27) (pc2 := 29) (E_iln d_R_again_26 rfl) (E_bi d_R_again_27 rfl) d_R_again_29 rfl)
    (S_AI (pc1 := 36) (pc2 := 37) (pc3 := 48) (E_fR f_R_25 ho (pc1 := 33) (E_aln d_R_again_32 rfl) d_R_again_33) (E_iln d_R_again_36 rfl) (E_aI (pc1 := 41) (pc2 := 47) (E_fR f_R_34 ho (pc1 := 38) (E_aln d_R_again_37 rfl) d_R_again_38) (E_iadd (pc1 := 45) (pc2 := 46) (E_imul (pc1 := 43) (pc2 := 44) (E_bi d_R_again_41 rfl) (E_iln d_R_again_43 rfl) d_R_again_44) (E_iln d_R_again_45 rfl) d_R_again_46) d_R_again_47) d_R_again_48)
    (S_Inc d_R_again_49 rfl) d_R_again_52 rfl)))
    (S_sq (pc1 := 60) (S_FI f_R_173 ho (pc1 := 56) (pc2 := 57) (E_aln d_R_again_55 rfl) (E_ic d_R_again_56 rfl) d_R_again_57)
    (S_ri hrt (pc1 := 67) (E_aI (pc1 := 64) (pc2 := 66) (E_fR f_R_25 ho (pc1 := 61) (E_aln d_R_again_60 rfl) d_R_again_61) (E_bi d_R_again_64 rfl) d_R_again_66) d_R_again_67)))))
