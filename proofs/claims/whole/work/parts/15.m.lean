/-! methods: the decoded rows, the meaning (B, X), the contract (v) -/
theorem d_R_isFree_0 : decode prog_12_method_33_code 0 = .ok (.iconst 1, 1) := by decide +kernel
theorem d_R_isFree_1 : decode prog_12_method_33_code 1 = .ok (.istore_n 2, 1) := by decide +kernel
theorem d_R_isFree_2 : decode prog_12_method_33_code 2 = .ok (.iconst 0, 1) := by decide +kernel
theorem d_R_isFree_3 : decode prog_12_method_33_code 3 = .ok (.istore_n 3, 1) := by decide +kernel
theorem d_R_isFree_4 : decode prog_12_method_33_code 4 = .ok (.iload_n 3, 1) := by decide +kernel
theorem d_R_isFree_5 : decode prog_12_method_33_code 5 = .ok (.aload_n 0, 1) := by decide +kernel
theorem d_R_isFree_6 : decode prog_12_method_33_code 6 = .ok (.getfield 207, 3) := by decide +kernel
theorem d_R_isFree_9 : decode prog_12_method_33_code 9 = .ok (.if_icmp .ge 55, 3) := by decide +kernel
theorem d_R_isFree_12 : decode prog_12_method_33_code 12 = .ok (.iload_n 2, 1) := by decide +kernel
theorem d_R_isFree_13 : decode prog_12_method_33_code 13 = .ok (.ifCond .eq 43, 3) := by decide +kernel
theorem d_R_isFree_16 : decode prog_12_method_33_code 16 = .ok (.aload_n 0, 1) := by decide +kernel
theorem d_R_isFree_17 : decode prog_12_method_33_code 17 = .ok (.getfield 53, 3) := by decide +kernel
theorem d_R_isFree_20 : decode prog_12_method_33_code 20 = .ok (.aload_n 0, 1) := by decide +kernel
theorem d_R_isFree_21 : decode prog_12_method_33_code 21 = .ok (.getfield 65, 3) := by decide +kernel
theorem d_R_isFree_24 : decode prog_12_method_33_code 24 = .ok (.iload_n 1, 1) := by decide +kernel
theorem d_R_isFree_25 : decode prog_12_method_33_code 25 = .ok (.iload_n 3, 1) := by decide +kernel
theorem d_R_isFree_26 : decode prog_12_method_33_code 26 = .ok (.iadd, 1) := by decide +kernel
theorem d_R_isFree_27 : decode prog_12_method_33_code 27 = .ok (.iaload, 1) := by decide +kernel
theorem d_R_isFree_28 : decode prog_12_method_33_code 28 = .ok (.iaload, 1) := by decide +kernel
theorem d_R_isFree_29 : decode prog_12_method_33_code 29 = .ok (.bipush (-9), 2) := by decide +kernel
theorem d_R_isFree_31 : decode prog_12_method_33_code 31 = .ok (.if_icmp .ne 25, 3) := by decide +kernel
theorem d_R_isFree_34 : decode prog_12_method_33_code 34 = .ok (.aload_n 0, 1) := by decide +kernel
theorem d_R_isFree_35 : decode prog_12_method_33_code 35 = .ok (.getfield 59, 3) := by decide +kernel
theorem d_R_isFree_38 : decode prog_12_method_33_code 38 = .ok (.aload_n 0, 1) := by decide +kernel
theorem d_R_isFree_39 : decode prog_12_method_33_code 39 = .ok (.getfield 65, 3) := by decide +kernel
theorem d_R_isFree_42 : decode prog_12_method_33_code 42 = .ok (.iload_n 1, 1) := by decide +kernel
theorem d_R_isFree_43 : decode prog_12_method_33_code 43 = .ok (.iload_n 3, 1) := by decide +kernel
theorem d_R_isFree_44 : decode prog_12_method_33_code 44 = .ok (.iadd, 1) := by decide +kernel
theorem d_R_isFree_45 : decode prog_12_method_33_code 45 = .ok (.iaload, 1) := by decide +kernel
theorem d_R_isFree_46 : decode prog_12_method_33_code 46 = .ok (.iaload, 1) := by decide +kernel
theorem d_R_isFree_47 : decode prog_12_method_33_code 47 = .ok (.bipush (-9), 2) := by decide +kernel
theorem d_R_isFree_49 : decode prog_12_method_33_code 49 = .ok (.if_icmp .ne 7, 3) := by decide +kernel
theorem d_R_isFree_52 : decode prog_12_method_33_code 52 = .ok (.iconst 1, 1) := by decide +kernel
theorem d_R_isFree_53 : decode prog_12_method_33_code 53 = .ok (.goto 4, 3) := by decide +kernel
theorem d_R_isFree_56 : decode prog_12_method_33_code 56 = .ok (.iconst 0, 1) := by decide +kernel
theorem d_R_isFree_57 : decode prog_12_method_33_code 57 = .ok (.istore_n 2, 1) := by decide +kernel
theorem d_R_isFree_58 : decode prog_12_method_33_code 58 = .ok (.iinc 3 1, 3) := by decide +kernel
theorem d_R_isFree_61 : decode prog_12_method_33_code 61 = .ok (.goto (-57), 3) := by decide +kernel
theorem d_R_isFree_64 : decode prog_12_method_33_code 64 = .ok (.iload_n 2, 1) := by decide +kernel
theorem d_R_isFree_65 : decode prog_12_method_33_code 65 = .ok (.ireturn, 1) := by decide +kernel
def B_R_isFree (_ : Nat × Nat) : PS :=
  (sSq (sI 2 (eV (1 : Int32)))
    (sSq (sCut 3 (sSq (sI 3 (eV (0 : Int32)))
    (sLp 4 (e2 (fun x y : Int32 => decide (x < y)) (eI 3) (eFI 10 19 (eR 0)))
    (sI 2 (eC (cA (cA (e1 (fun x : Int32 => decide (¬ x = 0)) (eI 2)) (e2 (fun x y : Int32 => decide (x = y)) (eAI (eFR 10 22 (eR 0)) (eAI (eFR 10 30 (eR 0)) (e2 (fun x y : Int32 => x + y) (eI 1) (eI 3)))) (eV (-9 : Int32)))) (e2 (fun x y : Int32 => decide (x = y)) (eAI (eFR 10 27 (eR 0)) (eAI (eFR 10 30 (eR 0)) (e2 (fun x y : Int32 => x + y) (eI 1) (eI 3)))) (eV (-9 : Int32))))))
    (sInc 3 (1)))))
    (sRz (eI 2))))
def X_R_isFree : PM := fun vs h Q => (lx vs).length ≤ 4 ∧ B_R_isFree (h.length + 0, hsz h + 0) (fun _ _ => False) (fun _ _ => False) (fun _ _ => False) Q (lini 4 vs) h
theorem v_R_isFree (l : Launch) : Ctr l y_R_isFree prog_12_method_33_code 4 (some .boolean) rm_R_isFree X_R_isFree := by
  refine Ctr_of (own := "PackLanesModel") (B := B_R_isFree) (KR := fun _ Q => Q) (by decide) rfl (fun _ _ _ z => z) (fun _ _ _ _ z => ⟨Or.inl ⟨rfl, rfl⟩, z⟩) (Or.inr (Or.inr (Or.inl rfl))) (fun κ hl ho hR hrt hn0 => ?_)
  subst hl
  unfold B_R_isFree
  exact (S_sq (pc1 := 2) (S_In (pc1 := 1) (E_ic d_R_isFree_0 rfl) d_R_isFree_1 rfl)
    (S_sq (pc1 := 64) (S_cut (S_sq (pc1 := 4) (S_In (pc1 := 3) (E_ic d_R_isFree_2 rfl) d_R_isFree_3 rfl)
    (S_lp (pT := 12) (pF := 64) (pS := 58) (pG := 61) (J2_lt (pF := 64) (pc1 := 5) (pc2 := 9) (E_iln d_R_isFree_4 rfl) (E_fI f_R_207 ho (pc1 := 6) (E_aln d_R_isFree_5 rfl) d_R_isFree_6) d_R_isFree_9 rfl)
    (S_In (pc1 := 57) (E_C (pT := 52) (pF := 56) (pc2 := 57) (C_and (pc1 := 34) (C_and (pc1 := 16) (J1_ne (pF := 56) (pc2 := 13) (E_iln d_R_isFree_12 rfl) d_R_isFree_13 rfl) (J2_eq (pF := 56) (pc1 := 29) (pc2 := 31) (E_aI (pc1 := 20) (pc2 := 28) (E_fR f_R_53 ho (pc1 := 17) (E_aln d_R_isFree_16 rfl) d_R_isFree_17) (E_aI (pc1 := 24) (pc2 := 27) (E_fR f_R_65 ho (pc1 := 21) (E_aln d_R_isFree_20 rfl) d_R_isFree_21) (E_iadd (pc1 := 25) (pc2 := 26) (E_iln d_R_isFree_24 rfl) (E_iln d_R_isFree_25 rfl) d_R_isFree_26) d_R_isFree_27) d_R_isFree_28) (E_bi d_R_isFree_29 rfl) d_R_isFree_31 rfl)) (J2_eq (pF := 56) (pc1 := 47) (pc2 := 49) (E_aI (pc1 := 38) (pc2 := 46) (E_fR f_R_59 ho (pc1 := 35) (E_aln d_R_isFree_34 rfl) d_R_isFree_35) (E_aI (pc1 := 42) (pc2 := 45) (E_fR f_R_65 ho (pc1 := 39) (E_aln d_R_isFree_38 rfl) d_R_isFree_39) (E_iadd (pc1 := 43) (pc2 := 44) (E_iln d_R_isFree_42 rfl) (E_iln d_R_isFree_43 rfl) d_R_isFree_44) d_R_isFree_45) d_R_isFree_46) (E_bi d_R_isFree_47 rfl) d_R_isFree_49 rfl)) d_R_isFree_52 d_R_isFree_53 rfl d_R_isFree_56 rfl) d_R_isFree_57 rfl)
    (S_Inc d_R_isFree_58 rfl) d_R_isFree_61 rfl)))
    (S_rz hrt (pc1 := 65) (E_iln d_R_isFree_64 rfl) d_R_isFree_65)))
theorem d_R_addPack_0 : decode prog_12_method_34_code 0 = .ok (.iconst 0, 1) := by decide +kernel
theorem d_R_addPack_1 : decode prog_12_method_34_code 1 = .ok (.istore_n 2, 1) := by decide +kernel
theorem d_R_addPack_2 : decode prog_12_method_34_code 2 = .ok (.iload_n 2, 1) := by decide +kernel
theorem d_R_addPack_3 : decode prog_12_method_34_code 3 = .ok (.aload_n 0, 1) := by decide +kernel
theorem d_R_addPack_4 : decode prog_12_method_34_code 4 = .ok (.getfield 207, 3) := by decide +kernel
theorem d_R_addPack_7 : decode prog_12_method_34_code 7 = .ok (.if_icmp .ge 40, 3) := by decide +kernel
theorem d_R_addPack_10 : decode prog_12_method_34_code 10 = .ok (.aload_n 0, 1) := by decide +kernel
theorem d_R_addPack_11 : decode prog_12_method_34_code 11 = .ok (.getfield 59, 3) := by decide +kernel
theorem d_R_addPack_14 : decode prog_12_method_34_code 14 = .ok (.aload_n 0, 1) := by decide +kernel
theorem d_R_addPack_15 : decode prog_12_method_34_code 15 = .ok (.getfield 65, 3) := by decide +kernel
theorem d_R_addPack_18 : decode prog_12_method_34_code 18 = .ok (.iload_n 1, 1) := by decide +kernel
theorem d_R_addPack_19 : decode prog_12_method_34_code 19 = .ok (.iload_n 2, 1) := by decide +kernel
theorem d_R_addPack_20 : decode prog_12_method_34_code 20 = .ok (.iadd, 1) := by decide +kernel
theorem d_R_addPack_21 : decode prog_12_method_34_code 21 = .ok (.iaload, 1) := by decide +kernel
theorem d_R_addPack_22 : decode prog_12_method_34_code 22 = .ok (.aload_n 0, 1) := by decide +kernel
theorem d_R_addPack_23 : decode prog_12_method_34_code 23 = .ok (.getfield 210, 3) := by decide +kernel
theorem d_R_addPack_26 : decode prog_12_method_34_code 26 = .ok (.iastore, 1) := by decide +kernel
theorem d_R_addPack_27 : decode prog_12_method_34_code 27 = .ok (.aload_n 0, 1) := by decide +kernel
theorem d_R_addPack_28 : decode prog_12_method_34_code 28 = .ok (.getfield 62, 3) := by decide +kernel
theorem d_R_addPack_31 : decode prog_12_method_34_code 31 = .ok (.aload_n 0, 1) := by decide +kernel
theorem d_R_addPack_32 : decode prog_12_method_34_code 32 = .ok (.getfield 65, 3) := by decide +kernel
theorem d_R_addPack_35 : decode prog_12_method_34_code 35 = .ok (.iload_n 1, 1) := by decide +kernel
theorem d_R_addPack_36 : decode prog_12_method_34_code 36 = .ok (.iload_n 2, 1) := by decide +kernel
theorem d_R_addPack_37 : decode prog_12_method_34_code 37 = .ok (.iadd, 1) := by decide +kernel
theorem d_R_addPack_38 : decode prog_12_method_34_code 38 = .ok (.iaload, 1) := by decide +kernel
theorem d_R_addPack_39 : decode prog_12_method_34_code 39 = .ok (.iload_n 2, 1) := by decide +kernel
theorem d_R_addPack_40 : decode prog_12_method_34_code 40 = .ok (.iastore, 1) := by decide +kernel
theorem d_R_addPack_41 : decode prog_12_method_34_code 41 = .ok (.iinc 2 1, 3) := by decide +kernel
theorem d_R_addPack_44 : decode prog_12_method_34_code 44 = .ok (.goto (-42), 3) := by decide +kernel
theorem d_R_addPack_47 : decode prog_12_method_34_code 47 = .ok (.aload_n 0, 1) := by decide +kernel
theorem d_R_addPack_48 : decode prog_12_method_34_code 48 = .ok (.dup, 1) := by decide +kernel
theorem d_R_addPack_49 : decode prog_12_method_34_code 49 = .ok (.getfield 210, 3) := by decide +kernel
theorem d_R_addPack_52 : decode prog_12_method_34_code 52 = .ok (.iconst 1, 1) := by decide +kernel
theorem d_R_addPack_53 : decode prog_12_method_34_code 53 = .ok (.iadd, 1) := by decide +kernel
theorem d_R_addPack_54 : decode prog_12_method_34_code 54 = .ok (.putfield 210, 3) := by decide +kernel
theorem d_R_addPack_57 : decode prog_12_method_34_code 57 = .ok (.return_, 1) := by decide +kernel
def B_R_addPack (_ : Nat × Nat) : PS :=
  (sSq (sCut 2 (sSq (sI 2 (eV (0 : Int32)))
    (sLp 3 (e2 (fun x y : Int32 => decide (x < y)) (eI 2) (eFI 10 19 (eR 0)))
    (sSq (sAI (eFR 10 27 (eR 0)) (eAI (eFR 10 30 (eR 0)) (e2 (fun x y : Int32 => x + y) (eI 1) (eI 2))) (eFI 10 29 (eR 0)))
    (sAI (eFR 10 28 (eR 0)) (eAI (eFR 10 30 (eR 0)) (e2 (fun x y : Int32 => x + y) (eI 1) (eI 2))) (eI 2)))
    (sInc 2 (1)))))
    (sSq (sFO 10 29 (fun x y : Int32 => x + y) (eR 0) (eV (1 : Int32)))
    sRv))
def X_R_addPack : PM := fun vs h Q => (lx vs).length ≤ 3 ∧ B_R_addPack (h.length + 0, hsz h + 0) (fun _ _ => False) (fun _ _ => False) (fun _ _ => False) Q (lini 3 vs) h
theorem v_R_addPack (l : Launch) : Ctr l y_R_addPack prog_12_method_34_code 3 none rm_R_addPack X_R_addPack := by
  refine Ctr_of (own := "PackLanesModel") (B := B_R_addPack) (KR := fun _ Q => Q) (by decide) rfl (fun _ _ _ z => z) (fun _ _ _ _ z => ⟨Or.inl ⟨rfl, rfl⟩, z⟩) (Or.inl rfl) (fun κ hl ho hR hrt hn0 => ?_)
  subst hl
  unfold B_R_addPack
  exact (S_sq (pc1 := 47) (S_cut (S_sq (pc1 := 2) (S_In (pc1 := 1) (E_ic d_R_addPack_0 rfl) d_R_addPack_1 rfl)
    (S_lp (pT := 10) (pF := 47) (pS := 41) (pG := 44) (J2_lt (pF := 47) (pc1 := 3) (pc2 := 7) (E_iln d_R_addPack_2 rfl) (E_fI f_R_207 ho (pc1 := 4) (E_aln d_R_addPack_3 rfl) d_R_addPack_4) d_R_addPack_7 rfl)
    (S_sq (pc1 := 27) (S_AI (pc1 := 14) (pc2 := 22) (pc3 := 26) (E_fR f_R_59 ho (pc1 := 11) (E_aln d_R_addPack_10 rfl) d_R_addPack_11) (E_aI (pc1 := 18) (pc2 := 21) (E_fR f_R_65 ho (pc1 := 15) (E_aln d_R_addPack_14 rfl) d_R_addPack_15) (E_iadd (pc1 := 19) (pc2 := 20) (E_iln d_R_addPack_18 rfl) (E_iln d_R_addPack_19 rfl) d_R_addPack_20) d_R_addPack_21) (E_fI f_R_210 ho (pc1 := 23) (E_aln d_R_addPack_22 rfl) d_R_addPack_23) d_R_addPack_26)
    (S_AI (pc1 := 31) (pc2 := 39) (pc3 := 40) (E_fR f_R_62 ho (pc1 := 28) (E_aln d_R_addPack_27 rfl) d_R_addPack_28) (E_aI (pc1 := 35) (pc2 := 38) (E_fR f_R_65 ho (pc1 := 32) (E_aln d_R_addPack_31 rfl) d_R_addPack_32) (E_iadd (pc1 := 36) (pc2 := 37) (E_iln d_R_addPack_35 rfl) (E_iln d_R_addPack_36 rfl) d_R_addPack_37) d_R_addPack_38) (E_iln d_R_addPack_39 rfl) d_R_addPack_40))
    (S_Inc d_R_addPack_41 rfl) d_R_addPack_44 rfl)))
    (S_sq (pc1 := 57) (S_FO f_R_210 f_R_210 ho (pc1 := 48) (pc2 := 53) (E_aln d_R_addPack_47 rfl) d_R_addPack_48 d_R_addPack_49 (E_ic d_R_addPack_52 rfl) (fun _ _ _ _ _ k => r_iadd d_R_addPack_53 k) d_R_addPack_54)
    (S_rv hrt d_R_addPack_57)))
theorem d_R_waitBoth_0 : decode prog_12_method_35_code 0 = .ok (.aload_n 0, 1) := by decide +kernel
theorem d_R_waitBoth_1 : decode prog_12_method_35_code 1 = .ok (.getfield 65, 3) := by decide +kernel
theorem d_R_waitBoth_4 : decode prog_12_method_35_code 4 = .ok (.iload_n 1, 1) := by decide +kernel
theorem d_R_waitBoth_5 : decode prog_12_method_35_code 5 = .ok (.iaload, 1) := by decide +kernel
theorem d_R_waitBoth_6 : decode prog_12_method_35_code 6 = .ok (.istore_n 2, 1) := by decide +kernel
theorem d_R_waitBoth_7 : decode prog_12_method_35_code 7 = .ok (.iconst 4, 1) := by decide +kernel
theorem d_R_waitBoth_8 : decode prog_12_method_35_code 8 = .ok (.aload_n 0, 1) := by decide +kernel
theorem d_R_waitBoth_9 : decode prog_12_method_35_code 9 = .ok (.getfield 213, 3) := by decide +kernel
theorem d_R_waitBoth_12 : decode prog_12_method_35_code 12 = .ok (.imul, 1) := by decide +kernel
theorem d_R_waitBoth_13 : decode prog_12_method_35_code 13 = .ok (.istore_n 3, 1) := by decide +kernel
theorem d_R_waitBoth_14 : decode prog_12_method_35_code 14 = .ok (.iload_n 3, 1) := by decide +kernel
theorem d_R_waitBoth_15 : decode prog_12_method_35_code 15 = .ok (.iconst 4, 1) := by decide +kernel
theorem d_R_waitBoth_16 : decode prog_12_method_35_code 16 = .ok (.iadd, 1) := by decide +kernel
theorem d_R_waitBoth_17 : decode prog_12_method_35_code 17 = .ok (.istore 4, 2) := by decide +kernel
theorem d_R_waitBoth_19 : decode prog_12_method_35_code 19 = .ok (.iconst 0, 1) := by decide +kernel
theorem d_R_waitBoth_20 : decode prog_12_method_35_code 20 = .ok (.istore 5, 2) := by decide +kernel
theorem d_R_waitBoth_22 : decode prog_12_method_35_code 22 = .ok (.iload 5, 2) := by decide +kernel
theorem d_R_waitBoth_24 : decode prog_12_method_35_code 24 = .ok (.aload_n 0, 1) := by decide +kernel
theorem d_R_waitBoth_25 : decode prog_12_method_35_code 25 = .ok (.getfield 207, 3) := by decide +kernel
theorem d_R_waitBoth_28 : decode prog_12_method_35_code 28 = .ok (.if_icmp .ge 176, 3) := by decide +kernel
theorem d_R_waitBoth_31 : decode prog_12_method_35_code 31 = .ok (.aload_n 0, 1) := by decide +kernel
theorem d_R_waitBoth_32 : decode prog_12_method_35_code 32 = .ok (.getfield 65, 3) := by decide +kernel
theorem d_R_waitBoth_35 : decode prog_12_method_35_code 35 = .ok (.iload_n 1, 1) := by decide +kernel
theorem d_R_waitBoth_36 : decode prog_12_method_35_code 36 = .ok (.iload 5, 2) := by decide +kernel
theorem d_R_waitBoth_38 : decode prog_12_method_35_code 38 = .ok (.iadd, 1) := by decide +kernel
theorem d_R_waitBoth_39 : decode prog_12_method_35_code 39 = .ok (.iaload, 1) := by decide +kernel
theorem d_R_waitBoth_40 : decode prog_12_method_35_code 40 = .ok (.istore 6, 2) := by decide +kernel
theorem d_R_waitBoth_42 : decode prog_12_method_35_code 42 = .ok (.iload 5, 2) := by decide +kernel
theorem d_R_waitBoth_44 : decode prog_12_method_35_code 44 = .ok (.ifCond .le 29, 3) := by decide +kernel
theorem d_R_waitBoth_47 : decode prog_12_method_35_code 47 = .ok (.aload_n 0, 1) := by decide +kernel
theorem d_R_waitBoth_48 : decode prog_12_method_35_code 48 = .ok (.getfield 13, 3) := by decide +kernel
theorem d_R_waitBoth_51 : decode prog_12_method_35_code 51 = .ok (.iload 6, 2) := by decide +kernel
theorem d_R_waitBoth_53 : decode prog_12_method_35_code 53 = .ok (.iaload, 1) := by decide +kernel
theorem d_R_waitBoth_54 : decode prog_12_method_35_code 54 = .ok (.iconst 2, 1) := by decide +kernel
theorem d_R_waitBoth_55 : decode prog_12_method_35_code 55 = .ok (.if_icmp .eq 14, 3) := by decide +kernel
theorem d_R_waitBoth_58 : decode prog_12_method_35_code 58 = .ok (.aload_n 0, 1) := by decide +kernel
theorem d_R_waitBoth_59 : decode prog_12_method_35_code 59 = .ok (.getfield 13, 3) := by decide +kernel
theorem d_R_waitBoth_62 : decode prog_12_method_35_code 62 = .ok (.iload 6, 2) := by decide +kernel
theorem d_R_waitBoth_64 : decode prog_12_method_35_code 64 = .ok (.iaload, 1) := by decide +kernel
theorem d_R_waitBoth_65 : decode prog_12_method_35_code 65 = .ok (.iconst 4, 1) := by decide +kernel
theorem d_R_waitBoth_66 : decode prog_12_method_35_code 66 = .ok (.if_icmp .ne 7, 3) := by decide +kernel
theorem d_R_waitBoth_69 : decode prog_12_method_35_code 69 = .ok (.iconst 1, 1) := by decide +kernel
theorem d_R_waitBoth_70 : decode prog_12_method_35_code 70 = .ok (.goto 4, 3) := by decide +kernel
theorem d_R_waitBoth_73 : decode prog_12_method_35_code 73 = .ok (.iconst 0, 1) := by decide +kernel
theorem d_R_waitBoth_74 : decode prog_12_method_35_code 74 = .ok (.istore 7, 2) := by decide +kernel
theorem d_R_waitBoth_76 : decode prog_12_method_35_code 76 = .ok (.aload_n 0, 1) := by decide +kernel
theorem d_R_waitBoth_77 : decode prog_12_method_35_code 77 = .ok (.getfield 13, 3) := by decide +kernel
theorem d_R_waitBoth_80 : decode prog_12_method_35_code 80 = .ok (.aload_n 0, 1) := by decide +kernel
theorem d_R_waitBoth_81 : decode prog_12_method_35_code 81 = .ok (.getfield 16, 3) := by decide +kernel
theorem d_R_waitBoth_84 : decode prog_12_method_35_code 84 = .ok (.iload_n 2, 1) := by decide +kernel
theorem d_R_waitBoth_85 : decode prog_12_method_35_code 85 = .ok (.iaload, 1) := by decide +kernel
theorem d_R_waitBoth_86 : decode prog_12_method_35_code 86 = .ok (.iaload, 1) := by decide +kernel
theorem d_R_waitBoth_87 : decode prog_12_method_35_code 87 = .ok (.istore 8, 2) := by decide +kernel
theorem d_R_waitBoth_89 : decode prog_12_method_35_code 89 = .ok (.iload 7, 2) := by decide +kernel
theorem d_R_waitBoth_91 : decode prog_12_method_35_code 91 = .ok (.ifCond .eq 41, 3) := by decide +kernel
theorem d_R_waitBoth_94 : decode prog_12_method_35_code 94 = .ok (.aload_n 0, 1) := by decide +kernel
theorem d_R_waitBoth_95 : decode prog_12_method_35_code 95 = .ok (.getfield 13, 3) := by decide +kernel
theorem d_R_waitBoth_98 : decode prog_12_method_35_code 98 = .ok (.aload_n 0, 1) := by decide +kernel
theorem d_R_waitBoth_99 : decode prog_12_method_35_code 99 = .ok (.getfield 16, 3) := by decide +kernel
theorem d_R_waitBoth_102 : decode prog_12_method_35_code 102 = .ok (.iload 6, 2) := by decide +kernel
theorem d_R_waitBoth_104 : decode prog_12_method_35_code 104 = .ok (.iaload, 1) := by decide +kernel
theorem d_R_waitBoth_105 : decode prog_12_method_35_code 105 = .ok (.iaload, 1) := by decide +kernel
theorem d_R_waitBoth_106 : decode prog_12_method_35_code 106 = .ok (.iload 8, 2) := by decide +kernel
theorem d_R_waitBoth_108 : decode prog_12_method_35_code 108 = .ok (.if_icmp .eq 24, 3) := by decide +kernel
theorem d_R_waitBoth_111 : decode prog_12_method_35_code 111 = .ok (.aload_n 0, 1) := by decide +kernel
theorem d_R_waitBoth_112 : decode prog_12_method_35_code 112 = .ok (.getfield 13, 3) := by decide +kernel
theorem d_R_waitBoth_115 : decode prog_12_method_35_code 115 = .ok (.aload_n 0, 1) := by decide +kernel
theorem d_R_waitBoth_116 : decode prog_12_method_35_code 116 = .ok (.getfield 19, 3) := by decide +kernel
theorem d_R_waitBoth_119 : decode prog_12_method_35_code 119 = .ok (.iload 6, 2) := by decide +kernel
theorem d_R_waitBoth_121 : decode prog_12_method_35_code 121 = .ok (.iaload, 1) := by decide +kernel
theorem d_R_waitBoth_122 : decode prog_12_method_35_code 122 = .ok (.iaload, 1) := by decide +kernel
theorem d_R_waitBoth_123 : decode prog_12_method_35_code 123 = .ok (.iload 8, 2) := by decide +kernel
theorem d_R_waitBoth_125 : decode prog_12_method_35_code 125 = .ok (.if_icmp .ne 7, 3) := by decide +kernel
theorem d_R_waitBoth_128 : decode prog_12_method_35_code 128 = .ok (.iconst 1, 1) := by decide +kernel
theorem d_R_waitBoth_129 : decode prog_12_method_35_code 129 = .ok (.goto 4, 3) := by decide +kernel
theorem d_R_waitBoth_132 : decode prog_12_method_35_code 132 = .ok (.iconst 0, 1) := by decide +kernel
theorem d_R_waitBoth_133 : decode prog_12_method_35_code 133 = .ok (.istore 9, 2) := by decide +kernel
theorem d_R_waitBoth_135 : decode prog_12_method_35_code 135 = .ok (.aload_n 0, 1) := by decide +kernel
theorem d_R_waitBoth_136 : decode prog_12_method_35_code 136 = .ok (.getfield 65, 3) := by decide +kernel
theorem d_R_waitBoth_139 : decode prog_12_method_35_code 139 = .ok (.iload_n 3, 1) := by decide +kernel
theorem d_R_waitBoth_140 : decode prog_12_method_35_code 140 = .ok (.iload 5, 2) := by decide +kernel
theorem d_R_waitBoth_142 : decode prog_12_method_35_code 142 = .ok (.iadd, 1) := by decide +kernel
theorem d_R_waitBoth_143 : decode prog_12_method_35_code 143 = .ok (.iload 9, 2) := by decide +kernel
theorem d_R_waitBoth_145 : decode prog_12_method_35_code 145 = .ok (.ifCond .eq 13, 3) := by decide +kernel
theorem d_R_waitBoth_148 : decode prog_12_method_35_code 148 = .ok (.aload_n 0, 1) := by decide +kernel
theorem d_R_waitBoth_149 : decode prog_12_method_35_code 149 = .ok (.getfield 19, 3) := by decide +kernel
theorem d_R_waitBoth_152 : decode prog_12_method_35_code 152 = .ok (.iload 6, 2) := by decide +kernel
theorem d_R_waitBoth_154 : decode prog_12_method_35_code 154 = .ok (.iaload, 1) := by decide +kernel
theorem d_R_waitBoth_155 : decode prog_12_method_35_code 155 = .ok (.goto 10, 3) := by decide +kernel
theorem d_R_waitBoth_158 : decode prog_12_method_35_code 158 = .ok (.aload_n 0, 1) := by decide +kernel
theorem d_R_waitBoth_159 : decode prog_12_method_35_code 159 = .ok (.getfield 16, 3) := by decide +kernel
theorem d_R_waitBoth_162 : decode prog_12_method_35_code 162 = .ok (.iload 6, 2) := by decide +kernel
theorem d_R_waitBoth_164 : decode prog_12_method_35_code 164 = .ok (.iaload, 1) := by decide +kernel
theorem d_R_waitBoth_165 : decode prog_12_method_35_code 165 = .ok (.iastore, 1) := by decide +kernel
theorem d_R_waitBoth_166 : decode prog_12_method_35_code 166 = .ok (.aload_n 0, 1) := by decide +kernel
theorem d_R_waitBoth_167 : decode prog_12_method_35_code 167 = .ok (.getfield 65, 3) := by decide +kernel
theorem d_R_waitBoth_170 : decode prog_12_method_35_code 170 = .ok (.iload 4, 2) := by decide +kernel
theorem d_R_waitBoth_172 : decode prog_12_method_35_code 172 = .ok (.iload 5, 2) := by decide +kernel
theorem d_R_waitBoth_174 : decode prog_12_method_35_code 174 = .ok (.iadd, 1) := by decide +kernel
theorem d_R_waitBoth_175 : decode prog_12_method_35_code 175 = .ok (.iload 9, 2) := by decide +kernel
theorem d_R_waitBoth_177 : decode prog_12_method_35_code 177 = .ok (.ifCond .eq 13, 3) := by decide +kernel
theorem d_R_waitBoth_180 : decode prog_12_method_35_code 180 = .ok (.aload_n 0, 1) := by decide +kernel
theorem d_R_waitBoth_181 : decode prog_12_method_35_code 181 = .ok (.getfield 16, 3) := by decide +kernel
theorem d_R_waitBoth_184 : decode prog_12_method_35_code 184 = .ok (.iload 6, 2) := by decide +kernel
theorem d_R_waitBoth_186 : decode prog_12_method_35_code 186 = .ok (.iaload, 1) := by decide +kernel
theorem d_R_waitBoth_187 : decode prog_12_method_35_code 187 = .ok (.goto 10, 3) := by decide +kernel
theorem d_R_waitBoth_190 : decode prog_12_method_35_code 190 = .ok (.aload_n 0, 1) := by decide +kernel
theorem d_R_waitBoth_191 : decode prog_12_method_35_code 191 = .ok (.getfield 19, 3) := by decide +kernel
theorem d_R_waitBoth_194 : decode prog_12_method_35_code 194 = .ok (.iload 6, 2) := by decide +kernel
theorem d_R_waitBoth_196 : decode prog_12_method_35_code 196 = .ok (.iaload, 1) := by decide +kernel
theorem d_R_waitBoth_197 : decode prog_12_method_35_code 197 = .ok (.iastore, 1) := by decide +kernel
theorem d_R_waitBoth_198 : decode prog_12_method_35_code 198 = .ok (.iinc 5 1, 3) := by decide +kernel
theorem d_R_waitBoth_201 : decode prog_12_method_35_code 201 = .ok (.goto (-179), 3) := by decide +kernel
theorem d_R_waitBoth_204 : decode prog_12_method_35_code 204 = .ok (.aload_n 0, 1) := by decide +kernel
theorem d_R_waitBoth_205 : decode prog_12_method_35_code 205 = .ok (.dup, 1) := by decide +kernel
theorem d_R_waitBoth_206 : decode prog_12_method_35_code 206 = .ok (.getfield 213, 3) := by decide +kernel
theorem d_R_waitBoth_209 : decode prog_12_method_35_code 209 = .ok (.iconst 2, 1) := by decide +kernel
theorem d_R_waitBoth_210 : decode prog_12_method_35_code 210 = .ok (.iadd, 1) := by decide +kernel
theorem d_R_waitBoth_211 : decode prog_12_method_35_code 211 = .ok (.putfield 213, 3) := by decide +kernel
theorem d_R_waitBoth_214 : decode prog_12_method_35_code 214 = .ok (.return_, 1) := by decide +kernel
def B_R_waitBoth (_ : Nat × Nat) : PS :=
  (sSq (sI 2 (eAI (eFR 10 30 (eR 0)) (eI 1)))
    (sSq (sI 3 (e2 (fun x y : Int32 => x * y) (eV (4 : Int32)) (eFI 10 31 (eR 0))))
    (sSq (sI 4 (e2 (fun x y : Int32 => x + y) (eI 3) (eV (4 : Int32))))
    (sSq (sCut 5 (sSq (sI 5 (eV (0 : Int32)))
    (sLp 6 (e2 (fun x y : Int32 => decide (x < y)) (eI 5) (eFI 10 19 (eR 0)))
    (sCut 6 (sSq (sI 6 (eAI (eFR 10 30 (eR 0)) (e2 (fun x y : Int32 => x + y) (eI 1) (eI 5))))
    (sSq (sI 7 (eC (cA (e1 (fun x : Int32 => decide (0 < x)) (eI 5)) (cO (e2 (fun x y : Int32 => decide (x = y)) (eAI (eFR 10 3 (eR 0)) (eI 6)) (eV (2 : Int32))) (e2 (fun x y : Int32 => decide (x = y)) (eAI (eFR 10 3 (eR 0)) (eI 6)) (eV (4 : Int32)))))))
    (sSq (sI 8 (eAI (eFR 10 3 (eR 0)) (eAI (eFR 10 4 (eR 0)) (eI 2))))
    (sSq (sI 9 (eC (cA (cA (e1 (fun x : Int32 => decide (¬ x = 0)) (eI 7)) (e2 (fun x y : Int32 => decide (¬ x = y)) (eAI (eFR 10 3 (eR 0)) (eAI (eFR 10 4 (eR 0)) (eI 6))) (eI 8))) (e2 (fun x y : Int32 => decide (x = y)) (eAI (eFR 10 3 (eR 0)) (eAI (eFR 10 5 (eR 0)) (eI 6))) (eI 8)))))
    (sSq (sAI (eFR 10 30 (eR 0)) (e2 (fun x y : Int32 => x + y) (eI 3) (eI 5)) (eIf (e1 (fun x : Int32 => decide (¬ x = 0)) (eI 9)) (eAI (eFR 10 5 (eR 0)) (eI 6)) (eAI (eFR 10 4 (eR 0)) (eI 6))))
    (sAI (eFR 10 30 (eR 0)) (e2 (fun x y : Int32 => x + y) (eI 4) (eI 5)) (eIf (e1 (fun x : Int32 => decide (¬ x = 0)) (eI 9)) (eAI (eFR 10 4 (eR 0)) (eI 6)) (eAI (eFR 10 5 (eR 0)) (eI 6))))))))))
    (sInc 5 (1)))))
    (sSq (sFO 10 31 (fun x y : Int32 => x + y) (eR 0) (eV (2 : Int32)))
    sRv)))))
def X_R_waitBoth : PM := fun vs h Q => (lx vs).length ≤ 10 ∧ B_R_waitBoth (h.length + 0, hsz h + 0) (fun _ _ => False) (fun _ _ => False) (fun _ _ => False) Q (lini 10 vs) h
theorem v_R_waitBoth (l : Launch) : Ctr l y_R_waitBoth prog_12_method_35_code 10 none rm_R_waitBoth X_R_waitBoth := by
  refine Ctr_of (own := "PackLanesModel") (B := B_R_waitBoth) (KR := fun _ Q => Q) (by decide) rfl (fun _ _ _ z => z) (fun _ _ _ _ z => ⟨Or.inl ⟨rfl, rfl⟩, z⟩) (Or.inl rfl) (fun κ hl ho hR hrt hn0 => ?_)
  subst hl
  unfold B_R_waitBoth
  exact (S_sq (pc1 := 7) (S_In (pc1 := 6) (E_aI (pc1 := 4) (pc2 := 5) (E_fR f_R_65 ho (pc1 := 1) (E_aln d_R_waitBoth_0 rfl) d_R_waitBoth_1) (E_iln d_R_waitBoth_4 rfl) d_R_waitBoth_5) d_R_waitBoth_6 rfl)
    (S_sq (pc1 := 14) (S_In (pc1 := 13) (E_imul (pc1 := 8) (pc2 := 12) (E_ic d_R_waitBoth_7 rfl) (E_fI f_R_213 ho (pc1 := 9) (E_aln d_R_waitBoth_8 rfl) d_R_waitBoth_9) d_R_waitBoth_12) d_R_waitBoth_13 rfl)
    (S_sq (pc1 := 19) (S_I (pc1 := 17) (E_iadd (pc1 := 15) (pc2 := 16) (E_iln d_R_waitBoth_14 rfl) (E_ic d_R_waitBoth_15 rfl) d_R_waitBoth_16) d_R_waitBoth_17)
    (S_sq (pc1 := 204) (S_cut (S_sq (pc1 := 22) (S_I (pc1 := 20) (E_ic d_R_waitBoth_19 rfl) d_R_waitBoth_20)
    (S_lp (pT := 31) (pF := 204) (pS := 198) (pG := 201) (J2_lt (pF := 204) (pc1 := 24) (pc2 := 28) (E_il d_R_waitBoth_22) (E_fI f_R_207 ho (pc1 := 25) (E_aln d_R_waitBoth_24 rfl) d_R_waitBoth_25) d_R_waitBoth_28 rfl)
    (S_cut (S_sq (pc1 := 42) (S_I (pc1 := 40) (E_aI (pc1 := 35) (pc2 := 39) (E_fR f_R_65 ho (pc1 := 32) (E_aln d_R_waitBoth_31 rfl) d_R_waitBoth_32) (E_iadd (pc1 := 36) (pc2 := 38) (E_iln d_R_waitBoth_35 rfl) (E_il d_R_waitBoth_36) d_R_waitBoth_38) d_R_waitBoth_39) d_R_waitBoth_40)
    (S_sq (pc1 := 76) (S_I (pc1 := 74) (E_C (pT := 69) (pF := 73) (pc2 := 74) (C_and (pc1 := 47) (J1_gt (pF := 73) (pc2 := 44) (E_il d_R_waitBoth_42) d_R_waitBoth_44 rfl) (C_or (pc1 := 58) (T2_eq (pT := 69) (pc1 := 54) (pc2 := 55) (E_aI (pc1 := 51) (pc2 := 53) (E_fR f_R_13 ho (pc1 := 48) (E_aln d_R_waitBoth_47 rfl) d_R_waitBoth_48) (E_il d_R_waitBoth_51) d_R_waitBoth_53) (E_ic d_R_waitBoth_54 rfl) d_R_waitBoth_55 rfl) (J2_eq (pF := 73) (pc1 := 65) (pc2 := 66) (E_aI (pc1 := 62) (pc2 := 64) (E_fR f_R_13 ho (pc1 := 59) (E_aln d_R_waitBoth_58 rfl) d_R_waitBoth_59) (E_il d_R_waitBoth_62) d_R_waitBoth_64) (E_ic d_R_waitBoth_65 rfl) d_R_waitBoth_66 rfl))) d_R_waitBoth_69 d_R_waitBoth_70 rfl d_R_waitBoth_73 rfl) d_R_waitBoth_74)
    (S_sq (pc1 := 89) (S_I (pc1 := 87) (E_aI (pc1 := 80) (pc2 := 86) (E_fR f_R_13 ho (pc1 := 77) (E_aln d_R_waitBoth_76 rfl) d_R_waitBoth_77) (E_aI (pc1 := 84) (pc2 := 85) (E_fR f_R_16 ho (pc1 := 81) (E_aln d_R_waitBoth_80 rfl) d_R_waitBoth_81) (E_iln d_R_waitBoth_84 rfl) d_R_waitBoth_85) d_R_waitBoth_86) d_R_waitBoth_87)
    (S_sq (pc1 := 135) (S_I (pc1 := 133) (E_C (pT := 128) (pF := 132) (pc2 := 133) (C_and (pc1 := 111) (C_and (pc1 := 94) (J1_ne (pF := 132) (pc2 := 91) (E_il d_R_waitBoth_89) d_R_waitBoth_91 rfl) (J2_ne (pF := 132) (pc1 := 106) (pc2 := 108) (E_aI (pc1 := 98) (pc2 := 105) (E_fR f_R_13 ho (pc1 := 95) (E_aln d_R_waitBoth_94 rfl) d_R_waitBoth_95) (E_aI (pc1 := 102) (pc2 := 104) (E_fR f_R_16 ho (pc1 := 99) (E_aln d_R_waitBoth_98 rfl) d_R_waitBoth_99) (E_il d_R_waitBoth_102) d_R_waitBoth_104) d_R_waitBoth_105) (E_il d_R_waitBoth_106) d_R_waitBoth_108 rfl)) (J2_eq (pF := 132) (pc1 := 123) (pc2 := 125) (E_aI (pc1 := 115) (pc2 := 122) (E_fR f_R_13 ho (pc1 := 112) (E_aln d_R_waitBoth_111 rfl) d_R_waitBoth_112) (E_aI (pc1 := 119) (pc2 := 121) (E_fR f_R_19 ho (pc1 := 116) (E_aln d_R_waitBoth_115 rfl) d_R_waitBoth_116) (E_il d_R_waitBoth_119) d_R_waitBoth_121) d_R_waitBoth_122) (E_il d_R_waitBoth_123) d_R_waitBoth_125 rfl)) d_R_waitBoth_128 d_R_waitBoth_129 rfl d_R_waitBoth_132 rfl) d_R_waitBoth_133)
    (S_sq (pc1 := 166) (S_AI (pc1 := 139) (pc2 := 143) (pc3 := 165) (E_fR f_R_65 ho (pc1 := 136) (E_aln d_R_waitBoth_135 rfl) d_R_waitBoth_136) (E_iadd (pc1 := 140) (pc2 := 142) (E_iln d_R_waitBoth_139 rfl) (E_il d_R_waitBoth_140) d_R_waitBoth_142) (E_if (pT := 148) (pF := 158) (pc1 := 155) (pc2 := 165) (J1_ne (pF := 158) (pc2 := 145) (E_il d_R_waitBoth_143) d_R_waitBoth_145 rfl) (E_aI (pc1 := 152) (pc2 := 154) (E_fR f_R_19 ho (pc1 := 149) (E_aln d_R_waitBoth_148 rfl) d_R_waitBoth_149) (E_il d_R_waitBoth_152) d_R_waitBoth_154) d_R_waitBoth_155 rfl (E_aI (pc1 := 162) (pc2 := 164) (E_fR f_R_16 ho (pc1 := 159) (E_aln d_R_waitBoth_158 rfl) d_R_waitBoth_159) (E_il d_R_waitBoth_162) d_R_waitBoth_164)) d_R_waitBoth_165)
    (S_AI (pc1 := 170) (pc2 := 175) (pc3 := 197) (E_fR f_R_65 ho (pc1 := 167) (E_aln d_R_waitBoth_166 rfl) d_R_waitBoth_167) (E_iadd (pc1 := 172) (pc2 := 174) (E_il d_R_waitBoth_170) (E_il d_R_waitBoth_172) d_R_waitBoth_174) (E_if (pT := 180) (pF := 190) (pc1 := 187) (pc2 := 197) (J1_ne (pF := 190) (pc2 := 177) (E_il d_R_waitBoth_175) d_R_waitBoth_177 rfl) (E_aI (pc1 := 184) (pc2 := 186) (E_fR f_R_16 ho (pc1 := 181) (E_aln d_R_waitBoth_180 rfl) d_R_waitBoth_181) (E_il d_R_waitBoth_184) d_R_waitBoth_186) d_R_waitBoth_187 rfl (E_aI (pc1 := 194) (pc2 := 196) (E_fR f_R_19 ho (pc1 := 191) (E_aln d_R_waitBoth_190 rfl) d_R_waitBoth_191) (E_il d_R_waitBoth_194) d_R_waitBoth_196)) d_R_waitBoth_197)))))))
    (S_Inc d_R_waitBoth_198 rfl) d_R_waitBoth_201 rfl)))
    (S_sq (pc1 := 214) (S_FO f_R_213 f_R_213 ho (pc1 := 205) (pc2 := 210) (E_aln d_R_waitBoth_204 rfl) d_R_waitBoth_205 d_R_waitBoth_206 (E_ic d_R_waitBoth_209 rfl) (fun _ _ _ _ _ k => r_iadd d_R_waitBoth_210 k) d_R_waitBoth_211)
    (S_rv hrt d_R_waitBoth_214))))))
theorem d_R_isTreePack_0 : decode prog_12_method_36_code 0 = .ok (.iconst 1, 1) := by decide +kernel
theorem d_R_isTreePack_1 : decode prog_12_method_36_code 1 = .ok (.istore_n 2, 1) := by decide +kernel
theorem d_R_isTreePack_2 : decode prog_12_method_36_code 2 = .ok (.iconst 0, 1) := by decide +kernel
theorem d_R_isTreePack_3 : decode prog_12_method_36_code 3 = .ok (.istore_n 3, 1) := by decide +kernel
theorem d_R_isTreePack_4 : decode prog_12_method_36_code 4 = .ok (.iload_n 3, 1) := by decide +kernel
theorem d_R_isTreePack_5 : decode prog_12_method_36_code 5 = .ok (.aload_n 0, 1) := by decide +kernel
theorem d_R_isTreePack_6 : decode prog_12_method_36_code 6 = .ok (.getfield 207, 3) := by decide +kernel
theorem d_R_isTreePack_9 : decode prog_12_method_36_code 9 = .ok (.if_icmp .ge 73, 3) := by decide +kernel
theorem d_R_isTreePack_12 : decode prog_12_method_36_code 12 = .ok (.aload_n 0, 1) := by decide +kernel
theorem d_R_isTreePack_13 : decode prog_12_method_36_code 13 = .ok (.getfield 65, 3) := by decide +kernel
theorem d_R_isTreePack_16 : decode prog_12_method_36_code 16 = .ok (.iload_n 1, 1) := by decide +kernel
theorem d_R_isTreePack_17 : decode prog_12_method_36_code 17 = .ok (.iload_n 3, 1) := by decide +kernel
theorem d_R_isTreePack_18 : decode prog_12_method_36_code 18 = .ok (.iadd, 1) := by decide +kernel
theorem d_R_isTreePack_19 : decode prog_12_method_36_code 19 = .ok (.iaload, 1) := by decide +kernel
theorem d_R_isTreePack_20 : decode prog_12_method_36_code 20 = .ok (.istore 4, 2) := by decide +kernel
theorem d_R_isTreePack_22 : decode prog_12_method_36_code 22 = .ok (.iload_n 2, 1) := by decide +kernel
theorem d_R_isTreePack_23 : decode prog_12_method_36_code 23 = .ok (.ifCond .eq 51, 3) := by decide +kernel
theorem d_R_isTreePack_26 : decode prog_12_method_36_code 26 = .ok (.aload_n 0, 1) := by decide +kernel
theorem d_R_isTreePack_27 : decode prog_12_method_36_code 27 = .ok (.getfield 59, 3) := by decide +kernel
theorem d_R_isTreePack_30 : decode prog_12_method_36_code 30 = .ok (.iload 4, 2) := by decide +kernel
theorem d_R_isTreePack_32 : decode prog_12_method_36_code 32 = .ok (.iaload, 1) := by decide +kernel
theorem d_R_isTreePack_33 : decode prog_12_method_36_code 33 = .ok (.bipush (-9), 2) := by decide +kernel
theorem d_R_isTreePack_35 : decode prog_12_method_36_code 35 = .ok (.if_icmp .eq 39, 3) := by decide +kernel
theorem d_R_isTreePack_38 : decode prog_12_method_36_code 38 = .ok (.aload_n 0, 1) := by decide +kernel
theorem d_R_isTreePack_39 : decode prog_12_method_36_code 39 = .ok (.getfield 59, 3) := by decide +kernel
theorem d_R_isTreePack_42 : decode prog_12_method_36_code 42 = .ok (.iload 4, 2) := by decide +kernel
theorem d_R_isTreePack_44 : decode prog_12_method_36_code 44 = .ok (.iaload, 1) := by decide +kernel
theorem d_R_isTreePack_45 : decode prog_12_method_36_code 45 = .ok (.aload_n 0, 1) := by decide +kernel
theorem d_R_isTreePack_46 : decode prog_12_method_36_code 46 = .ok (.getfield 59, 3) := by decide +kernel
theorem d_R_isTreePack_49 : decode prog_12_method_36_code 49 = .ok (.aload_n 0, 1) := by decide +kernel
theorem d_R_isTreePack_50 : decode prog_12_method_36_code 50 = .ok (.getfield 65, 3) := by decide +kernel
theorem d_R_isTreePack_53 : decode prog_12_method_36_code 53 = .ok (.iload_n 1, 1) := by decide +kernel
theorem d_R_isTreePack_54 : decode prog_12_method_36_code 54 = .ok (.iaload, 1) := by decide +kernel
theorem d_R_isTreePack_55 : decode prog_12_method_36_code 55 = .ok (.iaload, 1) := by decide +kernel
theorem d_R_isTreePack_56 : decode prog_12_method_36_code 56 = .ok (.if_icmp .ne 18, 3) := by decide +kernel
theorem d_R_isTreePack_59 : decode prog_12_method_36_code 59 = .ok (.aload_n 0, 1) := by decide +kernel
theorem d_R_isTreePack_60 : decode prog_12_method_36_code 60 = .ok (.getfield 62, 3) := by decide +kernel
theorem d_R_isTreePack_63 : decode prog_12_method_36_code 63 = .ok (.iload 4, 2) := by decide +kernel
theorem d_R_isTreePack_65 : decode prog_12_method_36_code 65 = .ok (.iaload, 1) := by decide +kernel
theorem d_R_isTreePack_66 : decode prog_12_method_36_code 66 = .ok (.iload_n 3, 1) := by decide +kernel
theorem d_R_isTreePack_67 : decode prog_12_method_36_code 67 = .ok (.if_icmp .ne 7, 3) := by decide +kernel
theorem d_R_isTreePack_70 : decode prog_12_method_36_code 70 = .ok (.iconst 1, 1) := by decide +kernel
theorem d_R_isTreePack_71 : decode prog_12_method_36_code 71 = .ok (.goto 4, 3) := by decide +kernel
theorem d_R_isTreePack_74 : decode prog_12_method_36_code 74 = .ok (.iconst 0, 1) := by decide +kernel
theorem d_R_isTreePack_75 : decode prog_12_method_36_code 75 = .ok (.istore_n 2, 1) := by decide +kernel
theorem d_R_isTreePack_76 : decode prog_12_method_36_code 76 = .ok (.iinc 3 1, 3) := by decide +kernel
theorem d_R_isTreePack_79 : decode prog_12_method_36_code 79 = .ok (.goto (-75), 3) := by decide +kernel
theorem d_R_isTreePack_82 : decode prog_12_method_36_code 82 = .ok (.iload_n 2, 1) := by decide +kernel
theorem d_R_isTreePack_83 : decode prog_12_method_36_code 83 = .ok (.ireturn, 1) := by decide +kernel
def B_R_isTreePack (_ : Nat × Nat) : PS :=
  (sSq (sI 2 (eV (1 : Int32)))
    (sSq (sCut 3 (sSq (sI 3 (eV (0 : Int32)))
    (sLp 4 (e2 (fun x y : Int32 => decide (x < y)) (eI 3) (eFI 10 19 (eR 0)))
    (sCut 4 (sSq (sI 4 (eAI (eFR 10 30 (eR 0)) (e2 (fun x y : Int32 => x + y) (eI 1) (eI 3))))
    (sI 2 (eC (cA (cA (cA (e1 (fun x : Int32 => decide (¬ x = 0)) (eI 2)) (e2 (fun x y : Int32 => decide (¬ x = y)) (eAI (eFR 10 27 (eR 0)) (eI 4)) (eV (-9 : Int32)))) (e2 (fun x y : Int32 => decide (x = y)) (eAI (eFR 10 27 (eR 0)) (eI 4)) (eAI (eFR 10 27 (eR 0)) (eAI (eFR 10 30 (eR 0)) (eI 1))))) (e2 (fun x y : Int32 => decide (x = y)) (eAI (eFR 10 28 (eR 0)) (eI 4)) (eI 3)))))))
    (sInc 3 (1)))))
    (sRz (eI 2))))
def X_R_isTreePack : PM := fun vs h Q => (lx vs).length ≤ 5 ∧ B_R_isTreePack (h.length + 0, hsz h + 0) (fun _ _ => False) (fun _ _ => False) (fun _ _ => False) Q (lini 5 vs) h
theorem v_R_isTreePack (l : Launch) : Ctr l y_R_isTreePack prog_12_method_36_code 5 (some .boolean) rm_R_isTreePack X_R_isTreePack := by
  refine Ctr_of (own := "PackLanesModel") (B := B_R_isTreePack) (KR := fun _ Q => Q) (by decide) rfl (fun _ _ _ z => z) (fun _ _ _ _ z => ⟨Or.inl ⟨rfl, rfl⟩, z⟩) (Or.inr (Or.inr (Or.inl rfl))) (fun κ hl ho hR hrt hn0 => ?_)
  subst hl
  unfold B_R_isTreePack
  exact (S_sq (pc1 := 2) (S_In (pc1 := 1) (E_ic d_R_isTreePack_0 rfl) d_R_isTreePack_1 rfl)
    (S_sq (pc1 := 82) (S_cut (S_sq (pc1 := 4) (S_In (pc1 := 3) (E_ic d_R_isTreePack_2 rfl) d_R_isTreePack_3 rfl)
    (S_lp (pT := 12) (pF := 82) (pS := 76) (pG := 79) (J2_lt (pF := 82) (pc1 := 5) (pc2 := 9) (E_iln d_R_isTreePack_4 rfl) (E_fI f_R_207 ho (pc1 := 6) (E_aln d_R_isTreePack_5 rfl) d_R_isTreePack_6) d_R_isTreePack_9 rfl)
    (S_cut (S_sq (pc1 := 22) (S_I (pc1 := 20) (E_aI (pc1 := 16) (pc2 := 19) (E_fR f_R_65 ho (pc1 := 13) (E_aln d_R_isTreePack_12 rfl) d_R_isTreePack_13) (E_iadd (pc1 := 17) (pc2 := 18) (E_iln d_R_isTreePack_16 rfl) (E_iln d_R_isTreePack_17 rfl) d_R_isTreePack_18) d_R_isTreePack_19) d_R_isTreePack_20)
    (S_In (pc1 := 75) (E_C (pT := 70) (pF := 74) (pc2 := 75) (C_and (pc1 := 59) (C_and (pc1 := 38) (C_and (pc1 := 26) (J1_ne (pF := 74) (pc2 := 23) (E_iln d_R_isTreePack_22 rfl) d_R_isTreePack_23 rfl) (J2_ne (pF := 74) (pc1 := 33) (pc2 := 35) (E_aI (pc1 := 30) (pc2 := 32) (E_fR f_R_59 ho (pc1 := 27) (E_aln d_R_isTreePack_26 rfl) d_R_isTreePack_27) (E_il d_R_isTreePack_30) d_R_isTreePack_32) (E_bi d_R_isTreePack_33 rfl) d_R_isTreePack_35 rfl)) (J2_eq (pF := 74) (pc1 := 45) (pc2 := 56) (E_aI (pc1 := 42) (pc2 := 44) (E_fR f_R_59 ho (pc1 := 39) (E_aln d_R_isTreePack_38 rfl) d_R_isTreePack_39) (E_il d_R_isTreePack_42) d_R_isTreePack_44) (E_aI (pc1 := 49) (pc2 := 55) (E_fR f_R_59 ho (pc1 := 46) (E_aln d_R_isTreePack_45 rfl) d_R_isTreePack_46) (E_aI (pc1 := 53) (pc2 := 54) (E_fR f_R_65 ho (pc1 := 50) (E_aln d_R_isTreePack_49 rfl) d_R_isTreePack_50) (E_iln d_R_isTreePack_53 rfl) d_R_isTreePack_54) d_R_isTreePack_55) d_R_isTreePack_56 rfl)) (J2_eq (pF := 74) (pc1 := 66) (pc2 := 67) (E_aI (pc1 := 63) (pc2 := 65) (E_fR f_R_62 ho (pc1 := 60) (E_aln d_R_isTreePack_59 rfl) d_R_isTreePack_60) (E_il d_R_isTreePack_63) d_R_isTreePack_65) (E_iln d_R_isTreePack_66 rfl) d_R_isTreePack_67 rfl)) d_R_isTreePack_70 d_R_isTreePack_71 rfl d_R_isTreePack_74 rfl) d_R_isTreePack_75 rfl)))
    (S_Inc d_R_isTreePack_76 rfl) d_R_isTreePack_79 rfl)))
    (S_rz hrt (pc1 := 83) (E_iln d_R_isTreePack_82 rfl) d_R_isTreePack_83)))
theorem d_R_costOf_0 : decode prog_12_method_37_code 0 = .ok (.iconst 1, 1) := by decide +kernel
theorem d_R_costOf_1 : decode prog_12_method_37_code 1 = .ok (.istore_n 2, 1) := by decide +kernel
theorem d_R_costOf_2 : decode prog_12_method_37_code 2 = .ok (.iconst 1, 1) := by decide +kernel
theorem d_R_costOf_3 : decode prog_12_method_37_code 3 = .ok (.istore_n 3, 1) := by decide +kernel
theorem d_R_costOf_4 : decode prog_12_method_37_code 4 = .ok (.iconst 0, 1) := by decide +kernel
theorem d_R_costOf_5 : decode prog_12_method_37_code 5 = .ok (.istore 4, 2) := by decide +kernel
theorem d_R_costOf_7 : decode prog_12_method_37_code 7 = .ok (.iload 4, 2) := by decide +kernel
theorem d_R_costOf_9 : decode prog_12_method_37_code 9 = .ok (.aload_n 0, 1) := by decide +kernel
theorem d_R_costOf_10 : decode prog_12_method_37_code 10 = .ok (.getfield 207, 3) := by decide +kernel
theorem d_R_costOf_13 : decode prog_12_method_37_code 13 = .ok (.if_icmp .ge 65, 3) := by decide +kernel
theorem d_R_costOf_16 : decode prog_12_method_37_code 16 = .ok (.iload_n 2, 1) := by decide +kernel
theorem d_R_costOf_17 : decode prog_12_method_37_code 17 = .ok (.ifCond .eq 25, 3) := by decide +kernel
theorem d_R_costOf_20 : decode prog_12_method_37_code 20 = .ok (.aload_n 0, 1) := by decide +kernel
theorem d_R_costOf_21 : decode prog_12_method_37_code 21 = .ok (.getfield 65, 3) := by decide +kernel
theorem d_R_costOf_24 : decode prog_12_method_37_code 24 = .ok (.iload_n 1, 1) := by decide +kernel
theorem d_R_costOf_25 : decode prog_12_method_37_code 25 = .ok (.iload 4, 2) := by decide +kernel
theorem d_R_costOf_27 : decode prog_12_method_37_code 27 = .ok (.iadd, 1) := by decide +kernel
theorem d_R_costOf_28 : decode prog_12_method_37_code 28 = .ok (.iaload, 1) := by decide +kernel
theorem d_R_costOf_29 : decode prog_12_method_37_code 29 = .ok (.aload_n 0, 1) := by decide +kernel
theorem d_R_costOf_30 : decode prog_12_method_37_code 30 = .ok (.getfield 65, 3) := by decide +kernel
theorem d_R_costOf_33 : decode prog_12_method_37_code 33 = .ok (.iload_n 1, 1) := by decide +kernel
theorem d_R_costOf_34 : decode prog_12_method_37_code 34 = .ok (.iaload, 1) := by decide +kernel
theorem d_R_costOf_35 : decode prog_12_method_37_code 35 = .ok (.if_icmp .ne 7, 3) := by decide +kernel
theorem d_R_costOf_38 : decode prog_12_method_37_code 38 = .ok (.iconst 1, 1) := by decide +kernel
theorem d_R_costOf_39 : decode prog_12_method_37_code 39 = .ok (.goto 4, 3) := by decide +kernel
theorem d_R_costOf_42 : decode prog_12_method_37_code 42 = .ok (.iconst 0, 1) := by decide +kernel
theorem d_R_costOf_43 : decode prog_12_method_37_code 43 = .ok (.istore_n 2, 1) := by decide +kernel
theorem d_R_costOf_44 : decode prog_12_method_37_code 44 = .ok (.iload_n 3, 1) := by decide +kernel
theorem d_R_costOf_45 : decode prog_12_method_37_code 45 = .ok (.ifCond .eq 25, 3) := by decide +kernel
theorem d_R_costOf_48 : decode prog_12_method_37_code 48 = .ok (.aload_n 0, 1) := by decide +kernel
theorem d_R_costOf_49 : decode prog_12_method_37_code 49 = .ok (.getfield 13, 3) := by decide +kernel
theorem d_R_costOf_52 : decode prog_12_method_37_code 52 = .ok (.aload_n 0, 1) := by decide +kernel
theorem d_R_costOf_53 : decode prog_12_method_37_code 53 = .ok (.getfield 65, 3) := by decide +kernel
theorem d_R_costOf_56 : decode prog_12_method_37_code 56 = .ok (.iload_n 1, 1) := by decide +kernel
theorem d_R_costOf_57 : decode prog_12_method_37_code 57 = .ok (.iload 4, 2) := by decide +kernel
theorem d_R_costOf_59 : decode prog_12_method_37_code 59 = .ok (.iadd, 1) := by decide +kernel
theorem d_R_costOf_60 : decode prog_12_method_37_code 60 = .ok (.iaload, 1) := by decide +kernel
theorem d_R_costOf_61 : decode prog_12_method_37_code 61 = .ok (.iaload, 1) := by decide +kernel
theorem d_R_costOf_62 : decode prog_12_method_37_code 62 = .ok (.iconst 1, 1) := by decide +kernel
theorem d_R_costOf_63 : decode prog_12_method_37_code 63 = .ok (.if_icmp .ne 7, 3) := by decide +kernel
theorem d_R_costOf_66 : decode prog_12_method_37_code 66 = .ok (.iconst 1, 1) := by decide +kernel
theorem d_R_costOf_67 : decode prog_12_method_37_code 67 = .ok (.goto 4, 3) := by decide +kernel
theorem d_R_costOf_70 : decode prog_12_method_37_code 70 = .ok (.iconst 0, 1) := by decide +kernel
theorem d_R_costOf_71 : decode prog_12_method_37_code 71 = .ok (.istore_n 3, 1) := by decide +kernel
theorem d_R_costOf_72 : decode prog_12_method_37_code 72 = .ok (.iinc 4 1, 3) := by decide +kernel
theorem d_R_costOf_75 : decode prog_12_method_37_code 75 = .ok (.goto (-68), 3) := by decide +kernel
theorem d_R_costOf_78 : decode prog_12_method_37_code 78 = .ok (.iload_n 2, 1) := by decide +kernel
theorem d_R_costOf_79 : decode prog_12_method_37_code 79 = .ok (.ifCond .ne 7, 3) := by decide +kernel
theorem d_R_costOf_82 : decode prog_12_method_37_code 82 = .ok (.iload_n 3, 1) := by decide +kernel
theorem d_R_costOf_83 : decode prog_12_method_37_code 83 = .ok (.ifCond .eq 7, 3) := by decide +kernel
theorem d_R_costOf_86 : decode prog_12_method_37_code 86 = .ok (.iconst 1, 1) := by decide +kernel
theorem d_R_costOf_87 : decode prog_12_method_37_code 87 = .ok (.goto 7, 3) := by decide +kernel
theorem d_R_costOf_90 : decode prog_12_method_37_code 90 = .ok (.aload_n 0, 1) := by decide +kernel
theorem d_R_costOf_91 : decode prog_12_method_37_code 91 = .ok (.getfield 207, 3) := by decide +kernel
theorem d_R_costOf_94 : decode prog_12_method_37_code 94 = .ok (.ireturn, 1) := by decide +kernel
def B_R_costOf (_ : Nat × Nat) : PS :=
  (sSq (sI 2 (eV (1 : Int32)))
    (sSq (sI 3 (eV (1 : Int32)))
    (sSq (sCut 4 (sSq (sI 4 (eV (0 : Int32)))
    (sLp 5 (e2 (fun x y : Int32 => decide (x < y)) (eI 4) (eFI 10 19 (eR 0)))
    (sSq (sI 2 (eC (cA (e1 (fun x : Int32 => decide (¬ x = 0)) (eI 2)) (e2 (fun x y : Int32 => decide (x = y)) (eAI (eFR 10 30 (eR 0)) (e2 (fun x y : Int32 => x + y) (eI 1) (eI 4))) (eAI (eFR 10 30 (eR 0)) (eI 1))))))
    (sI 3 (eC (cA (e1 (fun x : Int32 => decide (¬ x = 0)) (eI 3)) (e2 (fun x y : Int32 => decide (x = y)) (eAI (eFR 10 3 (eR 0)) (eAI (eFR 10 30 (eR 0)) (e2 (fun x y : Int32 => x + y) (eI 1) (eI 4)))) (eV (1 : Int32)))))))
    (sInc 4 (1)))))
    (sRt .int (eIf (cO (e1 (fun x : Int32 => decide (¬ x = 0)) (eI 2)) (e1 (fun x : Int32 => decide (¬ x = 0)) (eI 3))) (eV (1 : Int32)) (eFI 10 19 (eR 0)))))))
def X_R_costOf : PM := fun vs h Q => (lx vs).length ≤ 5 ∧ B_R_costOf (h.length + 0, hsz h + 0) (fun _ _ => False) (fun _ _ => False) (fun _ _ => False) Q (lini 5 vs) h
theorem v_R_costOf (l : Launch) : Ctr l y_R_costOf prog_12_method_37_code 5 (some .int) rm_R_costOf X_R_costOf := by
  refine Ctr_of (own := "PackLanesModel") (B := B_R_costOf) (KR := fun _ Q => Q) (by decide) rfl (fun _ _ _ z => z) (fun _ _ _ _ z => ⟨Or.inl ⟨rfl, rfl⟩, z⟩) (Or.inr (Or.inl rfl)) (fun κ hl ho hR hrt hn0 => ?_)
  subst hl
  unfold B_R_costOf
  exact (S_sq (pc1 := 2) (S_In (pc1 := 1) (E_ic d_R_costOf_0 rfl) d_R_costOf_1 rfl)
    (S_sq (pc1 := 4) (S_In (pc1 := 3) (E_ic d_R_costOf_2 rfl) d_R_costOf_3 rfl)
    (S_sq (pc1 := 78) (S_cut (S_sq (pc1 := 7) (S_I (pc1 := 5) (E_ic d_R_costOf_4 rfl) d_R_costOf_5)
    (S_lp (pT := 16) (pF := 78) (pS := 72) (pG := 75) (J2_lt (pF := 78) (pc1 := 9) (pc2 := 13) (E_il d_R_costOf_7) (E_fI f_R_207 ho (pc1 := 10) (E_aln d_R_costOf_9 rfl) d_R_costOf_10) d_R_costOf_13 rfl)
    (S_sq (pc1 := 44) (S_In (pc1 := 43) (E_C (pT := 38) (pF := 42) (pc2 := 43) (C_and (pc1 := 20) (J1_ne (pF := 42) (pc2 := 17) (E_iln d_R_costOf_16 rfl) d_R_costOf_17 rfl) (J2_eq (pF := 42) (pc1 := 29) (pc2 := 35) (E_aI (pc1 := 24) (pc2 := 28) (E_fR f_R_65 ho (pc1 := 21) (E_aln d_R_costOf_20 rfl) d_R_costOf_21) (E_iadd (pc1 := 25) (pc2 := 27) (E_iln d_R_costOf_24 rfl) (E_il d_R_costOf_25) d_R_costOf_27) d_R_costOf_28) (E_aI (pc1 := 33) (pc2 := 34) (E_fR f_R_65 ho (pc1 := 30) (E_aln d_R_costOf_29 rfl) d_R_costOf_30) (E_iln d_R_costOf_33 rfl) d_R_costOf_34) d_R_costOf_35 rfl)) d_R_costOf_38 d_R_costOf_39 rfl d_R_costOf_42 rfl) d_R_costOf_43 rfl)
    (S_In (pc1 := 71) (E_C (pT := 66) (pF := 70) (pc2 := 71) (C_and (pc1 := 48) (J1_ne (pF := 70) (pc2 := 45) (E_iln d_R_costOf_44 rfl) d_R_costOf_45 rfl) (J2_eq (pF := 70) (pc1 := 62) (pc2 := 63) (E_aI (pc1 := 52) (pc2 := 61) (E_fR f_R_13 ho (pc1 := 49) (E_aln d_R_costOf_48 rfl) d_R_costOf_49) (E_aI (pc1 := 56) (pc2 := 60) (E_fR f_R_65 ho (pc1 := 53) (E_aln d_R_costOf_52 rfl) d_R_costOf_53) (E_iadd (pc1 := 57) (pc2 := 59) (E_iln d_R_costOf_56 rfl) (E_il d_R_costOf_57) d_R_costOf_59) d_R_costOf_60) d_R_costOf_61) (E_ic d_R_costOf_62 rfl) d_R_costOf_63 rfl)) d_R_costOf_66 d_R_costOf_67 rfl d_R_costOf_70 rfl) d_R_costOf_71 rfl))
    (S_Inc d_R_costOf_72 rfl) d_R_costOf_75 rfl)))
    (S_ri hrt (pc1 := 94) (E_if (pT := 86) (pF := 90) (pc1 := 87) (pc2 := 94) (C_or (pc1 := 82) (T1_ne (pT := 86) (pc2 := 79) (E_iln d_R_costOf_78 rfl) d_R_costOf_79 rfl) (J1_ne (pF := 90) (pc2 := 83) (E_iln d_R_costOf_82 rfl) d_R_costOf_83 rfl)) (E_ic d_R_costOf_86 rfl) d_R_costOf_87 rfl (E_fI f_R_207 ho (pc1 := 91) (E_aln d_R_costOf_90 rfl) d_R_costOf_91)) d_R_costOf_94))))
theorem d_R_look_0 : decode prog_12_method_38_code 0 = .ok (.aload_n 0, 1) := by decide +kernel
theorem d_R_look_1 : decode prog_12_method_38_code 1 = .ok (.iload_n 1, 1) := by decide +kernel
theorem d_R_look_2 : decode prog_12_method_38_code 2 = .ok (.invokevirtual 216, 3) := by decide +kernel
theorem d_R_look_5 : decode prog_12_method_38_code 5 = .ok (.ifCond .eq 38, 3) := by decide +kernel
theorem d_R_look_8 : decode prog_12_method_38_code 8 = .ok (.aload_n 0, 1) := by decide +kernel
theorem d_R_look_9 : decode prog_12_method_38_code 9 = .ok (.iload_n 1, 1) := by decide +kernel
theorem d_R_look_10 : decode prog_12_method_38_code 10 = .ok (.invokevirtual 219, 3) := by decide +kernel
theorem d_R_look_13 : decode prog_12_method_38_code 13 = .ok (.ifCond .eq 30, 3) := by decide +kernel
theorem d_R_look_16 : decode prog_12_method_38_code 16 = .ok (.aload_n 0, 1) := by decide +kernel
theorem d_R_look_17 : decode prog_12_method_38_code 17 = .ok (.iload_n 1, 1) := by decide +kernel
theorem d_R_look_18 : decode prog_12_method_38_code 18 = .ok (.invokevirtual 222, 3) := by decide +kernel
theorem d_R_look_21 : decode prog_12_method_38_code 21 = .ok (.aload_n 0, 1) := by decide +kernel
theorem d_R_look_22 : decode prog_12_method_38_code 22 = .ok (.getfield 13, 3) := by decide +kernel
theorem d_R_look_25 : decode prog_12_method_38_code 25 = .ok (.aload_n 0, 1) := by decide +kernel
theorem d_R_look_26 : decode prog_12_method_38_code 26 = .ok (.getfield 65, 3) := by decide +kernel
theorem d_R_look_29 : decode prog_12_method_38_code 29 = .ok (.iload_n 1, 1) := by decide +kernel
theorem d_R_look_30 : decode prog_12_method_38_code 30 = .ok (.iaload, 1) := by decide +kernel
theorem d_R_look_31 : decode prog_12_method_38_code 31 = .ok (.iaload, 1) := by decide +kernel
theorem d_R_look_32 : decode prog_12_method_38_code 32 = .ok (.ifCond .eq 68, 3) := by decide +kernel
theorem d_R_look_35 : decode prog_12_method_38_code 35 = .ok (.aload_n 0, 1) := by decide +kernel
theorem d_R_look_36 : decode prog_12_method_38_code 36 = .ok (.iload_n 1, 1) := by decide +kernel
theorem d_R_look_37 : decode prog_12_method_38_code 37 = .ok (.invokevirtual 226, 3) := by decide +kernel
theorem d_R_look_40 : decode prog_12_method_38_code 40 = .ok (.goto 60, 3) := by decide +kernel
theorem d_R_look_43 : decode prog_12_method_38_code 43 = .ok (.aload_n 0, 1) := by decide +kernel
theorem d_R_look_44 : decode prog_12_method_38_code 44 = .ok (.iload_n 1, 1) := by decide +kernel
theorem d_R_look_45 : decode prog_12_method_38_code 45 = .ok (.invokevirtual 229, 3) := by decide +kernel
theorem d_R_look_48 : decode prog_12_method_38_code 48 = .ok (.ifCond .ne 52, 3) := by decide +kernel
theorem d_R_look_51 : decode prog_12_method_38_code 51 = .ok (.aload_n 0, 1) := by decide +kernel
theorem d_R_look_52 : decode prog_12_method_38_code 52 = .ok (.dup, 1) := by decide +kernel
theorem d_R_look_53 : decode prog_12_method_38_code 53 = .ok (.getfield 232, 3) := by decide +kernel
theorem d_R_look_56 : decode prog_12_method_38_code 56 = .ok (.aload_n 0, 1) := by decide +kernel
theorem d_R_look_57 : decode prog_12_method_38_code 57 = .ok (.iload_n 1, 1) := by decide +kernel
theorem d_R_look_58 : decode prog_12_method_38_code 58 = .ok (.invokevirtual 235, 3) := by decide +kernel
theorem d_R_look_61 : decode prog_12_method_38_code 61 = .ok (.iadd, 1) := by decide +kernel
theorem d_R_look_62 : decode prog_12_method_38_code 62 = .ok (.putfield 232, 3) := by decide +kernel
theorem d_R_look_65 : decode prog_12_method_38_code 65 = .ok (.iconst 0, 1) := by decide +kernel
theorem d_R_look_66 : decode prog_12_method_38_code 66 = .ok (.istore_n 2, 1) := by decide +kernel
theorem d_R_look_67 : decode prog_12_method_38_code 67 = .ok (.iload_n 2, 1) := by decide +kernel
theorem d_R_look_68 : decode prog_12_method_38_code 68 = .ok (.aload_n 0, 1) := by decide +kernel
theorem d_R_look_69 : decode prog_12_method_38_code 69 = .ok (.getfield 207, 3) := by decide +kernel
theorem d_R_look_72 : decode prog_12_method_38_code 72 = .ok (.if_icmp .ge 28, 3) := by decide +kernel
theorem d_R_look_75 : decode prog_12_method_38_code 75 = .ok (.aload_n 0, 1) := by decide +kernel
theorem d_R_look_76 : decode prog_12_method_38_code 76 = .ok (.dup, 1) := by decide +kernel
theorem d_R_look_77 : decode prog_12_method_38_code 77 = .ok (.getfield 238, 3) := by decide +kernel
theorem d_R_look_80 : decode prog_12_method_38_code 80 = .ok (.iconst 1, 1) := by decide +kernel
theorem d_R_look_81 : decode prog_12_method_38_code 81 = .ok (.aload_n 0, 1) := by decide +kernel
theorem d_R_look_82 : decode prog_12_method_38_code 82 = .ok (.getfield 65, 3) := by decide +kernel
theorem d_R_look_85 : decode prog_12_method_38_code 85 = .ok (.iload_n 1, 1) := by decide +kernel
theorem d_R_look_86 : decode prog_12_method_38_code 86 = .ok (.iload_n 2, 1) := by decide +kernel
theorem d_R_look_87 : decode prog_12_method_38_code 87 = .ok (.iadd, 1) := by decide +kernel
theorem d_R_look_88 : decode prog_12_method_38_code 88 = .ok (.iaload, 1) := by decide +kernel
theorem d_R_look_89 : decode prog_12_method_38_code 89 = .ok (.ishl, 1) := by decide +kernel
theorem d_R_look_90 : decode prog_12_method_38_code 90 = .ok (.ior, 1) := by decide +kernel
theorem d_R_look_91 : decode prog_12_method_38_code 91 = .ok (.putfield 238, 3) := by decide +kernel
theorem d_R_look_94 : decode prog_12_method_38_code 94 = .ok (.iinc 2 1, 3) := by decide +kernel
theorem d_R_look_97 : decode prog_12_method_38_code 97 = .ok (.goto (-30), 3) := by decide +kernel
theorem d_R_look_100 : decode prog_12_method_38_code 100 = .ok (.return_, 1) := by decide +kernel
def B_R_look (_ : Nat × Nat) : PS :=
  (sSq (sIf (cA (e1 (fun x : Int32 => decide (¬ x = 0)) (eX .int (xV 10 1 X_R_isPack (eR 0) (aC .int (eI 1) aN)))) (e1 (fun x : Int32 => decide (¬ x = 0)) (eX .int (xV 10 1 X_R_isFree (eR 0) (aC .int (eI 1) aN))))) (sSq (sX (xV 10 1 X_R_addPack (eR 0) (aC .int (eI 1) aN)))
    (sIf (e1 (fun x : Int32 => decide (¬ x = 0)) (eAI (eFR 10 3 (eR 0)) (eAI (eFR 10 30 (eR 0)) (eI 1)))) (sX (xV 10 1 X_R_waitBoth (eR 0) (aC .int (eI 1) aN))) sSk)) (sIf (cN (e1 (fun x : Int32 => decide (¬ x = 0)) (eX .int (xV 10 1 X_R_isTreePack (eR 0) (aC .int (eI 1) aN))))) (sSq (sFO 10 33 (fun x y : Int32 => x + y) (eR 0) (eX .int (xV 10 1 X_R_costOf (eR 0) (aC .int (eI 1) aN))))
    (sCut 2 (sSq (sI 2 (eV (0 : Int32)))
    (sLp 3 (e2 (fun x y : Int32 => decide (x < y)) (eI 2) (eFI 10 19 (eR 0)))
    (sFO 10 32 (fun x y : Int32 => x ||| y) (eR 0) (e2 (fun x y : Int32 => x <<< (y &&& 31)) (eV (1 : Int32)) (eAI (eFR 10 30 (eR 0)) (e2 (fun x y : Int32 => x + y) (eI 1) (eI 2)))))
    (sInc 2 (1)))))) sSk))
    sRv)
def X_R_look : PM := fun vs h Q => (lx vs).length ≤ 3 ∧ B_R_look (h.length + 0, hsz h + 0) (fun _ _ => False) (fun _ _ => False) (fun _ _ => False) Q (lini 3 vs) h
theorem v_R_look (l : Launch) : Ctr l y_R_look prog_12_method_38_code 3 none rm_R_look X_R_look := by
  refine Ctr_of (own := "PackLanesModel") (B := B_R_look) (KR := fun _ Q => Q) (by decide) rfl (fun _ _ _ z => z) (fun _ _ _ _ z => ⟨Or.inl ⟨rfl, rfl⟩, z⟩) (Or.inl rfl) (fun κ hl ho hR hrt hn0 => ?_)
  subst hl
  unfold B_R_look
  exact (S_sq (pc1 := 100) (S_if2 (pT := 16) (pF := 43) (pN := 100) (C_and (pc1 := 8) (J1_ne (pF := 43) (pc2 := 5) (E_x (O_V k_R_216 (v_R_isPack _) ⟨rfl, rfl⟩ ho (rk hR rfl) (by decide) (T := KT10) (N := 50) rfl (by decide) (pc1 := 1) (pc2 := 2) (E_aln d_R_look_0 rfl) (A_c catI (pc1 := 2) (E_iln d_R_look_1 rfl) A_n) d_R_look_2)) d_R_look_5 rfl) (J1_ne (pF := 43) (pc2 := 13) (E_x (O_V k_R_219 (v_R_isFree _) ⟨rfl, rfl⟩ ho (rk hR rfl) (by decide) (T := KT10) (N := 50) rfl (by decide) (pc1 := 9) (pc2 := 10) (E_aln d_R_look_8 rfl) (A_c catI (pc1 := 10) (E_iln d_R_look_9 rfl) A_n) d_R_look_10)) d_R_look_13 rfl)) (S_sq (pc1 := 21) (S_X (O_V k_R_222 (v_R_addPack _) ⟨rfl, rfl⟩ ho (rk hR rfl) (by decide) (T := KT10) (N := 50) rfl (by decide) (pc1 := 17) (pc2 := 18) (E_aln d_R_look_16 rfl) (A_c catI (pc1 := 18) (E_iln d_R_look_17 rfl) A_n) d_R_look_18))
    (S_if1 (pT := 35) (pF := 100) (J1_ne (pF := 100) (pc2 := 32) (E_aI (pc1 := 25) (pc2 := 31) (E_fR f_R_13 ho (pc1 := 22) (E_aln d_R_look_21 rfl) d_R_look_22) (E_aI (pc1 := 29) (pc2 := 30) (E_fR f_R_65 ho (pc1 := 26) (E_aln d_R_look_25 rfl) d_R_look_26) (E_iln d_R_look_29 rfl) d_R_look_30) d_R_look_31) d_R_look_32 rfl) (S_go (pc1 := 40) (S_X (O_V k_R_226 (v_R_waitBoth _) ⟨rfl, rfl⟩ ho (rk hR rfl) (by decide) (T := KT10) (N := 50) rfl (by decide) (pc1 := 36) (pc2 := 37) (E_aln d_R_look_35 rfl) (A_c catI (pc1 := 37) (E_iln d_R_look_36 rfl) A_n) d_R_look_37)) d_R_look_40 rfl))) (S_if1 (pT := 51) (pF := 100) (C_not (T1_ne (pT := 100) (pc2 := 48) (E_x (O_V k_R_229 (v_R_isTreePack _) ⟨rfl, rfl⟩ ho (rk hR rfl) (by decide) (T := KT10) (N := 50) rfl (by decide) (pc1 := 44) (pc2 := 45) (E_aln d_R_look_43 rfl) (A_c catI (pc1 := 45) (E_iln d_R_look_44 rfl) A_n) d_R_look_45)) d_R_look_48 rfl)) (S_sq (pc1 := 65) (S_FO f_R_232 f_R_232 ho (pc1 := 52) (pc2 := 61) (E_aln d_R_look_51 rfl) d_R_look_52 d_R_look_53 (E_x (O_V k_R_235 (v_R_costOf _) ⟨rfl, rfl⟩ ho (rk hR rfl) (by decide) (T := KT10) (N := 50) rfl (by decide) (pc1 := 57) (pc2 := 58) (E_aln d_R_look_56 rfl) (A_c catI (pc1 := 58) (E_iln d_R_look_57 rfl) A_n) d_R_look_58)) (fun _ _ _ _ _ k => r_iadd d_R_look_61 k) d_R_look_62)
    (S_cut (S_sq (pc1 := 67) (S_In (pc1 := 66) (E_ic d_R_look_65 rfl) d_R_look_66 rfl)
    (S_lp (pT := 75) (pF := 100) (pS := 94) (pG := 97) (J2_lt (pF := 100) (pc1 := 68) (pc2 := 72) (E_iln d_R_look_67 rfl) (E_fI f_R_207 ho (pc1 := 69) (E_aln d_R_look_68 rfl) d_R_look_69) d_R_look_72 rfl)
    (S_FO f_R_238 f_R_238 ho (pc1 := 76) (pc2 := 90) (E_aln d_R_look_75 rfl) d_R_look_76 d_R_look_77 (E_ishl (pc1 := 81) (pc2 := 89) (E_ic d_R_look_80 rfl) (E_aI (pc1 := 85) (pc2 := 88) (E_fR f_R_65 ho (pc1 := 82) (E_aln d_R_look_81 rfl) d_R_look_82) (E_iadd (pc1 := 86) (pc2 := 87) (E_iln d_R_look_85 rfl) (E_iln d_R_look_86 rfl) d_R_look_87) d_R_look_88) d_R_look_89) (fun _ _ _ _ _ k => r_ior d_R_look_90 k) d_R_look_91)
    (S_Inc d_R_look_94 rfl) d_R_look_97 rfl))))))
    (S_rv hrt d_R_look_100))
theorem d_R_grow_0 : decode prog_12_method_39_code 0 = .ok (.aload_n 0, 1) := by decide +kernel
theorem d_R_grow_1 : decode prog_12_method_39_code 1 = .ok (.iconst 0, 1) := by decide +kernel
theorem d_R_grow_2 : decode prog_12_method_39_code 2 = .ok (.putfield 210, 3) := by decide +kernel
theorem d_R_grow_5 : decode prog_12_method_39_code 5 = .ok (.aload_n 0, 1) := by decide +kernel
theorem d_R_grow_6 : decode prog_12_method_39_code 6 = .ok (.iconst 0, 1) := by decide +kernel
theorem d_R_grow_7 : decode prog_12_method_39_code 7 = .ok (.putfield 238, 3) := by decide +kernel
theorem d_R_grow_10 : decode prog_12_method_39_code 10 = .ok (.aload_n 0, 1) := by decide +kernel
theorem d_R_grow_11 : decode prog_12_method_39_code 11 = .ok (.iconst 0, 1) := by decide +kernel
theorem d_R_grow_12 : decode prog_12_method_39_code 12 = .ok (.putfield 232, 3) := by decide +kernel
theorem d_R_grow_15 : decode prog_12_method_39_code 15 = .ok (.iconst 0, 1) := by decide +kernel
theorem d_R_grow_16 : decode prog_12_method_39_code 16 = .ok (.istore_n 1, 1) := by decide +kernel
theorem d_R_grow_17 : decode prog_12_method_39_code 17 = .ok (.iload_n 1, 1) := by decide +kernel
theorem d_R_grow_18 : decode prog_12_method_39_code 18 = .ok (.aload_n 0, 1) := by decide +kernel
theorem d_R_grow_19 : decode prog_12_method_39_code 19 = .ok (.getfield 99, 3) := by decide +kernel
theorem d_R_grow_22 : decode prog_12_method_39_code 22 = .ok (.if_icmp .ge 17, 3) := by decide +kernel
theorem d_R_grow_25 : decode prog_12_method_39_code 25 = .ok (.aload_n 0, 1) := by decide +kernel
theorem d_R_grow_26 : decode prog_12_method_39_code 26 = .ok (.getfield 59, 3) := by decide +kernel
theorem d_R_grow_29 : decode prog_12_method_39_code 29 = .ok (.iload_n 1, 1) := by decide +kernel
theorem d_R_grow_30 : decode prog_12_method_39_code 30 = .ok (.bipush (-9), 2) := by decide +kernel
theorem d_R_grow_32 : decode prog_12_method_39_code 32 = .ok (.iastore, 1) := by decide +kernel
theorem d_R_grow_33 : decode prog_12_method_39_code 33 = .ok (.iinc 1 1, 3) := by decide +kernel
theorem d_R_grow_36 : decode prog_12_method_39_code 36 = .ok (.goto (-19), 3) := by decide +kernel
theorem d_R_grow_39 : decode prog_12_method_39_code 39 = .ok (.aload_n 0, 1) := by decide +kernel
theorem d_R_grow_40 : decode prog_12_method_39_code 40 = .ok (.iconst 0, 1) := by decide +kernel
theorem d_R_grow_41 : decode prog_12_method_39_code 41 = .ok (.invokevirtual 222, 3) := by decide +kernel
theorem d_R_grow_44 : decode prog_12_method_39_code 44 = .ok (.iconst 0, 1) := by decide +kernel
theorem d_R_grow_45 : decode prog_12_method_39_code 45 = .ok (.istore_n 1, 1) := by decide +kernel
theorem d_R_grow_46 : decode prog_12_method_39_code 46 = .ok (.iload_n 1, 1) := by decide +kernel
theorem d_R_grow_47 : decode prog_12_method_39_code 47 = .ok (.aload_n 0, 1) := by decide +kernel
theorem d_R_grow_48 : decode prog_12_method_39_code 48 = .ok (.getfield 207, 3) := by decide +kernel
theorem d_R_grow_51 : decode prog_12_method_39_code 51 = .ok (.if_icmp .ge 28, 3) := by decide +kernel
theorem d_R_grow_54 : decode prog_12_method_39_code 54 = .ok (.aload_n 0, 1) := by decide +kernel
theorem d_R_grow_55 : decode prog_12_method_39_code 55 = .ok (.getfield 65, 3) := by decide +kernel
theorem d_R_grow_58 : decode prog_12_method_39_code 58 = .ok (.iconst 4, 1) := by decide +kernel
theorem d_R_grow_59 : decode prog_12_method_39_code 59 = .ok (.iload_n 1, 1) := by decide +kernel
theorem d_R_grow_60 : decode prog_12_method_39_code 60 = .ok (.iadd, 1) := by decide +kernel
theorem d_R_grow_61 : decode prog_12_method_39_code 61 = .ok (.aload_n 0, 1) := by decide +kernel
theorem d_R_grow_62 : decode prog_12_method_39_code 62 = .ok (.getfield 22, 3) := by decide +kernel
theorem d_R_grow_65 : decode prog_12_method_39_code 65 = .ok (.aload_n 0, 1) := by decide +kernel
theorem d_R_grow_66 : decode prog_12_method_39_code 66 = .ok (.getfield 65, 3) := by decide +kernel
theorem d_R_grow_69 : decode prog_12_method_39_code 69 = .ok (.iload_n 1, 1) := by decide +kernel
theorem d_R_grow_70 : decode prog_12_method_39_code 70 = .ok (.iaload, 1) := by decide +kernel
theorem d_R_grow_71 : decode prog_12_method_39_code 71 = .ok (.iaload, 1) := by decide +kernel
theorem d_R_grow_72 : decode prog_12_method_39_code 72 = .ok (.iastore, 1) := by decide +kernel
theorem d_R_grow_73 : decode prog_12_method_39_code 73 = .ok (.iinc 1 1, 3) := by decide +kernel
theorem d_R_grow_76 : decode prog_12_method_39_code 76 = .ok (.goto (-30), 3) := by decide +kernel
theorem d_R_grow_79 : decode prog_12_method_39_code 79 = .ok (.aload_n 0, 1) := by decide +kernel
theorem d_R_grow_80 : decode prog_12_method_39_code 80 = .ok (.iconst 2, 1) := by decide +kernel
theorem d_R_grow_81 : decode prog_12_method_39_code 81 = .ok (.putfield 213, 3) := by decide +kernel
theorem d_R_grow_84 : decode prog_12_method_39_code 84 = .ok (.iconst 1, 1) := by decide +kernel
theorem d_R_grow_85 : decode prog_12_method_39_code 85 = .ok (.istore_n 1, 1) := by decide +kernel
theorem d_R_grow_86 : decode prog_12_method_39_code 86 = .ok (.iload_n 1, 1) := by decide +kernel
theorem d_R_grow_87 : decode prog_12_method_39_code 87 = .ok (.aload_n 0, 1) := by decide +kernel
theorem d_R_grow_88 : decode prog_12_method_39_code 88 = .ok (.getfield 213, 3) := by decide +kernel
theorem d_R_grow_91 : decode prog_12_method_39_code 91 = .ok (.if_icmp .ge 16, 3) := by decide +kernel
theorem d_R_grow_94 : decode prog_12_method_39_code 94 = .ok (.aload_n 0, 1) := by decide +kernel
theorem d_R_grow_95 : decode prog_12_method_39_code 95 = .ok (.iconst 4, 1) := by decide +kernel
theorem d_R_grow_96 : decode prog_12_method_39_code 96 = .ok (.iload_n 1, 1) := by decide +kernel
theorem d_R_grow_97 : decode prog_12_method_39_code 97 = .ok (.imul, 1) := by decide +kernel
theorem d_R_grow_98 : decode prog_12_method_39_code 98 = .ok (.invokevirtual 241, 3) := by decide +kernel
theorem d_R_grow_101 : decode prog_12_method_39_code 101 = .ok (.iinc 1 1, 3) := by decide +kernel
theorem d_R_grow_104 : decode prog_12_method_39_code 104 = .ok (.goto (-18), 3) := by decide +kernel
theorem d_R_grow_107 : decode prog_12_method_39_code 107 = .ok (.return_, 1) := by decide +kernel
def B_R_grow (_ : Nat × Nat) : PS :=
  (sSq (sF .int 10 29 (eR 0) (eV (0 : Int32)))
    (sSq (sF .int 10 32 (eR 0) (eV (0 : Int32)))
    (sSq (sF .int 10 33 (eR 0) (eV (0 : Int32)))
    (sSq (sCut 1 (sSq (sI 1 (eV (0 : Int32)))
    (sLp 2 (e2 (fun x y : Int32 => decide (x < y)) (eI 1) (eFI 10 2 (eR 0)))
    (sAI (eFR 10 27 (eR 0)) (eI 1) (eV (-9 : Int32)))
    (sInc 1 (1)))))
    (sSq (sX (xV 10 1 X_R_addPack (eR 0) (aC .int (eV (0 : Int32)) aN)))
    (sSq (sCut 1 (sSq (sI 1 (eV (0 : Int32)))
    (sLp 2 (e2 (fun x y : Int32 => decide (x < y)) (eI 1) (eFI 10 19 (eR 0)))
    (sAI (eFR 10 30 (eR 0)) (e2 (fun x y : Int32 => x + y) (eV (4 : Int32)) (eI 1)) (eAI (eFR 10 6 (eR 0)) (eAI (eFR 10 30 (eR 0)) (eI 1))))
    (sInc 1 (1)))))
    (sSq (sF .int 10 31 (eR 0) (eV (2 : Int32)))
    (sSq (sCut 1 (sSq (sI 1 (eV (1 : Int32)))
    (sLp 2 (e2 (fun x y : Int32 => decide (x < y)) (eI 1) (eFI 10 31 (eR 0)))
    (sX (xV 10 1 X_R_look (eR 0) (aC .int (e2 (fun x y : Int32 => x * y) (eV (4 : Int32)) (eI 1)) aN)))
    (sInc 1 (1)))))
    sRv))))))))
def X_R_grow : PM := fun vs h Q => (lx vs).length ≤ 2 ∧ B_R_grow (h.length + 0, hsz h + 0) (fun _ _ => False) (fun _ _ => False) (fun _ _ => False) Q (lini 2 vs) h
theorem v_R_grow (l : Launch) : Ctr l y_R_grow prog_12_method_39_code 2 none rm_R_grow X_R_grow := by
  refine Ctr_of (own := "PackLanesModel") (B := B_R_grow) (KR := fun _ Q => Q) (by decide) rfl (fun _ _ _ z => z) (fun _ _ _ _ z => ⟨Or.inl ⟨rfl, rfl⟩, z⟩) (Or.inl rfl) (fun κ hl ho hR hrt hn0 => ?_)
  subst hl
  unfold B_R_grow
  exact (S_sq (pc1 := 5) (S_FI f_R_210 ho (pc1 := 1) (pc2 := 2) (E_aln d_R_grow_0 rfl) (E_ic d_R_grow_1 rfl) d_R_grow_2)
    (S_sq (pc1 := 10) (S_FI f_R_238 ho (pc1 := 6) (pc2 := 7) (E_aln d_R_grow_5 rfl) (E_ic d_R_grow_6 rfl) d_R_grow_7)
    (S_sq (pc1 := 15) (S_FI f_R_232 ho (pc1 := 11) (pc2 := 12) (E_aln d_R_grow_10 rfl) (E_ic d_R_grow_11 rfl) d_R_grow_12)
    (S_sq (pc1 := 39) (S_cut (S_sq (pc1 := 17) (S_In (pc1 := 16) (E_ic d_R_grow_15 rfl) d_R_grow_16 rfl)
    (S_lp (pT := 25) (pF := 39) (pS := 33) (pG := 36) (J2_lt (pF := 39) (pc1 := 18) (pc2 := 22) (E_iln d_R_grow_17 rfl) (E_fI f_R_99 ho (pc1 := 19) (E_aln d_R_grow_18 rfl) d_R_grow_19) d_R_grow_22 rfl)
    (S_AI (pc1 := 29) (pc2 := 30) (pc3 := 32) (E_fR f_R_59 ho (pc1 := 26) (E_aln d_R_grow_25 rfl) d_R_grow_26) (E_iln d_R_grow_29 rfl) (E_bi d_R_grow_30 rfl) d_R_grow_32)
    (S_Inc d_R_grow_33 rfl) d_R_grow_36 rfl)))
    (S_sq (pc1 := 44) (S_X (O_V k_R_222 (v_R_addPack _) ⟨rfl, rfl⟩ ho (rk hR rfl) (by decide) (T := KT10) (N := 50) rfl (by decide) (pc1 := 40) (pc2 := 41) (E_aln d_R_grow_39 rfl) (A_c catI (pc1 := 41) (E_ic d_R_grow_40 rfl) A_n) d_R_grow_41))
    (S_sq (pc1 := 79) (S_cut (S_sq (pc1 := 46) (S_In (pc1 := 45) (E_ic d_R_grow_44 rfl) d_R_grow_45 rfl)
    (S_lp (pT := 54) (pF := 79) (pS := 73) (pG := 76) (J2_lt (pF := 79) (pc1 := 47) (pc2 := 51) (E_iln d_R_grow_46 rfl) (E_fI f_R_207 ho (pc1 := 48) (E_aln d_R_grow_47 rfl) d_R_grow_48) d_R_grow_51 rfl)
    (S_AI (pc1 := 58) (pc2 := 61) (pc3 := 72) (E_fR f_R_65 ho (pc1 := 55) (E_aln d_R_grow_54 rfl) d_R_grow_55) (E_iadd (pc1 := 59) (pc2 := 60) (E_ic d_R_grow_58 rfl) (E_iln d_R_grow_59 rfl) d_R_grow_60) (E_aI (pc1 := 65) (pc2 := 71) (E_fR f_R_22 ho (pc1 := 62) (E_aln d_R_grow_61 rfl) d_R_grow_62) (E_aI (pc1 := 69) (pc2 := 70) (E_fR f_R_65 ho (pc1 := 66) (E_aln d_R_grow_65 rfl) d_R_grow_66) (E_iln d_R_grow_69 rfl) d_R_grow_70) d_R_grow_71) d_R_grow_72)
    (S_Inc d_R_grow_73 rfl) d_R_grow_76 rfl)))
    (S_sq (pc1 := 84) (S_FI f_R_213 ho (pc1 := 80) (pc2 := 81) (E_aln d_R_grow_79 rfl) (E_ic d_R_grow_80 rfl) d_R_grow_81)
    (S_sq (pc1 := 107) (S_cut (S_sq (pc1 := 86) (S_In (pc1 := 85) (E_ic d_R_grow_84 rfl) d_R_grow_85 rfl)
    (S_lp (pT := 94) (pF := 107) (pS := 101) (pG := 104) (J2_lt (pF := 107) (pc1 := 87) (pc2 := 91) (E_iln d_R_grow_86 rfl) (E_fI f_R_213 ho (pc1 := 88) (E_aln d_R_grow_87 rfl) d_R_grow_88) d_R_grow_91 rfl)
    (S_X (O_V k_R_241 (v_R_look _) ⟨rfl, rfl⟩ ho (rk hR rfl) (by decide) (T := KT10) (N := 50) rfl (by decide) (pc1 := 95) (pc2 := 98) (E_aln d_R_grow_94 rfl) (A_c catI (pc1 := 98) (E_imul (pc1 := 96) (pc2 := 97) (E_ic d_R_grow_95 rfl) (E_iln d_R_grow_96 rfl) d_R_grow_97) A_n) d_R_grow_98))
    (S_Inc d_R_grow_101 rfl) d_R_grow_104 rfl)))
    (S_rv hrt d_R_grow_107)))))))))
theorem d_R_isUsedOutside_0 : decode prog_12_method_40_code 0 = .ok (.aload_n 0, 1) := by decide +kernel
theorem d_R_isUsedOutside_1 : decode prog_12_method_40_code 1 = .ok (.getfield 238, 3) := by decide +kernel
theorem d_R_isUsedOutside_4 : decode prog_12_method_40_code 4 = .ok (.iload_n 1, 1) := by decide +kernel
theorem d_R_isUsedOutside_5 : decode prog_12_method_40_code 5 = .ok (.invokestatic 190, 3) := by decide +kernel
theorem d_R_isUsedOutside_8 : decode prog_12_method_40_code 8 = .ok (.istore_n 2, 1) := by decide +kernel
theorem d_R_isUsedOutside_9 : decode prog_12_method_40_code 9 = .ok (.iload_n 1, 1) := by decide +kernel
theorem d_R_isUsedOutside_10 : decode prog_12_method_40_code 10 = .ok (.iconst 1, 1) := by decide +kernel
theorem d_R_isUsedOutside_11 : decode prog_12_method_40_code 11 = .ok (.iadd, 1) := by decide +kernel
theorem d_R_isUsedOutside_12 : decode prog_12_method_40_code 12 = .ok (.istore_n 3, 1) := by decide +kernel
theorem d_R_isUsedOutside_13 : decode prog_12_method_40_code 13 = .ok (.iload_n 3, 1) := by decide +kernel
theorem d_R_isUsedOutside_14 : decode prog_12_method_40_code 14 = .ok (.aload_n 0, 1) := by decide +kernel
theorem d_R_isUsedOutside_15 : decode prog_12_method_40_code 15 = .ok (.getfield 99, 3) := by decide +kernel
theorem d_R_isUsedOutside_18 : decode prog_12_method_40_code 18 = .ok (.if_icmp .ge 61, 3) := by decide +kernel
theorem d_R_isUsedOutside_21 : decode prog_12_method_40_code 21 = .ok (.iload_n 2, 1) := by decide +kernel
theorem d_R_isUsedOutside_22 : decode prog_12_method_40_code 22 = .ok (.ifCond .ne 45, 3) := by decide +kernel
theorem d_R_isUsedOutside_25 : decode prog_12_method_40_code 25 = .ok (.aload_n 0, 1) := by decide +kernel
theorem d_R_isUsedOutside_26 : decode prog_12_method_40_code 26 = .ok (.iload_n 3, 1) := by decide +kernel
theorem d_R_isUsedOutside_27 : decode prog_12_method_40_code 27 = .ok (.iload_n 1, 1) := by decide +kernel
theorem d_R_isUsedOutside_28 : decode prog_12_method_40_code 28 = .ok (.invokevirtual 201, 3) := by decide +kernel
theorem d_R_isUsedOutside_31 : decode prog_12_method_40_code 31 = .ok (.ifCond .eq 40, 3) := by decide +kernel
theorem d_R_isUsedOutside_34 : decode prog_12_method_40_code 34 = .ok (.aload_n 0, 1) := by decide +kernel
theorem d_R_isUsedOutside_35 : decode prog_12_method_40_code 35 = .ok (.getfield 187, 3) := by decide +kernel
theorem d_R_isUsedOutside_38 : decode prog_12_method_40_code 38 = .ok (.iload_n 3, 1) := by decide +kernel
theorem d_R_isUsedOutside_39 : decode prog_12_method_40_code 39 = .ok (.invokestatic 190, 3) := by decide +kernel
theorem d_R_isUsedOutside_42 : decode prog_12_method_40_code 42 = .ok (.ifCond .ne 29, 3) := by decide +kernel
theorem d_R_isUsedOutside_45 : decode prog_12_method_40_code 45 = .ok (.aload_n 0, 1) := by decide +kernel
theorem d_R_isUsedOutside_46 : decode prog_12_method_40_code 46 = .ok (.getfield 53, 3) := by decide +kernel
theorem d_R_isUsedOutside_49 : decode prog_12_method_40_code 49 = .ok (.iload_n 3, 1) := by decide +kernel
theorem d_R_isUsedOutside_50 : decode prog_12_method_40_code 50 = .ok (.iaload, 1) := by decide +kernel
theorem d_R_isUsedOutside_51 : decode prog_12_method_40_code 51 = .ok (.bipush (-9), 2) := by decide +kernel
theorem d_R_isUsedOutside_53 : decode prog_12_method_40_code 53 = .ok (.if_icmp .ne 18, 3) := by decide +kernel
theorem d_R_isUsedOutside_56 : decode prog_12_method_40_code 56 = .ok (.aload_n 0, 1) := by decide +kernel
theorem d_R_isUsedOutside_57 : decode prog_12_method_40_code 57 = .ok (.getfield 59, 3) := by decide +kernel
theorem d_R_isUsedOutside_60 : decode prog_12_method_40_code 60 = .ok (.iload_n 3, 1) := by decide +kernel
theorem d_R_isUsedOutside_61 : decode prog_12_method_40_code 61 = .ok (.iaload, 1) := by decide +kernel
theorem d_R_isUsedOutside_62 : decode prog_12_method_40_code 62 = .ok (.bipush (-9), 2) := by decide +kernel
theorem d_R_isUsedOutside_64 : decode prog_12_method_40_code 64 = .ok (.if_icmp .ne 7, 3) := by decide +kernel
theorem d_R_isUsedOutside_67 : decode prog_12_method_40_code 67 = .ok (.iconst 1, 1) := by decide +kernel
theorem d_R_isUsedOutside_68 : decode prog_12_method_40_code 68 = .ok (.goto 4, 3) := by decide +kernel
theorem d_R_isUsedOutside_71 : decode prog_12_method_40_code 71 = .ok (.iconst 0, 1) := by decide +kernel
theorem d_R_isUsedOutside_72 : decode prog_12_method_40_code 72 = .ok (.istore_n 2, 1) := by decide +kernel
theorem d_R_isUsedOutside_73 : decode prog_12_method_40_code 73 = .ok (.iinc 3 1, 3) := by decide +kernel
theorem d_R_isUsedOutside_76 : decode prog_12_method_40_code 76 = .ok (.goto (-63), 3) := by decide +kernel
theorem d_R_isUsedOutside_79 : decode prog_12_method_40_code 79 = .ok (.iload_n 2, 1) := by decide +kernel
theorem d_R_isUsedOutside_80 : decode prog_12_method_40_code 80 = .ok (.ireturn, 1) := by decide +kernel
def B_R_isUsedOutside (_ : Nat × Nat) : PS :=
  (sSq (sI 2 (eX .int (xS 2 X_R_has (aC .int (eFI 10 32 (eR 0)) (aC .int (eI 1) aN)))))
    (sSq (sCut 3 (sSq (sI 3 (e2 (fun x y : Int32 => x + y) (eI 1) (eV (1 : Int32))))
    (sLp 4 (e2 (fun x y : Int32 => decide (x < y)) (eI 3) (eFI 10 2 (eR 0)))
    (sI 2 (eC (cO (e1 (fun x : Int32 => decide (¬ x = 0)) (eI 2)) (cA (cA (cA (e1 (fun x : Int32 => decide (¬ x = 0)) (eX .int (xV 10 2 X_R_uses (eR 0) (aC .int (eI 3) (aC .int (eI 1) aN))))) (cN (e1 (fun x : Int32 => decide (¬ x = 0)) (eX .int (xS 2 X_R_has (aC .int (eFI 10 18 (eR 0)) (aC .int (eI 3) aN))))))) (e2 (fun x y : Int32 => decide (x = y)) (eAI (eFR 10 22 (eR 0)) (eI 3)) (eV (-9 : Int32)))) (e2 (fun x y : Int32 => decide (x = y)) (eAI (eFR 10 27 (eR 0)) (eI 3)) (eV (-9 : Int32)))))))
    (sInc 3 (1)))))
    (sRz (eI 2))))
def X_R_isUsedOutside : PM := fun vs h Q => (lx vs).length ≤ 4 ∧ B_R_isUsedOutside (h.length + 0, hsz h + 0) (fun _ _ => False) (fun _ _ => False) (fun _ _ => False) Q (lini 4 vs) h
theorem v_R_isUsedOutside (l : Launch) : Ctr l y_R_isUsedOutside prog_12_method_40_code 4 (some .boolean) rm_R_isUsedOutside X_R_isUsedOutside := by
  refine Ctr_of (own := "PackLanesModel") (B := B_R_isUsedOutside) (KR := fun _ Q => Q) (by decide) rfl (fun _ _ _ z => z) (fun _ _ _ _ z => ⟨Or.inl ⟨rfl, rfl⟩, z⟩) (Or.inr (Or.inr (Or.inl rfl))) (fun κ hl ho hR hrt hn0 => ?_)
  subst hl
  unfold B_R_isUsedOutside
  exact (S_sq (pc1 := 9) (S_In (pc1 := 8) (E_x (O_S k_R_190 (v_R_has _) ⟨rfl, rfl⟩ ho (rk hR rfl) (by decide) (pc2 := 5) (A_c catI (pc1 := 4) (E_fI f_R_238 ho (pc1 := 1) (E_aln d_R_isUsedOutside_0 rfl) d_R_isUsedOutside_1) (A_c catI (pc1 := 5) (E_iln d_R_isUsedOutside_4 rfl) A_n)) d_R_isUsedOutside_5)) d_R_isUsedOutside_8 rfl)
    (S_sq (pc1 := 79) (S_cut (S_sq (pc1 := 13) (S_In (pc1 := 12) (E_iadd (pc1 := 10) (pc2 := 11) (E_iln d_R_isUsedOutside_9 rfl) (E_ic d_R_isUsedOutside_10 rfl) d_R_isUsedOutside_11) d_R_isUsedOutside_12 rfl)
    (S_lp (pT := 21) (pF := 79) (pS := 73) (pG := 76) (J2_lt (pF := 79) (pc1 := 14) (pc2 := 18) (E_iln d_R_isUsedOutside_13 rfl) (E_fI f_R_99 ho (pc1 := 15) (E_aln d_R_isUsedOutside_14 rfl) d_R_isUsedOutside_15) d_R_isUsedOutside_18 rfl)
    (S_In (pc1 := 72) (E_C (pT := 67) (pF := 71) (pc2 := 72) (C_or (pc1 := 25) (T1_ne (pT := 67) (pc2 := 22) (E_iln d_R_isUsedOutside_21 rfl) d_R_isUsedOutside_22 rfl) (C_and (pc1 := 56) (C_and (pc1 := 45) (C_and (pc1 := 34) (J1_ne (pF := 71) (pc2 := 31) (E_x (O_V k_R_201 (v_R_uses _) ⟨rfl, rfl⟩ ho (rk hR rfl) (by decide) (T := KT10) (N := 50) rfl (by decide) (pc1 := 26) (pc2 := 28) (E_aln d_R_isUsedOutside_25 rfl) (A_c catI (pc1 := 27) (E_iln d_R_isUsedOutside_26 rfl) (A_c catI (pc1 := 28) (E_iln d_R_isUsedOutside_27 rfl) A_n)) d_R_isUsedOutside_28)) d_R_isUsedOutside_31 rfl) (C_not (T1_ne (pT := 71) (pc2 := 42) (E_x (O_S k_R_190 (v_R_has _) ⟨rfl, rfl⟩ ho (rk hR rfl) (by decide) (pc2 := 39) (A_c catI (pc1 := 38) (E_fI f_R_187 ho (pc1 := 35) (E_aln d_R_isUsedOutside_34 rfl) d_R_isUsedOutside_35) (A_c catI (pc1 := 39) (E_iln d_R_isUsedOutside_38 rfl) A_n)) d_R_isUsedOutside_39)) d_R_isUsedOutside_42 rfl))) (J2_eq (pF := 71) (pc1 := 51) (pc2 := 53) (E_aI (pc1 := 49) (pc2 := 50) (E_fR f_R_53 ho (pc1 := 46) (E_aln d_R_isUsedOutside_45 rfl) d_R_isUsedOutside_46) (E_iln d_R_isUsedOutside_49 rfl) d_R_isUsedOutside_50) (E_bi d_R_isUsedOutside_51 rfl) d_R_isUsedOutside_53 rfl)) (J2_eq (pF := 71) (pc1 := 62) (pc2 := 64) (E_aI (pc1 := 60) (pc2 := 61) (E_fR f_R_59 ho (pc1 := 57) (E_aln d_R_isUsedOutside_56 rfl) d_R_isUsedOutside_57) (E_iln d_R_isUsedOutside_60 rfl) d_R_isUsedOutside_61) (E_bi d_R_isUsedOutside_62 rfl) d_R_isUsedOutside_64 rfl))) d_R_isUsedOutside_67 d_R_isUsedOutside_68 rfl d_R_isUsedOutside_71 rfl) d_R_isUsedOutside_72 rfl)
    (S_Inc d_R_isUsedOutside_73 rfl) d_R_isUsedOutside_76 rfl)))
    (S_rz hrt (pc1 := 80) (E_iln d_R_isUsedOutside_79 rfl) d_R_isUsedOutside_80)))
theorem d_R_gainOfTree_0 : decode prog_12_method_41_code 0 = .ok (.aload_n 0, 1) := by decide +kernel
theorem d_R_gainOfTree_1 : decode prog_12_method_41_code 1 = .ok (.getfield 207, 3) := by decide +kernel
theorem d_R_gainOfTree_4 : decode prog_12_method_41_code 4 = .ok (.iconst 1, 1) := by decide +kernel
theorem d_R_gainOfTree_5 : decode prog_12_method_41_code 5 = .ok (.isub, 1) := by decide +kernel
theorem d_R_gainOfTree_6 : decode prog_12_method_41_code 6 = .ok (.aload_n 0, 1) := by decide +kernel
theorem d_R_gainOfTree_7 : decode prog_12_method_41_code 7 = .ok (.getfield 210, 3) := by decide +kernel
theorem d_R_gainOfTree_10 : decode prog_12_method_41_code 10 = .ok (.imul, 1) := by decide +kernel
theorem d_R_gainOfTree_11 : decode prog_12_method_41_code 11 = .ok (.aload_n 0, 1) := by decide +kernel
theorem d_R_gainOfTree_12 : decode prog_12_method_41_code 12 = .ok (.getfield 232, 3) := by decide +kernel
theorem d_R_gainOfTree_15 : decode prog_12_method_41_code 15 = .ok (.isub, 1) := by decide +kernel
theorem d_R_gainOfTree_16 : decode prog_12_method_41_code 16 = .ok (.istore_n 1, 1) := by decide +kernel
theorem d_R_gainOfTree_17 : decode prog_12_method_41_code 17 = .ok (.iconst 0, 1) := by decide +kernel
theorem d_R_gainOfTree_18 : decode prog_12_method_41_code 18 = .ok (.istore_n 2, 1) := by decide +kernel
theorem d_R_gainOfTree_19 : decode prog_12_method_41_code 19 = .ok (.iload_n 2, 1) := by decide +kernel
theorem d_R_gainOfTree_20 : decode prog_12_method_41_code 20 = .ok (.aload_n 0, 1) := by decide +kernel
theorem d_R_gainOfTree_21 : decode prog_12_method_41_code 21 = .ok (.getfield 99, 3) := by decide +kernel
theorem d_R_gainOfTree_24 : decode prog_12_method_41_code 24 = .ok (.if_icmp .ge 47, 3) := by decide +kernel
theorem d_R_gainOfTree_27 : decode prog_12_method_41_code 27 = .ok (.iload_n 1, 1) := by decide +kernel
theorem d_R_gainOfTree_28 : decode prog_12_method_41_code 28 = .ok (.aload_n 0, 1) := by decide +kernel
theorem d_R_gainOfTree_29 : decode prog_12_method_41_code 29 = .ok (.getfield 59, 3) := by decide +kernel
theorem d_R_gainOfTree_32 : decode prog_12_method_41_code 32 = .ok (.iload_n 2, 1) := by decide +kernel
theorem d_R_gainOfTree_33 : decode prog_12_method_41_code 33 = .ok (.iaload, 1) := by decide +kernel
theorem d_R_gainOfTree_34 : decode prog_12_method_41_code 34 = .ok (.bipush (-9), 2) := by decide +kernel
theorem d_R_gainOfTree_36 : decode prog_12_method_41_code 36 = .ok (.if_icmp .eq 26, 3) := by decide +kernel
theorem d_R_gainOfTree_39 : decode prog_12_method_41_code 39 = .ok (.aload_n 0, 1) := by decide +kernel
theorem d_R_gainOfTree_40 : decode prog_12_method_41_code 40 = .ok (.getfield 13, 3) := by decide +kernel
theorem d_R_gainOfTree_43 : decode prog_12_method_41_code 43 = .ok (.iload_n 2, 1) := by decide +kernel
theorem d_R_gainOfTree_44 : decode prog_12_method_41_code 44 = .ok (.iaload, 1) := by decide +kernel
theorem d_R_gainOfTree_45 : decode prog_12_method_41_code 45 = .ok (.bipush 6, 2) := by decide +kernel
theorem d_R_gainOfTree_47 : decode prog_12_method_41_code 47 = .ok (.if_icmp .eq 15, 3) := by decide +kernel
theorem d_R_gainOfTree_50 : decode prog_12_method_41_code 50 = .ok (.aload_n 0, 1) := by decide +kernel
theorem d_R_gainOfTree_51 : decode prog_12_method_41_code 51 = .ok (.iload_n 2, 1) := by decide +kernel
theorem d_R_gainOfTree_52 : decode prog_12_method_41_code 52 = .ok (.invokevirtual 244, 3) := by decide +kernel
theorem d_R_gainOfTree_55 : decode prog_12_method_41_code 55 = .ok (.ifCond .eq 7, 3) := by decide +kernel
theorem d_R_gainOfTree_58 : decode prog_12_method_41_code 58 = .ok (.iconst 1, 1) := by decide +kernel
theorem d_R_gainOfTree_59 : decode prog_12_method_41_code 59 = .ok (.goto 4, 3) := by decide +kernel
theorem d_R_gainOfTree_62 : decode prog_12_method_41_code 62 = .ok (.iconst 0, 1) := by decide +kernel
theorem d_R_gainOfTree_63 : decode prog_12_method_41_code 63 = .ok (.isub, 1) := by decide +kernel
theorem d_R_gainOfTree_64 : decode prog_12_method_41_code 64 = .ok (.istore_n 1, 1) := by decide +kernel
theorem d_R_gainOfTree_65 : decode prog_12_method_41_code 65 = .ok (.iinc 2 1, 3) := by decide +kernel
theorem d_R_gainOfTree_68 : decode prog_12_method_41_code 68 = .ok (.goto (-49), 3) := by decide +kernel
theorem d_R_gainOfTree_71 : decode prog_12_method_41_code 71 = .ok (.iload_n 1, 1) := by decide +kernel
theorem d_R_gainOfTree_72 : decode prog_12_method_41_code 72 = .ok (.ireturn, 1) := by decide +kernel
def B_R_gainOfTree (_ : Nat × Nat) : PS :=
  (sSq (sI 1 (e2 (fun x y : Int32 => x - y) (e2 (fun x y : Int32 => x * y) (e2 (fun x y : Int32 => x - y) (eFI 10 19 (eR 0)) (eV (1 : Int32))) (eFI 10 29 (eR 0))) (eFI 10 33 (eR 0))))
    (sSq (sCut 2 (sSq (sI 2 (eV (0 : Int32)))
    (sLp 3 (e2 (fun x y : Int32 => decide (x < y)) (eI 2) (eFI 10 2 (eR 0)))
    (sI 1 (e2 (fun x y : Int32 => x - y) (eI 1) (eIf (cA (cA (e2 (fun x y : Int32 => decide (¬ x = y)) (eAI (eFR 10 27 (eR 0)) (eI 2)) (eV (-9 : Int32))) (e2 (fun x y : Int32 => decide (¬ x = y)) (eAI (eFR 10 3 (eR 0)) (eI 2)) (eV (6 : Int32)))) (e1 (fun x : Int32 => decide (¬ x = 0)) (eX .int (xV 10 1 X_R_isUsedOutside (eR 0) (aC .int (eI 2) aN))))) (eV (1 : Int32)) (eV (0 : Int32)))))
    (sInc 2 (1)))))
    (sRt .int (eI 1))))
def X_R_gainOfTree : PM := fun vs h Q => (lx vs).length ≤ 3 ∧ B_R_gainOfTree (h.length + 0, hsz h + 0) (fun _ _ => False) (fun _ _ => False) (fun _ _ => False) Q (lini 3 vs) h
theorem v_R_gainOfTree (l : Launch) : Ctr l y_R_gainOfTree prog_12_method_41_code 3 (some .int) rm_R_gainOfTree X_R_gainOfTree := by
  refine Ctr_of (own := "PackLanesModel") (B := B_R_gainOfTree) (KR := fun _ Q => Q) (by decide) rfl (fun _ _ _ z => z) (fun _ _ _ _ z => ⟨Or.inl ⟨rfl, rfl⟩, z⟩) (Or.inr (Or.inl rfl)) (fun κ hl ho hR hrt hn0 => ?_)
  subst hl
  unfold B_R_gainOfTree
  exact (S_sq (pc1 := 17) (S_In (pc1 := 16) (E_isub (pc1 := 11) (pc2 := 15) (E_imul (pc1 := 6) (pc2 := 10) (E_isub (pc1 := 4) (pc2 := 5) (E_fI f_R_207 ho (pc1 := 1) (E_aln d_R_gainOfTree_0 rfl) d_R_gainOfTree_1) (E_ic d_R_gainOfTree_4 rfl) d_R_gainOfTree_5) (E_fI f_R_210 ho (pc1 := 7) (E_aln d_R_gainOfTree_6 rfl) d_R_gainOfTree_7) d_R_gainOfTree_10) (E_fI f_R_232 ho (pc1 := 12) (E_aln d_R_gainOfTree_11 rfl) d_R_gainOfTree_12) d_R_gainOfTree_15) d_R_gainOfTree_16 rfl)
    (S_sq (pc1 := 71) (S_cut (S_sq (pc1 := 19) (S_In (pc1 := 18) (E_ic d_R_gainOfTree_17 rfl) d_R_gainOfTree_18 rfl)
    (S_lp (pT := 27) (pF := 71) (pS := 65) (pG := 68) (J2_lt (pF := 71) (pc1 := 20) (pc2 := 24) (E_iln d_R_gainOfTree_19 rfl) (E_fI f_R_99 ho (pc1 := 21) (E_aln d_R_gainOfTree_20 rfl) d_R_gainOfTree_21) d_R_gainOfTree_24 rfl)
    (S_In (pc1 := 64) (E_isub (pc1 := 28) (pc2 := 63) (E_iln d_R_gainOfTree_27 rfl) (E_if (pT := 58) (pF := 62) (pc1 := 59) (pc2 := 63) (C_and (pc1 := 50) (C_and (pc1 := 39) (J2_ne (pF := 62) (pc1 := 34) (pc2 := 36) (E_aI (pc1 := 32) (pc2 := 33) (E_fR f_R_59 ho (pc1 := 29) (E_aln d_R_gainOfTree_28 rfl) d_R_gainOfTree_29) (E_iln d_R_gainOfTree_32 rfl) d_R_gainOfTree_33) (E_bi d_R_gainOfTree_34 rfl) d_R_gainOfTree_36 rfl) (J2_ne (pF := 62) (pc1 := 45) (pc2 := 47) (E_aI (pc1 := 43) (pc2 := 44) (E_fR f_R_13 ho (pc1 := 40) (E_aln d_R_gainOfTree_39 rfl) d_R_gainOfTree_40) (E_iln d_R_gainOfTree_43 rfl) d_R_gainOfTree_44) (E_bi d_R_gainOfTree_45 rfl) d_R_gainOfTree_47 rfl)) (J1_ne (pF := 62) (pc2 := 55) (E_x (O_V k_R_244 (v_R_isUsedOutside _) ⟨rfl, rfl⟩ ho (rk hR rfl) (by decide) (T := KT10) (N := 50) rfl (by decide) (pc1 := 51) (pc2 := 52) (E_aln d_R_gainOfTree_50 rfl) (A_c catI (pc1 := 52) (E_iln d_R_gainOfTree_51 rfl) A_n) d_R_gainOfTree_52)) d_R_gainOfTree_55 rfl)) (E_ic d_R_gainOfTree_58 rfl) d_R_gainOfTree_59 rfl (E_ic d_R_gainOfTree_62 rfl)) d_R_gainOfTree_63) d_R_gainOfTree_64 rfl)
    (S_Inc d_R_gainOfTree_65 rfl) d_R_gainOfTree_68 rfl)))
    (S_ri hrt (pc1 := 72) (E_iln d_R_gainOfTree_71 rfl) d_R_gainOfTree_72)))
theorem d_R_laySeed_0 : decode prog_12_method_42_code 0 = .ok (.iconst 1, 1) := by decide +kernel
theorem d_R_laySeed_1 : decode prog_12_method_42_code 1 = .ok (.istore_n 3, 1) := by decide +kernel
theorem d_R_laySeed_2 : decode prog_12_method_42_code 2 = .ok (.iconst 0, 1) := by decide +kernel
theorem d_R_laySeed_3 : decode prog_12_method_42_code 3 = .ok (.istore 4, 2) := by decide +kernel
theorem d_R_laySeed_5 : decode prog_12_method_42_code 5 = .ok (.iload 4, 2) := by decide +kernel
theorem d_R_laySeed_7 : decode prog_12_method_42_code 7 = .ok (.aload_n 0, 1) := by decide +kernel
theorem d_R_laySeed_8 : decode prog_12_method_42_code 8 = .ok (.getfield 207, 3) := by decide +kernel
theorem d_R_laySeed_11 : decode prog_12_method_42_code 11 = .ok (.if_icmp .ge 151, 3) := by decide +kernel
theorem d_R_laySeed_14 : decode prog_12_method_42_code 14 = .ok (.bipush (-9), 2) := by decide +kernel
theorem d_R_laySeed_16 : decode prog_12_method_42_code 16 = .ok (.istore 5, 2) := by decide +kernel
theorem d_R_laySeed_18 : decode prog_12_method_42_code 18 = .ok (.aload_n 0, 1) := by decide +kernel
theorem d_R_laySeed_19 : decode prog_12_method_42_code 19 = .ok (.getfield 99, 3) := by decide +kernel
theorem d_R_laySeed_22 : decode prog_12_method_42_code 22 = .ok (.iconst 1, 1) := by decide +kernel
theorem d_R_laySeed_23 : decode prog_12_method_42_code 23 = .ok (.isub, 1) := by decide +kernel
theorem d_R_laySeed_24 : decode prog_12_method_42_code 24 = .ok (.istore 6, 2) := by decide +kernel
theorem d_R_laySeed_26 : decode prog_12_method_42_code 26 = .ok (.iload 6, 2) := by decide +kernel
theorem d_R_laySeed_28 : decode prog_12_method_42_code 28 = .ok (.ifCond .lt 91, 3) := by decide +kernel
theorem d_R_laySeed_31 : decode prog_12_method_42_code 31 = .ok (.aload_n 0, 1) := by decide +kernel
theorem d_R_laySeed_32 : decode prog_12_method_42_code 32 = .ok (.getfield 13, 3) := by decide +kernel
theorem d_R_laySeed_35 : decode prog_12_method_42_code 35 = .ok (.iload 6, 2) := by decide +kernel
theorem d_R_laySeed_37 : decode prog_12_method_42_code 37 = .ok (.iaload, 1) := by decide +kernel
theorem d_R_laySeed_38 : decode prog_12_method_42_code 38 = .ok (.bipush 6, 2) := by decide +kernel
theorem d_R_laySeed_40 : decode prog_12_method_42_code 40 = .ok (.if_icmp .ne 56, 3) := by decide +kernel
theorem d_R_laySeed_43 : decode prog_12_method_42_code 43 = .ok (.aload_n 0, 1) := by decide +kernel
theorem d_R_laySeed_44 : decode prog_12_method_42_code 44 = .ok (.getfield 16, 3) := by decide +kernel
theorem d_R_laySeed_47 : decode prog_12_method_42_code 47 = .ok (.iload 6, 2) := by decide +kernel
theorem d_R_laySeed_49 : decode prog_12_method_42_code 49 = .ok (.iaload, 1) := by decide +kernel
theorem d_R_laySeed_50 : decode prog_12_method_42_code 50 = .ok (.iload_n 1, 1) := by decide +kernel
theorem d_R_laySeed_51 : decode prog_12_method_42_code 51 = .ok (.if_icmp .ne 45, 3) := by decide +kernel
theorem d_R_laySeed_54 : decode prog_12_method_42_code 54 = .ok (.aload_n 0, 1) := by decide +kernel
theorem d_R_laySeed_55 : decode prog_12_method_42_code 55 = .ok (.getfield 19, 3) := by decide +kernel
theorem d_R_laySeed_58 : decode prog_12_method_42_code 58 = .ok (.iload 6, 2) := by decide +kernel
theorem d_R_laySeed_60 : decode prog_12_method_42_code 60 = .ok (.iaload, 1) := by decide +kernel
theorem d_R_laySeed_61 : decode prog_12_method_42_code 61 = .ok (.iload_n 2, 1) := by decide +kernel
theorem d_R_laySeed_62 : decode prog_12_method_42_code 62 = .ok (.iload 4, 2) := by decide +kernel
theorem d_R_laySeed_64 : decode prog_12_method_42_code 64 = .ok (.iadd, 1) := by decide +kernel
theorem d_R_laySeed_65 : decode prog_12_method_42_code 65 = .ok (.if_icmp .ne 31, 3) := by decide +kernel
theorem d_R_laySeed_68 : decode prog_12_method_42_code 68 = .ok (.aload_n 0, 1) := by decide +kernel
theorem d_R_laySeed_69 : decode prog_12_method_42_code 69 = .ok (.getfield 53, 3) := by decide +kernel
theorem d_R_laySeed_72 : decode prog_12_method_42_code 72 = .ok (.iload 6, 2) := by decide +kernel
theorem d_R_laySeed_74 : decode prog_12_method_42_code 74 = .ok (.iaload, 1) := by decide +kernel
theorem d_R_laySeed_75 : decode prog_12_method_42_code 75 = .ok (.bipush (-9), 2) := by decide +kernel
theorem d_R_laySeed_77 : decode prog_12_method_42_code 77 = .ok (.if_icmp .ne 19, 3) := by decide +kernel
theorem d_R_laySeed_80 : decode prog_12_method_42_code 80 = .ok (.aload_n 0, 1) := by decide +kernel
theorem d_R_laySeed_81 : decode prog_12_method_42_code 81 = .ok (.getfield 187, 3) := by decide +kernel
theorem d_R_laySeed_84 : decode prog_12_method_42_code 84 = .ok (.iload 6, 2) := by decide +kernel
theorem d_R_laySeed_86 : decode prog_12_method_42_code 86 = .ok (.invokestatic 190, 3) := by decide +kernel
theorem d_R_laySeed_89 : decode prog_12_method_42_code 89 = .ok (.ifCond .ne 7, 3) := by decide +kernel
theorem d_R_laySeed_92 : decode prog_12_method_42_code 92 = .ok (.iconst 1, 1) := by decide +kernel
theorem d_R_laySeed_93 : decode prog_12_method_42_code 93 = .ok (.goto 4, 3) := by decide +kernel
theorem d_R_laySeed_96 : decode prog_12_method_42_code 96 = .ok (.iconst 0, 1) := by decide +kernel
theorem d_R_laySeed_97 : decode prog_12_method_42_code 97 = .ok (.istore 7, 2) := by decide +kernel
theorem d_R_laySeed_99 : decode prog_12_method_42_code 99 = .ok (.iload 7, 2) := by decide +kernel
theorem d_R_laySeed_101 : decode prog_12_method_42_code 101 = .ok (.ifCond .eq 8, 3) := by decide +kernel
theorem d_R_laySeed_104 : decode prog_12_method_42_code 104 = .ok (.iload 6, 2) := by decide +kernel
theorem d_R_laySeed_106 : decode prog_12_method_42_code 106 = .ok (.goto 5, 3) := by decide +kernel
theorem d_R_laySeed_109 : decode prog_12_method_42_code 109 = .ok (.iload 5, 2) := by decide +kernel
theorem d_R_laySeed_111 : decode prog_12_method_42_code 111 = .ok (.istore 5, 2) := by decide +kernel
theorem d_R_laySeed_113 : decode prog_12_method_42_code 113 = .ok (.iinc 6 (-1), 3) := by decide +kernel
theorem d_R_laySeed_116 : decode prog_12_method_42_code 116 = .ok (.goto (-90), 3) := by decide +kernel
theorem d_R_laySeed_119 : decode prog_12_method_42_code 119 = .ok (.iload_n 3, 1) := by decide +kernel
theorem d_R_laySeed_120 : decode prog_12_method_42_code 120 = .ok (.ifCond .eq 14, 3) := by decide +kernel
theorem d_R_laySeed_123 : decode prog_12_method_42_code 123 = .ok (.iload 5, 2) := by decide +kernel
theorem d_R_laySeed_125 : decode prog_12_method_42_code 125 = .ok (.bipush (-9), 2) := by decide +kernel
theorem d_R_laySeed_127 : decode prog_12_method_42_code 127 = .ok (.if_icmp .eq 7, 3) := by decide +kernel
theorem d_R_laySeed_130 : decode prog_12_method_42_code 130 = .ok (.iconst 1, 1) := by decide +kernel
theorem d_R_laySeed_131 : decode prog_12_method_42_code 131 = .ok (.goto 4, 3) := by decide +kernel
theorem d_R_laySeed_134 : decode prog_12_method_42_code 134 = .ok (.iconst 0, 1) := by decide +kernel
theorem d_R_laySeed_135 : decode prog_12_method_42_code 135 = .ok (.istore_n 3, 1) := by decide +kernel
theorem d_R_laySeed_136 : decode prog_12_method_42_code 136 = .ok (.aload_n 0, 1) := by decide +kernel
theorem d_R_laySeed_137 : decode prog_12_method_42_code 137 = .ok (.getfield 65, 3) := by decide +kernel
theorem d_R_laySeed_140 : decode prog_12_method_42_code 140 = .ok (.iload 4, 2) := by decide +kernel
theorem d_R_laySeed_142 : decode prog_12_method_42_code 142 = .ok (.iload 5, 2) := by decide +kernel
theorem d_R_laySeed_144 : decode prog_12_method_42_code 144 = .ok (.bipush (-9), 2) := by decide +kernel
theorem d_R_laySeed_146 : decode prog_12_method_42_code 146 = .ok (.if_icmp .ne 7, 3) := by decide +kernel
theorem d_R_laySeed_149 : decode prog_12_method_42_code 149 = .ok (.iconst 0, 1) := by decide +kernel
theorem d_R_laySeed_150 : decode prog_12_method_42_code 150 = .ok (.goto 5, 3) := by decide +kernel
theorem d_R_laySeed_153 : decode prog_12_method_42_code 153 = .ok (.iload 5, 2) := by decide +kernel
theorem d_R_laySeed_155 : decode prog_12_method_42_code 155 = .ok (.iastore, 1) := by decide +kernel
theorem d_R_laySeed_156 : decode prog_12_method_42_code 156 = .ok (.iinc 4 1, 3) := by decide +kernel
theorem d_R_laySeed_159 : decode prog_12_method_42_code 159 = .ok (.goto (-154), 3) := by decide +kernel
theorem d_R_laySeed_162 : decode prog_12_method_42_code 162 = .ok (.iload_n 3, 1) := by decide +kernel
theorem d_R_laySeed_163 : decode prog_12_method_42_code 163 = .ok (.ifCond .eq 15, 3) := by decide +kernel
theorem d_R_laySeed_166 : decode prog_12_method_42_code 166 = .ok (.aload_n 0, 1) := by decide +kernel
theorem d_R_laySeed_167 : decode prog_12_method_42_code 167 = .ok (.iconst 0, 1) := by decide +kernel
theorem d_R_laySeed_168 : decode prog_12_method_42_code 168 = .ok (.invokevirtual 216, 3) := by decide +kernel
theorem d_R_laySeed_171 : decode prog_12_method_42_code 171 = .ok (.ifCond .eq 7, 3) := by decide +kernel
theorem d_R_laySeed_174 : decode prog_12_method_42_code 174 = .ok (.iconst 1, 1) := by decide +kernel
theorem d_R_laySeed_175 : decode prog_12_method_42_code 175 = .ok (.goto 4, 3) := by decide +kernel
theorem d_R_laySeed_178 : decode prog_12_method_42_code 178 = .ok (.iconst 0, 1) := by decide +kernel
theorem d_R_laySeed_179 : decode prog_12_method_42_code 179 = .ok (.ireturn, 1) := by decide +kernel
def B_R_laySeed (_ : Nat × Nat) : PS :=
  (sSq (sI 3 (eV (1 : Int32)))
    (sSq (sCut 4 (sSq (sI 4 (eV (0 : Int32)))
    (sLp 5 (e2 (fun x y : Int32 => decide (x < y)) (eI 4) (eFI 10 19 (eR 0)))
    (sCut 5 (sSq (sI 5 (eV (-9 : Int32)))
    (sSq (sCut 6 (sSq (sI 6 (e2 (fun x y : Int32 => x - y) (eFI 10 2 (eR 0)) (eV (1 : Int32))))
    (sLp 7 (e1 (fun x : Int32 => decide (0 ≤ x)) (eI 6))
    (sCut 7 (sSq (sI 7 (eC (cA (cA (cA (cA (e2 (fun x y : Int32 => decide (x = y)) (eAI (eFR 10 3 (eR 0)) (eI 6)) (eV (6 : Int32))) (e2 (fun x y : Int32 => decide (x = y)) (eAI (eFR 10 4 (eR 0)) (eI 6)) (eI 1))) (e2 (fun x y : Int32 => decide (x = y)) (eAI (eFR 10 5 (eR 0)) (eI 6)) (e2 (fun x y : Int32 => x + y) (eI 2) (eI 4)))) (e2 (fun x y : Int32 => decide (x = y)) (eAI (eFR 10 22 (eR 0)) (eI 6)) (eV (-9 : Int32)))) (cN (e1 (fun x : Int32 => decide (¬ x = 0)) (eX .int (xS 2 X_R_has (aC .int (eFI 10 18 (eR 0)) (aC .int (eI 6) aN)))))))))
    (sI 5 (eIf (e1 (fun x : Int32 => decide (¬ x = 0)) (eI 7)) (eI 6) (eI 5)))))
    (sInc 6 (-1)))))
    (sSq (sI 3 (eC (cA (e1 (fun x : Int32 => decide (¬ x = 0)) (eI 3)) (e2 (fun x y : Int32 => decide (¬ x = y)) (eI 5) (eV (-9 : Int32))))))
    (sAI (eFR 10 30 (eR 0)) (eI 4) (eIf (e2 (fun x y : Int32 => decide (x = y)) (eI 5) (eV (-9 : Int32))) (eV (0 : Int32)) (eI 5)))))))
    (sInc 4 (1)))))
    (sRz (eC (cA (e1 (fun x : Int32 => decide (¬ x = 0)) (eI 3)) (e1 (fun x : Int32 => decide (¬ x = 0)) (eX .int (xV 10 1 X_R_isPack (eR 0) (aC .int (eV (0 : Int32)) aN)))))))))
def X_R_laySeed : PM := fun vs h Q => (lx vs).length ≤ 8 ∧ B_R_laySeed (h.length + 0, hsz h + 0) (fun _ _ => False) (fun _ _ => False) (fun _ _ => False) Q (lini 8 vs) h
theorem v_R_laySeed (l : Launch) : Ctr l y_R_laySeed prog_12_method_42_code 8 (some .boolean) rm_R_laySeed X_R_laySeed := by
  refine Ctr_of (own := "PackLanesModel") (B := B_R_laySeed) (KR := fun _ Q => Q) (by decide) rfl (fun _ _ _ z => z) (fun _ _ _ _ z => ⟨Or.inl ⟨rfl, rfl⟩, z⟩) (Or.inr (Or.inr (Or.inl rfl))) (fun κ hl ho hR hrt hn0 => ?_)
  subst hl
  unfold B_R_laySeed
  exact (S_sq (pc1 := 2) (S_In (pc1 := 1) (E_ic d_R_laySeed_0 rfl) d_R_laySeed_1 rfl)
    (S_sq (pc1 := 162) (S_cut (S_sq (pc1 := 5) (S_I (pc1 := 3) (E_ic d_R_laySeed_2 rfl) d_R_laySeed_3)
    (S_lp (pT := 14) (pF := 162) (pS := 156) (pG := 159) (J2_lt (pF := 162) (pc1 := 7) (pc2 := 11) (E_il d_R_laySeed_5) (E_fI f_R_207 ho (pc1 := 8) (E_aln d_R_laySeed_7 rfl) d_R_laySeed_8) d_R_laySeed_11 rfl)
    (S_cut (S_sq (pc1 := 18) (S_I (pc1 := 16) (E_bi d_R_laySeed_14 rfl) d_R_laySeed_16)
    (S_sq (pc1 := 119) (S_cut (S_sq (pc1 := 26) (S_I (pc1 := 24) (E_isub (pc1 := 22) (pc2 := 23) (E_fI f_R_99 ho (pc1 := 19) (E_aln d_R_laySeed_18 rfl) d_R_laySeed_19) (E_ic d_R_laySeed_22 rfl) d_R_laySeed_23) d_R_laySeed_24)
    (S_lp (pT := 31) (pF := 119) (pS := 113) (pG := 116) (J1_ge (pF := 119) (pc2 := 28) (E_il d_R_laySeed_26) d_R_laySeed_28 rfl)
    (S_cut (S_sq (pc1 := 99) (S_I (pc1 := 97) (E_C (pT := 92) (pF := 96) (pc2 := 97) (C_and (pc1 := 80) (C_and (pc1 := 68) (C_and (pc1 := 54) (C_and (pc1 := 43) (J2_eq (pF := 96) (pc1 := 38) (pc2 := 40) (E_aI (pc1 := 35) (pc2 := 37) (E_fR f_R_13 ho (pc1 := 32) (E_aln d_R_laySeed_31 rfl) d_R_laySeed_32) (E_il d_R_laySeed_35) d_R_laySeed_37) (E_bi d_R_laySeed_38 rfl) d_R_laySeed_40 rfl) (J2_eq (pF := 96) (pc1 := 50) (pc2 := 51) (E_aI (pc1 := 47) (pc2 := 49) (E_fR f_R_16 ho (pc1 := 44) (E_aln d_R_laySeed_43 rfl) d_R_laySeed_44) (E_il d_R_laySeed_47) d_R_laySeed_49) (E_iln d_R_laySeed_50 rfl) d_R_laySeed_51 rfl)) (J2_eq (pF := 96) (pc1 := 61) (pc2 := 65) (E_aI (pc1 := 58) (pc2 := 60) (E_fR f_R_19 ho (pc1 := 55) (E_aln d_R_laySeed_54 rfl) d_R_laySeed_55) (E_il d_R_laySeed_58) d_R_laySeed_60) (E_iadd (pc1 := 62) (pc2 := 64) (E_iln d_R_laySeed_61 rfl) (E_il d_R_laySeed_62) d_R_laySeed_64) d_R_laySeed_65 rfl)) (J2_eq (pF := 96) (pc1 := 75) (pc2 := 77) (E_aI (pc1 := 72) (pc2 := 74) (E_fR f_R_53 ho (pc1 := 69) (E_aln d_R_laySeed_68 rfl) d_R_laySeed_69) (E_il d_R_laySeed_72) d_R_laySeed_74) (E_bi d_R_laySeed_75 rfl) d_R_laySeed_77 rfl)) (C_not (T1_ne (pT := 96) (pc2 := 89) (E_x (O_S k_R_190 (v_R_has _) ⟨rfl, rfl⟩ ho (rk hR rfl) (by decide) (pc2 := 86) (A_c catI (pc1 := 84) (E_fI f_R_187 ho (pc1 := 81) (E_aln d_R_laySeed_80 rfl) d_R_laySeed_81) (A_c catI (pc1 := 86) (E_il d_R_laySeed_84) A_n)) d_R_laySeed_86)) d_R_laySeed_89 rfl))) d_R_laySeed_92 d_R_laySeed_93 rfl d_R_laySeed_96 rfl) d_R_laySeed_97)
    (S_I (pc1 := 111) (E_if (pT := 104) (pF := 109) (pc1 := 106) (pc2 := 111) (J1_ne (pF := 109) (pc2 := 101) (E_il d_R_laySeed_99) d_R_laySeed_101 rfl) (E_il d_R_laySeed_104) d_R_laySeed_106 rfl (E_il d_R_laySeed_109)) d_R_laySeed_111)))
    (S_Inc d_R_laySeed_113 rfl) d_R_laySeed_116 rfl)))
    (S_sq (pc1 := 136) (S_In (pc1 := 135) (E_C (pT := 130) (pF := 134) (pc2 := 135) (C_and (pc1 := 123) (J1_ne (pF := 134) (pc2 := 120) (E_iln d_R_laySeed_119 rfl) d_R_laySeed_120 rfl) (J2_ne (pF := 134) (pc1 := 125) (pc2 := 127) (E_il d_R_laySeed_123) (E_bi d_R_laySeed_125 rfl) d_R_laySeed_127 rfl)) d_R_laySeed_130 d_R_laySeed_131 rfl d_R_laySeed_134 rfl) d_R_laySeed_135 rfl)
    (S_AI (pc1 := 140) (pc2 := 142) (pc3 := 155) (E_fR f_R_65 ho (pc1 := 137) (E_aln d_R_laySeed_136 rfl) d_R_laySeed_137) (E_il d_R_laySeed_140) (E_if (pT := 149) (pF := 153) (pc1 := 150) (pc2 := 155) (J2_eq (pF := 153) (pc1 := 144) (pc2 := 146) (E_il d_R_laySeed_142) (E_bi d_R_laySeed_144 rfl) d_R_laySeed_146 rfl) (E_ic d_R_laySeed_149 rfl) d_R_laySeed_150 rfl (E_il d_R_laySeed_153)) d_R_laySeed_155)))))
    (S_Inc d_R_laySeed_156 rfl) d_R_laySeed_159 rfl)))
    (S_rz hrt (pc1 := 179) (E_C (pT := 174) (pF := 178) (pc2 := 179) (C_and (pc1 := 166) (J1_ne (pF := 178) (pc2 := 163) (E_iln d_R_laySeed_162 rfl) d_R_laySeed_163 rfl) (J1_ne (pF := 178) (pc2 := 171) (E_x (O_V k_R_216 (v_R_isPack _) ⟨rfl, rfl⟩ ho (rk hR rfl) (by decide) (T := KT10) (N := 50) rfl (by decide) (pc1 := 167) (pc2 := 168) (E_aln d_R_laySeed_166 rfl) (A_c catI (pc1 := 168) (E_ic d_R_laySeed_167 rfl) A_n) d_R_laySeed_168)) d_R_laySeed_171 rfl)) d_R_laySeed_174 d_R_laySeed_175 rfl d_R_laySeed_178 rfl) d_R_laySeed_179)))
theorem d_R_nodeOf_0 : decode prog_12_method_43_code 0 = .ok (.iconst 1, 1) := by decide +kernel
theorem d_R_nodeOf_1 : decode prog_12_method_43_code 1 = .ok (.iload_n 1, 1) := by decide +kernel
theorem d_R_nodeOf_2 : decode prog_12_method_43_code 2 = .ok (.ishl, 1) := by decide +kernel
theorem d_R_nodeOf_3 : decode prog_12_method_43_code 3 = .ok (.istore_n 2, 1) := by decide +kernel
theorem d_R_nodeOf_4 : decode prog_12_method_43_code 4 = .ok (.iconst 0, 1) := by decide +kernel
theorem d_R_nodeOf_5 : decode prog_12_method_43_code 5 = .ok (.istore_n 3, 1) := by decide +kernel
theorem d_R_nodeOf_6 : decode prog_12_method_43_code 6 = .ok (.iload_n 3, 1) := by decide +kernel
theorem d_R_nodeOf_7 : decode prog_12_method_43_code 7 = .ok (.aload_n 0, 1) := by decide +kernel
theorem d_R_nodeOf_8 : decode prog_12_method_43_code 8 = .ok (.getfield 99, 3) := by decide +kernel
theorem d_R_nodeOf_11 : decode prog_12_method_43_code 11 = .ok (.if_icmp .ge 95, 3) := by decide +kernel
theorem d_R_nodeOf_14 : decode prog_12_method_43_code 14 = .ok (.aload_n 0, 1) := by decide +kernel
theorem d_R_nodeOf_15 : decode prog_12_method_43_code 15 = .ok (.getfield 53, 3) := by decide +kernel
theorem d_R_nodeOf_18 : decode prog_12_method_43_code 18 = .ok (.iload_n 1, 1) := by decide +kernel
theorem d_R_nodeOf_19 : decode prog_12_method_43_code 19 = .ok (.iaload, 1) := by decide +kernel
theorem d_R_nodeOf_20 : decode prog_12_method_43_code 20 = .ok (.bipush (-9), 2) := by decide +kernel
theorem d_R_nodeOf_22 : decode prog_12_method_43_code 22 = .ok (.if_icmp .eq 22, 3) := by decide +kernel
theorem d_R_nodeOf_25 : decode prog_12_method_43_code 25 = .ok (.aload_n 0, 1) := by decide +kernel
theorem d_R_nodeOf_26 : decode prog_12_method_43_code 26 = .ok (.getfield 53, 3) := by decide +kernel
theorem d_R_nodeOf_29 : decode prog_12_method_43_code 29 = .ok (.iload_n 3, 1) := by decide +kernel
theorem d_R_nodeOf_30 : decode prog_12_method_43_code 30 = .ok (.iaload, 1) := by decide +kernel
theorem d_R_nodeOf_31 : decode prog_12_method_43_code 31 = .ok (.aload_n 0, 1) := by decide +kernel
theorem d_R_nodeOf_32 : decode prog_12_method_43_code 32 = .ok (.getfield 53, 3) := by decide +kernel
theorem d_R_nodeOf_35 : decode prog_12_method_43_code 35 = .ok (.iload_n 1, 1) := by decide +kernel
theorem d_R_nodeOf_36 : decode prog_12_method_43_code 36 = .ok (.iaload, 1) := by decide +kernel
theorem d_R_nodeOf_37 : decode prog_12_method_43_code 37 = .ok (.if_icmp .ne 7, 3) := by decide +kernel
theorem d_R_nodeOf_40 : decode prog_12_method_43_code 40 = .ok (.iconst 1, 1) := by decide +kernel
theorem d_R_nodeOf_41 : decode prog_12_method_43_code 41 = .ok (.goto 4, 3) := by decide +kernel
theorem d_R_nodeOf_44 : decode prog_12_method_43_code 44 = .ok (.iconst 0, 1) := by decide +kernel
theorem d_R_nodeOf_45 : decode prog_12_method_43_code 45 = .ok (.istore 4, 2) := by decide +kernel
theorem d_R_nodeOf_47 : decode prog_12_method_43_code 47 = .ok (.aload_n 0, 1) := by decide +kernel
theorem d_R_nodeOf_48 : decode prog_12_method_43_code 48 = .ok (.getfield 59, 3) := by decide +kernel
theorem d_R_nodeOf_51 : decode prog_12_method_43_code 51 = .ok (.iload_n 1, 1) := by decide +kernel
theorem d_R_nodeOf_52 : decode prog_12_method_43_code 52 = .ok (.iaload, 1) := by decide +kernel
theorem d_R_nodeOf_53 : decode prog_12_method_43_code 53 = .ok (.bipush (-9), 2) := by decide +kernel
theorem d_R_nodeOf_55 : decode prog_12_method_43_code 55 = .ok (.if_icmp .eq 22, 3) := by decide +kernel
theorem d_R_nodeOf_58 : decode prog_12_method_43_code 58 = .ok (.aload_n 0, 1) := by decide +kernel
theorem d_R_nodeOf_59 : decode prog_12_method_43_code 59 = .ok (.getfield 59, 3) := by decide +kernel
theorem d_R_nodeOf_62 : decode prog_12_method_43_code 62 = .ok (.iload_n 3, 1) := by decide +kernel
theorem d_R_nodeOf_63 : decode prog_12_method_43_code 63 = .ok (.iaload, 1) := by decide +kernel
theorem d_R_nodeOf_64 : decode prog_12_method_43_code 64 = .ok (.aload_n 0, 1) := by decide +kernel
theorem d_R_nodeOf_65 : decode prog_12_method_43_code 65 = .ok (.getfield 59, 3) := by decide +kernel
theorem d_R_nodeOf_68 : decode prog_12_method_43_code 68 = .ok (.iload_n 1, 1) := by decide +kernel
theorem d_R_nodeOf_69 : decode prog_12_method_43_code 69 = .ok (.iaload, 1) := by decide +kernel
theorem d_R_nodeOf_70 : decode prog_12_method_43_code 70 = .ok (.if_icmp .ne 7, 3) := by decide +kernel
theorem d_R_nodeOf_73 : decode prog_12_method_43_code 73 = .ok (.iconst 1, 1) := by decide +kernel
theorem d_R_nodeOf_74 : decode prog_12_method_43_code 74 = .ok (.goto 4, 3) := by decide +kernel
theorem d_R_nodeOf_77 : decode prog_12_method_43_code 77 = .ok (.iconst 0, 1) := by decide +kernel
theorem d_R_nodeOf_78 : decode prog_12_method_43_code 78 = .ok (.istore 5, 2) := by decide +kernel
theorem d_R_nodeOf_80 : decode prog_12_method_43_code 80 = .ok (.iload_n 2, 1) := by decide +kernel
theorem d_R_nodeOf_81 : decode prog_12_method_43_code 81 = .ok (.iload 4, 2) := by decide +kernel
theorem d_R_nodeOf_83 : decode prog_12_method_43_code 83 = .ok (.ifCond .ne 8, 3) := by decide +kernel
theorem d_R_nodeOf_86 : decode prog_12_method_43_code 86 = .ok (.iload 5, 2) := by decide +kernel
theorem d_R_nodeOf_88 : decode prog_12_method_43_code 88 = .ok (.ifCond .eq 9, 3) := by decide +kernel
theorem d_R_nodeOf_91 : decode prog_12_method_43_code 91 = .ok (.iconst 1, 1) := by decide +kernel
theorem d_R_nodeOf_92 : decode prog_12_method_43_code 92 = .ok (.iload_n 3, 1) := by decide +kernel
theorem d_R_nodeOf_93 : decode prog_12_method_43_code 93 = .ok (.ishl, 1) := by decide +kernel
theorem d_R_nodeOf_94 : decode prog_12_method_43_code 94 = .ok (.goto 4, 3) := by decide +kernel
theorem d_R_nodeOf_97 : decode prog_12_method_43_code 97 = .ok (.iconst 0, 1) := by decide +kernel
theorem d_R_nodeOf_98 : decode prog_12_method_43_code 98 = .ok (.ior, 1) := by decide +kernel
theorem d_R_nodeOf_99 : decode prog_12_method_43_code 99 = .ok (.istore_n 2, 1) := by decide +kernel
theorem d_R_nodeOf_100 : decode prog_12_method_43_code 100 = .ok (.iinc 3 1, 3) := by decide +kernel
theorem d_R_nodeOf_103 : decode prog_12_method_43_code 103 = .ok (.goto (-97), 3) := by decide +kernel
theorem d_R_nodeOf_106 : decode prog_12_method_43_code 106 = .ok (.iload_n 2, 1) := by decide +kernel
theorem d_R_nodeOf_107 : decode prog_12_method_43_code 107 = .ok (.ireturn, 1) := by decide +kernel
def B_R_nodeOf (_ : Nat × Nat) : PS :=
  (sSq (sI 2 (e2 (fun x y : Int32 => x <<< (y &&& 31)) (eV (1 : Int32)) (eI 1)))
    (sSq (sCut 3 (sSq (sI 3 (eV (0 : Int32)))
    (sLp 4 (e2 (fun x y : Int32 => decide (x < y)) (eI 3) (eFI 10 2 (eR 0)))
    (sCut 4 (sSq (sI 4 (eC (cA (e2 (fun x y : Int32 => decide (¬ x = y)) (eAI (eFR 10 22 (eR 0)) (eI 1)) (eV (-9 : Int32))) (e2 (fun x y : Int32 => decide (x = y)) (eAI (eFR 10 22 (eR 0)) (eI 3)) (eAI (eFR 10 22 (eR 0)) (eI 1))))))
    (sSq (sI 5 (eC (cA (e2 (fun x y : Int32 => decide (¬ x = y)) (eAI (eFR 10 27 (eR 0)) (eI 1)) (eV (-9 : Int32))) (e2 (fun x y : Int32 => decide (x = y)) (eAI (eFR 10 27 (eR 0)) (eI 3)) (eAI (eFR 10 27 (eR 0)) (eI 1))))))
    (sI 2 (e2 (fun x y : Int32 => x ||| y) (eI 2) (eIf (cO (e1 (fun x : Int32 => decide (¬ x = 0)) (eI 4)) (e1 (fun x : Int32 => decide (¬ x = 0)) (eI 5))) (e2 (fun x y : Int32 => x <<< (y &&& 31)) (eV (1 : Int32)) (eI 3)) (eV (0 : Int32))))))))
    (sInc 3 (1)))))
    (sRt .int (eI 2))))
def X_R_nodeOf : PM := fun vs h Q => (lx vs).length ≤ 6 ∧ B_R_nodeOf (h.length + 0, hsz h + 0) (fun _ _ => False) (fun _ _ => False) (fun _ _ => False) Q (lini 6 vs) h
theorem v_R_nodeOf (l : Launch) : Ctr l y_R_nodeOf prog_12_method_43_code 6 (some .int) rm_R_nodeOf X_R_nodeOf := by
  refine Ctr_of (own := "PackLanesModel") (B := B_R_nodeOf) (KR := fun _ Q => Q) (by decide) rfl (fun _ _ _ z => z) (fun _ _ _ _ z => ⟨Or.inl ⟨rfl, rfl⟩, z⟩) (Or.inr (Or.inl rfl)) (fun κ hl ho hR hrt hn0 => ?_)
  subst hl
  unfold B_R_nodeOf
  exact (S_sq (pc1 := 4) (S_In (pc1 := 3) (E_ishl (pc1 := 1) (pc2 := 2) (E_ic d_R_nodeOf_0 rfl) (E_iln d_R_nodeOf_1 rfl) d_R_nodeOf_2) d_R_nodeOf_3 rfl)
    (S_sq (pc1 := 106) (S_cut (S_sq (pc1 := 6) (S_In (pc1 := 5) (E_ic d_R_nodeOf_4 rfl) d_R_nodeOf_5 rfl)
    (S_lp (pT := 14) (pF := 106) (pS := 100) (pG := 103) (J2_lt (pF := 106) (pc1 := 7) (pc2 := 11) (E_iln d_R_nodeOf_6 rfl) (E_fI f_R_99 ho (pc1 := 8) (E_aln d_R_nodeOf_7 rfl) d_R_nodeOf_8) d_R_nodeOf_11 rfl)
    (S_cut (S_sq (pc1 := 47) (S_I (pc1 := 45) (E_C (pT := 40) (pF := 44) (pc2 := 45) (C_and (pc1 := 25) (J2_ne (pF := 44) (pc1 := 20) (pc2 := 22) (E_aI (pc1 := 18) (pc2 := 19) (E_fR f_R_53 ho (pc1 := 15) (E_aln d_R_nodeOf_14 rfl) d_R_nodeOf_15) (E_iln d_R_nodeOf_18 rfl) d_R_nodeOf_19) (E_bi d_R_nodeOf_20 rfl) d_R_nodeOf_22 rfl) (J2_eq (pF := 44) (pc1 := 31) (pc2 := 37) (E_aI (pc1 := 29) (pc2 := 30) (E_fR f_R_53 ho (pc1 := 26) (E_aln d_R_nodeOf_25 rfl) d_R_nodeOf_26) (E_iln d_R_nodeOf_29 rfl) d_R_nodeOf_30) (E_aI (pc1 := 35) (pc2 := 36) (E_fR f_R_53 ho (pc1 := 32) (E_aln d_R_nodeOf_31 rfl) d_R_nodeOf_32) (E_iln d_R_nodeOf_35 rfl) d_R_nodeOf_36) d_R_nodeOf_37 rfl)) d_R_nodeOf_40 d_R_nodeOf_41 rfl d_R_nodeOf_44 rfl) d_R_nodeOf_45)
    (S_sq (pc1 := 80) (S_I (pc1 := 78) (E_C (pT := 73) (pF := 77) (pc2 := 78) (C_and (pc1 := 58) (J2_ne (pF := 77) (pc1 := 53) (pc2 := 55) (E_aI (pc1 := 51) (pc2 := 52) (E_fR f_R_59 ho (pc1 := 48) (E_aln d_R_nodeOf_47 rfl) d_R_nodeOf_48) (E_iln d_R_nodeOf_51 rfl) d_R_nodeOf_52) (E_bi d_R_nodeOf_53 rfl) d_R_nodeOf_55 rfl) (J2_eq (pF := 77) (pc1 := 64) (pc2 := 70) (E_aI (pc1 := 62) (pc2 := 63) (E_fR f_R_59 ho (pc1 := 59) (E_aln d_R_nodeOf_58 rfl) d_R_nodeOf_59) (E_iln d_R_nodeOf_62 rfl) d_R_nodeOf_63) (E_aI (pc1 := 68) (pc2 := 69) (E_fR f_R_59 ho (pc1 := 65) (E_aln d_R_nodeOf_64 rfl) d_R_nodeOf_65) (E_iln d_R_nodeOf_68 rfl) d_R_nodeOf_69) d_R_nodeOf_70 rfl)) d_R_nodeOf_73 d_R_nodeOf_74 rfl d_R_nodeOf_77 rfl) d_R_nodeOf_78)
    (S_In (pc1 := 99) (E_ior (pc1 := 81) (pc2 := 98) (E_iln d_R_nodeOf_80 rfl) (E_if (pT := 91) (pF := 97) (pc1 := 94) (pc2 := 98) (C_or (pc1 := 86) (T1_ne (pT := 91) (pc2 := 83) (E_il d_R_nodeOf_81) d_R_nodeOf_83 rfl) (J1_ne (pF := 97) (pc2 := 88) (E_il d_R_nodeOf_86) d_R_nodeOf_88 rfl)) (E_ishl (pc1 := 92) (pc2 := 93) (E_ic d_R_nodeOf_91 rfl) (E_iln d_R_nodeOf_92 rfl) d_R_nodeOf_93) d_R_nodeOf_94 rfl (E_ic d_R_nodeOf_97 rfl)) d_R_nodeOf_98) d_R_nodeOf_99 rfl))))
    (S_Inc d_R_nodeOf_100 rfl) d_R_nodeOf_103 rfl)))
    (S_ri hrt (pc1 := 107) (E_iln d_R_nodeOf_106 rfl) d_R_nodeOf_107)))
theorem d_R_isReady_0 : decode prog_12_method_44_code 0 = .ok (.iconst 1, 1) := by decide +kernel
theorem d_R_isReady_1 : decode prog_12_method_44_code 1 = .ok (.istore_n 3, 1) := by decide +kernel
theorem d_R_isReady_2 : decode prog_12_method_44_code 2 = .ok (.iconst 0, 1) := by decide +kernel
theorem d_R_isReady_3 : decode prog_12_method_44_code 3 = .ok (.istore 4, 2) := by decide +kernel
theorem d_R_isReady_5 : decode prog_12_method_44_code 5 = .ok (.iload 4, 2) := by decide +kernel
theorem d_R_isReady_7 : decode prog_12_method_44_code 7 = .ok (.aload_n 0, 1) := by decide +kernel
theorem d_R_isReady_8 : decode prog_12_method_44_code 8 = .ok (.getfield 99, 3) := by decide +kernel
theorem d_R_isReady_11 : decode prog_12_method_44_code 11 = .ok (.if_icmp .ge 46, 3) := by decide +kernel
theorem d_R_isReady_14 : decode prog_12_method_44_code 14 = .ok (.iload_n 3, 1) := by decide +kernel
theorem d_R_isReady_15 : decode prog_12_method_44_code 15 = .ok (.ifCond .eq 34, 3) := by decide +kernel
theorem d_R_isReady_18 : decode prog_12_method_44_code 18 = .ok (.iload_n 1, 1) := by decide +kernel
theorem d_R_isReady_19 : decode prog_12_method_44_code 19 = .ok (.iload 4, 2) := by decide +kernel
theorem d_R_isReady_21 : decode prog_12_method_44_code 21 = .ok (.invokestatic 190, 3) := by decide +kernel
theorem d_R_isReady_24 : decode prog_12_method_44_code 24 = .ok (.ifCond .eq 21, 3) := by decide +kernel
theorem d_R_isReady_27 : decode prog_12_method_44_code 27 = .ok (.aload_n 0, 1) := by decide +kernel
theorem d_R_isReady_28 : decode prog_12_method_44_code 28 = .ok (.getfield 47, 3) := by decide +kernel
theorem d_R_isReady_31 : decode prog_12_method_44_code 31 = .ok (.iload 4, 2) := by decide +kernel
theorem d_R_isReady_33 : decode prog_12_method_44_code 33 = .ok (.iaload, 1) := by decide +kernel
theorem d_R_isReady_34 : decode prog_12_method_44_code 34 = .ok (.iload_n 1, 1) := by decide +kernel
theorem d_R_isReady_35 : decode prog_12_method_44_code 35 = .ok (.iconst (-1), 1) := by decide +kernel
theorem d_R_isReady_36 : decode prog_12_method_44_code 36 = .ok (.ixor, 1) := by decide +kernel
theorem d_R_isReady_37 : decode prog_12_method_44_code 37 = .ok (.iand, 1) := by decide +kernel
theorem d_R_isReady_38 : decode prog_12_method_44_code 38 = .ok (.iload_n 2, 1) := by decide +kernel
theorem d_R_isReady_39 : decode prog_12_method_44_code 39 = .ok (.iconst (-1), 1) := by decide +kernel
theorem d_R_isReady_40 : decode prog_12_method_44_code 40 = .ok (.ixor, 1) := by decide +kernel
theorem d_R_isReady_41 : decode prog_12_method_44_code 41 = .ok (.iand, 1) := by decide +kernel
theorem d_R_isReady_42 : decode prog_12_method_44_code 42 = .ok (.ifCond .ne 7, 3) := by decide +kernel
theorem d_R_isReady_45 : decode prog_12_method_44_code 45 = .ok (.iconst 1, 1) := by decide +kernel
theorem d_R_isReady_46 : decode prog_12_method_44_code 46 = .ok (.goto 4, 3) := by decide +kernel
theorem d_R_isReady_49 : decode prog_12_method_44_code 49 = .ok (.iconst 0, 1) := by decide +kernel
theorem d_R_isReady_50 : decode prog_12_method_44_code 50 = .ok (.istore_n 3, 1) := by decide +kernel
theorem d_R_isReady_51 : decode prog_12_method_44_code 51 = .ok (.iinc 4 1, 3) := by decide +kernel
theorem d_R_isReady_54 : decode prog_12_method_44_code 54 = .ok (.goto (-49), 3) := by decide +kernel
theorem d_R_isReady_57 : decode prog_12_method_44_code 57 = .ok (.iload_n 3, 1) := by decide +kernel
theorem d_R_isReady_58 : decode prog_12_method_44_code 58 = .ok (.ireturn, 1) := by decide +kernel
def B_R_isReady (_ : Nat × Nat) : PS :=
  (sSq (sI 3 (eV (1 : Int32)))
    (sSq (sCut 4 (sSq (sI 4 (eV (0 : Int32)))
    (sLp 5 (e2 (fun x y : Int32 => decide (x < y)) (eI 4) (eFI 10 2 (eR 0)))
    (sI 3 (eC (cA (e1 (fun x : Int32 => decide (¬ x = 0)) (eI 3)) (cO (cN (e1 (fun x : Int32 => decide (¬ x = 0)) (eX .int (xS 2 X_R_has (aC .int (eI 1) (aC .int (eI 4) aN)))))) (e1 (fun x : Int32 => decide (x = 0)) (e2 (fun x y : Int32 => x &&& y) (e2 (fun x y : Int32 => x &&& y) (eAI (eFR 10 20 (eR 0)) (eI 4)) (e2 (fun x y : Int32 => x ^^^ y) (eI 1) (eV (-1 : Int32)))) (e2 (fun x y : Int32 => x ^^^ y) (eI 2) (eV (-1 : Int32)))))))))
    (sInc 4 (1)))))
    (sRz (eI 3))))
def X_R_isReady : PM := fun vs h Q => (lx vs).length ≤ 5 ∧ B_R_isReady (h.length + 0, hsz h + 0) (fun _ _ => False) (fun _ _ => False) (fun _ _ => False) Q (lini 5 vs) h
theorem v_R_isReady (l : Launch) : Ctr l y_R_isReady prog_12_method_44_code 5 (some .boolean) rm_R_isReady X_R_isReady := by
  refine Ctr_of (own := "PackLanesModel") (B := B_R_isReady) (KR := fun _ Q => Q) (by decide) rfl (fun _ _ _ z => z) (fun _ _ _ _ z => ⟨Or.inl ⟨rfl, rfl⟩, z⟩) (Or.inr (Or.inr (Or.inl rfl))) (fun κ hl ho hR hrt hn0 => ?_)
  subst hl
  unfold B_R_isReady
  exact (S_sq (pc1 := 2) (S_In (pc1 := 1) (E_ic d_R_isReady_0 rfl) d_R_isReady_1 rfl)
    (S_sq (pc1 := 57) (S_cut (S_sq (pc1 := 5) (S_I (pc1 := 3) (E_ic d_R_isReady_2 rfl) d_R_isReady_3)
    (S_lp (pT := 14) (pF := 57) (pS := 51) (pG := 54) (J2_lt (pF := 57) (pc1 := 7) (pc2 := 11) (E_il d_R_isReady_5) (E_fI f_R_99 ho (pc1 := 8) (E_aln d_R_isReady_7 rfl) d_R_isReady_8) d_R_isReady_11 rfl)
    (S_In (pc1 := 50) (E_C (pT := 45) (pF := 49) (pc2 := 50) (C_and (pc1 := 18) (J1_ne (pF := 49) (pc2 := 15) (E_iln d_R_isReady_14 rfl) d_R_isReady_15 rfl) (C_or (pc1 := 27) (C_not (J1_ne (pF := 45) (pc2 := 24) (E_x (O_S k_R_190 (v_R_has _) ⟨rfl, rfl⟩ ho (rk hR rfl) (by decide) (pc2 := 21) (A_c catI (pc1 := 19) (E_iln d_R_isReady_18 rfl) (A_c catI (pc1 := 21) (E_il d_R_isReady_19) A_n)) d_R_isReady_21)) d_R_isReady_24 rfl)) (J1_eq (pF := 49) (pc2 := 42) (E_iand (pc1 := 38) (pc2 := 41) (E_iand (pc1 := 34) (pc2 := 37) (E_aI (pc1 := 31) (pc2 := 33) (E_fR f_R_47 ho (pc1 := 28) (E_aln d_R_isReady_27 rfl) d_R_isReady_28) (E_il d_R_isReady_31) d_R_isReady_33) (E_ixor (pc1 := 35) (pc2 := 36) (E_iln d_R_isReady_34 rfl) (E_ic d_R_isReady_35 rfl) d_R_isReady_36) d_R_isReady_37) (E_ixor (pc1 := 39) (pc2 := 40) (E_iln d_R_isReady_38 rfl) (E_ic d_R_isReady_39 rfl) d_R_isReady_40) d_R_isReady_41) d_R_isReady_42 rfl))) d_R_isReady_45 d_R_isReady_46 rfl d_R_isReady_49 rfl) d_R_isReady_50 rfl)
    (S_Inc d_R_isReady_51 rfl) d_R_isReady_54 rfl)))
    (S_rz hrt (pc1 := 58) (E_iln d_R_isReady_57 rfl) d_R_isReady_58)))
theorem d_R_setInOrder_0 : decode prog_12_method_45_code 0 = .ok (.iconst 0, 1) := by decide +kernel
theorem d_R_setInOrder_1 : decode prog_12_method_45_code 1 = .ok (.istore_n 1, 1) := by decide +kernel
theorem d_R_setInOrder_2 : decode prog_12_method_45_code 2 = .ok (.iconst 0, 1) := by decide +kernel
theorem d_R_setInOrder_3 : decode prog_12_method_45_code 3 = .ok (.istore_n 2, 1) := by decide +kernel
theorem d_R_setInOrder_4 : decode prog_12_method_45_code 4 = .ok (.iconst 1, 1) := by decide +kernel
theorem d_R_setInOrder_5 : decode prog_12_method_45_code 5 = .ok (.istore_n 3, 1) := by decide +kernel
theorem d_R_setInOrder_6 : decode prog_12_method_45_code 6 = .ok (.iload_n 3, 1) := by decide +kernel
theorem d_R_setInOrder_7 : decode prog_12_method_45_code 7 = .ok (.ifCond .eq 113, 3) := by decide +kernel
theorem d_R_setInOrder_10 : decode prog_12_method_45_code 10 = .ok (.iconst 0, 1) := by decide +kernel
theorem d_R_setInOrder_11 : decode prog_12_method_45_code 11 = .ok (.istore_n 3, 1) := by decide +kernel
theorem d_R_setInOrder_12 : decode prog_12_method_45_code 12 = .ok (.iconst 0, 1) := by decide +kernel
theorem d_R_setInOrder_13 : decode prog_12_method_45_code 13 = .ok (.istore 4, 2) := by decide +kernel
theorem d_R_setInOrder_15 : decode prog_12_method_45_code 15 = .ok (.iload 4, 2) := by decide +kernel
theorem d_R_setInOrder_17 : decode prog_12_method_45_code 17 = .ok (.aload_n 0, 1) := by decide +kernel
theorem d_R_setInOrder_18 : decode prog_12_method_45_code 18 = .ok (.getfield 99, 3) := by decide +kernel
theorem d_R_setInOrder_21 : decode prog_12_method_45_code 21 = .ok (.if_icmp .ge 96, 3) := by decide +kernel
theorem d_R_setInOrder_24 : decode prog_12_method_45_code 24 = .ok (.iload_n 3, 1) := by decide +kernel
theorem d_R_setInOrder_25 : decode prog_12_method_45_code 25 = .ok (.ifCond .ne 92, 3) := by decide +kernel
theorem d_R_setInOrder_28 : decode prog_12_method_45_code 28 = .ok (.aload_n 0, 1) := by decide +kernel
theorem d_R_setInOrder_29 : decode prog_12_method_45_code 29 = .ok (.iload 4, 2) := by decide +kernel
theorem d_R_setInOrder_31 : decode prog_12_method_45_code 31 = .ok (.invokevirtual 247, 3) := by decide +kernel
theorem d_R_setInOrder_34 : decode prog_12_method_45_code 34 = .ok (.istore 5, 2) := by decide +kernel
theorem d_R_setInOrder_36 : decode prog_12_method_45_code 36 = .ok (.iload_n 1, 1) := by decide +kernel
theorem d_R_setInOrder_37 : decode prog_12_method_45_code 37 = .ok (.iload 4, 2) := by decide +kernel
theorem d_R_setInOrder_39 : decode prog_12_method_45_code 39 = .ok (.invokestatic 190, 3) := by decide +kernel
theorem d_R_setInOrder_42 : decode prog_12_method_45_code 42 = .ok (.ifCond .ne 69, 3) := by decide +kernel
theorem d_R_setInOrder_45 : decode prog_12_method_45_code 45 = .ok (.aload_n 0, 1) := by decide +kernel
theorem d_R_setInOrder_46 : decode prog_12_method_45_code 46 = .ok (.iload 5, 2) := by decide +kernel
theorem d_R_setInOrder_48 : decode prog_12_method_45_code 48 = .ok (.iload_n 1, 1) := by decide +kernel
theorem d_R_setInOrder_49 : decode prog_12_method_45_code 49 = .ok (.invokevirtual 250, 3) := by decide +kernel
theorem d_R_setInOrder_52 : decode prog_12_method_45_code 52 = .ok (.ifCond .eq 59, 3) := by decide +kernel
theorem d_R_setInOrder_55 : decode prog_12_method_45_code 55 = .ok (.iconst 0, 1) := by decide +kernel
theorem d_R_setInOrder_56 : decode prog_12_method_45_code 56 = .ok (.istore 6, 2) := by decide +kernel
theorem d_R_setInOrder_58 : decode prog_12_method_45_code 58 = .ok (.iload 6, 2) := by decide +kernel
theorem d_R_setInOrder_60 : decode prog_12_method_45_code 60 = .ok (.aload_n 0, 1) := by decide +kernel
theorem d_R_setInOrder_61 : decode prog_12_method_45_code 61 = .ok (.getfield 99, 3) := by decide +kernel
theorem d_R_setInOrder_64 : decode prog_12_method_45_code 64 = .ok (.if_icmp .ge 37, 3) := by decide +kernel
theorem d_R_setInOrder_67 : decode prog_12_method_45_code 67 = .ok (.aload_n 0, 1) := by decide +kernel
theorem d_R_setInOrder_68 : decode prog_12_method_45_code 68 = .ok (.getfield 68, 3) := by decide +kernel
theorem d_R_setInOrder_71 : decode prog_12_method_45_code 71 = .ok (.iload 6, 2) := by decide +kernel
theorem d_R_setInOrder_73 : decode prog_12_method_45_code 73 = .ok (.iload 5, 2) := by decide +kernel
theorem d_R_setInOrder_75 : decode prog_12_method_45_code 75 = .ok (.iload 6, 2) := by decide +kernel
theorem d_R_setInOrder_77 : decode prog_12_method_45_code 77 = .ok (.invokestatic 190, 3) := by decide +kernel
theorem d_R_setInOrder_80 : decode prog_12_method_45_code 80 = .ok (.ifCond .eq 7, 3) := by decide +kernel
theorem d_R_setInOrder_83 : decode prog_12_method_45_code 83 = .ok (.iload_n 2, 1) := by decide +kernel
theorem d_R_setInOrder_84 : decode prog_12_method_45_code 84 = .ok (.goto 10, 3) := by decide +kernel
theorem d_R_setInOrder_87 : decode prog_12_method_45_code 87 = .ok (.aload_n 0, 1) := by decide +kernel
theorem d_R_setInOrder_88 : decode prog_12_method_45_code 88 = .ok (.getfield 68, 3) := by decide +kernel
theorem d_R_setInOrder_91 : decode prog_12_method_45_code 91 = .ok (.iload 6, 2) := by decide +kernel
theorem d_R_setInOrder_93 : decode prog_12_method_45_code 93 = .ok (.iaload, 1) := by decide +kernel
theorem d_R_setInOrder_94 : decode prog_12_method_45_code 94 = .ok (.iastore, 1) := by decide +kernel
theorem d_R_setInOrder_95 : decode prog_12_method_45_code 95 = .ok (.iinc 6 1, 3) := by decide +kernel
theorem d_R_setInOrder_98 : decode prog_12_method_45_code 98 = .ok (.goto (-40), 3) := by decide +kernel
theorem d_R_setInOrder_101 : decode prog_12_method_45_code 101 = .ok (.iload_n 1, 1) := by decide +kernel
theorem d_R_setInOrder_102 : decode prog_12_method_45_code 102 = .ok (.iload 5, 2) := by decide +kernel
theorem d_R_setInOrder_104 : decode prog_12_method_45_code 104 = .ok (.ior, 1) := by decide +kernel
theorem d_R_setInOrder_105 : decode prog_12_method_45_code 105 = .ok (.istore_n 1, 1) := by decide +kernel
theorem d_R_setInOrder_106 : decode prog_12_method_45_code 106 = .ok (.iinc 2 1, 3) := by decide +kernel
theorem d_R_setInOrder_109 : decode prog_12_method_45_code 109 = .ok (.iconst 1, 1) := by decide +kernel
theorem d_R_setInOrder_110 : decode prog_12_method_45_code 110 = .ok (.istore_n 3, 1) := by decide +kernel
theorem d_R_setInOrder_111 : decode prog_12_method_45_code 111 = .ok (.iinc 4 1, 3) := by decide +kernel
theorem d_R_setInOrder_114 : decode prog_12_method_45_code 114 = .ok (.goto (-99), 3) := by decide +kernel
theorem d_R_setInOrder_117 : decode prog_12_method_45_code 117 = .ok (.goto (-111), 3) := by decide +kernel
theorem d_R_setInOrder_120 : decode prog_12_method_45_code 120 = .ok (.iload_n 1, 1) := by decide +kernel
theorem d_R_setInOrder_121 : decode prog_12_method_45_code 121 = .ok (.iconst 1, 1) := by decide +kernel
theorem d_R_setInOrder_122 : decode prog_12_method_45_code 122 = .ok (.aload_n 0, 1) := by decide +kernel
theorem d_R_setInOrder_123 : decode prog_12_method_45_code 123 = .ok (.getfield 99, 3) := by decide +kernel
theorem d_R_setInOrder_126 : decode prog_12_method_45_code 126 = .ok (.ishl, 1) := by decide +kernel
theorem d_R_setInOrder_127 : decode prog_12_method_45_code 127 = .ok (.iconst 1, 1) := by decide +kernel
theorem d_R_setInOrder_128 : decode prog_12_method_45_code 128 = .ok (.isub, 1) := by decide +kernel
theorem d_R_setInOrder_129 : decode prog_12_method_45_code 129 = .ok (.if_icmp .ne 7, 3) := by decide +kernel
theorem d_R_setInOrder_132 : decode prog_12_method_45_code 132 = .ok (.iconst 1, 1) := by decide +kernel
theorem d_R_setInOrder_133 : decode prog_12_method_45_code 133 = .ok (.goto 4, 3) := by decide +kernel
theorem d_R_setInOrder_136 : decode prog_12_method_45_code 136 = .ok (.iconst 0, 1) := by decide +kernel
theorem d_R_setInOrder_137 : decode prog_12_method_45_code 137 = .ok (.ireturn, 1) := by decide +kernel
def B_R_setInOrder (_ : Nat × Nat) : PS :=
  (sSq (sI 1 (eV (0 : Int32)))
    (sSq (sI 2 (eV (0 : Int32)))
    (sSq (sI 3 (eV (1 : Int32)))
    (sSq (sLp 4 (e1 (fun x : Int32 => decide (¬ x = 0)) (eI 3))
    (sSq (sI 3 (eV (0 : Int32)))
    (sCut 4 (sSq (sI 4 (eV (0 : Int32)))
    (sLp 5 (cA (e2 (fun x y : Int32 => decide (x < y)) (eI 4) (eFI 10 2 (eR 0))) (cN (e1 (fun x : Int32 => decide (¬ x = 0)) (eI 3))))
    (sCut 5 (sSq (sI 5 (eX .int (xV 10 1 X_R_nodeOf (eR 0) (aC .int (eI 4) aN))))
    (sIf (cA (cN (e1 (fun x : Int32 => decide (¬ x = 0)) (eX .int (xS 2 X_R_has (aC .int (eI 1) (aC .int (eI 4) aN)))))) (e1 (fun x : Int32 => decide (¬ x = 0)) (eX .int (xV 10 2 X_R_isReady (eR 0) (aC .int (eI 5) (aC .int (eI 1) aN)))))) (sSq (sCut 6 (sSq (sI 6 (eV (0 : Int32)))
    (sLp 7 (e2 (fun x y : Int32 => decide (x < y)) (eI 6) (eFI 10 2 (eR 0)))
    (sAI (eFR 10 34 (eR 0)) (eI 6) (eIf (e1 (fun x : Int32 => decide (¬ x = 0)) (eX .int (xS 2 X_R_has (aC .int (eI 5) (aC .int (eI 6) aN))))) (eI 2) (eAI (eFR 10 34 (eR 0)) (eI 6))))
    (sInc 6 (1)))))
    (sSq (sI 1 (e2 (fun x y : Int32 => x ||| y) (eI 1) (eI 5)))
    (sSq (sInc 2 (1))
    (sI 3 (eV (1 : Int32)))))) sSk)))
    (sInc 4 (1))))))
    sSk)
    (sRz (eC (e2 (fun x y : Int32 => decide (x = y)) (eI 1) (e2 (fun x y : Int32 => x - y) (e2 (fun x y : Int32 => x <<< (y &&& 31)) (eV (1 : Int32)) (eFI 10 2 (eR 0))) (eV (1 : Int32))))))))))
def X_R_setInOrder : PM := fun vs h Q => (lx vs).length ≤ 7 ∧ B_R_setInOrder (h.length + 0, hsz h + 0) (fun _ _ => False) (fun _ _ => False) (fun _ _ => False) Q (lini 7 vs) h
theorem v_R_setInOrder (l : Launch) : Ctr l y_R_setInOrder prog_12_method_45_code 7 (some .boolean) rm_R_setInOrder X_R_setInOrder := by
  refine Ctr_of (own := "PackLanesModel") (B := B_R_setInOrder) (KR := fun _ Q => Q) (by decide) rfl (fun _ _ _ z => z) (fun _ _ _ _ z => ⟨Or.inl ⟨rfl, rfl⟩, z⟩) (Or.inr (Or.inr (Or.inl rfl))) (fun κ hl ho hR hrt hn0 => ?_)
  subst hl
  unfold B_R_setInOrder
  exact (S_sq (pc1 := 2) (S_In (pc1 := 1) (E_ic d_R_setInOrder_0 rfl) d_R_setInOrder_1 rfl)
    (S_sq (pc1 := 4) (S_In (pc1 := 3) (E_ic d_R_setInOrder_2 rfl) d_R_setInOrder_3 rfl)
    (S_sq (pc1 := 6) (S_In (pc1 := 5) (E_ic d_R_setInOrder_4 rfl) d_R_setInOrder_5 rfl)
    (S_sq (pc1 := 120) (S_lp (pT := 10) (pF := 120) (pS := 117) (pG := 117) (J1_ne (pF := 120) (pc2 := 7) (E_iln d_R_setInOrder_6 rfl) d_R_setInOrder_7 rfl)
    (S_sq (pc1 := 12) (S_In (pc1 := 11) (E_ic d_R_setInOrder_10 rfl) d_R_setInOrder_11 rfl)
    (S_cut (S_sq (pc1 := 15) (S_I (pc1 := 13) (E_ic d_R_setInOrder_12 rfl) d_R_setInOrder_13)
    (S_lp (pT := 28) (pF := 117) (pS := 111) (pG := 114) (C_and (pc1 := 24) (J2_lt (pF := 117) (pc1 := 17) (pc2 := 21) (E_il d_R_setInOrder_15) (E_fI f_R_99 ho (pc1 := 18) (E_aln d_R_setInOrder_17 rfl) d_R_setInOrder_18) d_R_setInOrder_21 rfl) (C_not (T1_ne (pT := 117) (pc2 := 25) (E_iln d_R_setInOrder_24 rfl) d_R_setInOrder_25 rfl)))
    (S_cut (S_sq (pc1 := 36) (S_I (pc1 := 34) (E_x (O_V k_R_247 (v_R_nodeOf _) ⟨rfl, rfl⟩ ho (rk hR rfl) (by decide) (T := KT10) (N := 50) rfl (by decide) (pc1 := 29) (pc2 := 31) (E_aln d_R_setInOrder_28 rfl) (A_c catI (pc1 := 31) (E_il d_R_setInOrder_29) A_n) d_R_setInOrder_31)) d_R_setInOrder_34)
    (S_if1 (pT := 55) (pF := 111) (C_and (pc1 := 45) (C_not (T1_ne (pT := 111) (pc2 := 42) (E_x (O_S k_R_190 (v_R_has _) ⟨rfl, rfl⟩ ho (rk hR rfl) (by decide) (pc2 := 39) (A_c catI (pc1 := 37) (E_iln d_R_setInOrder_36 rfl) (A_c catI (pc1 := 39) (E_il d_R_setInOrder_37) A_n)) d_R_setInOrder_39)) d_R_setInOrder_42 rfl)) (J1_ne (pF := 111) (pc2 := 52) (E_x (O_V k_R_250 (v_R_isReady _) ⟨rfl, rfl⟩ ho (rk hR rfl) (by decide) (T := KT10) (N := 50) rfl (by decide) (pc1 := 46) (pc2 := 49) (E_aln d_R_setInOrder_45 rfl) (A_c catI (pc1 := 48) (E_il d_R_setInOrder_46) (A_c catI (pc1 := 49) (E_iln d_R_setInOrder_48 rfl) A_n)) d_R_setInOrder_49)) d_R_setInOrder_52 rfl)) (S_sq (pc1 := 101) (S_cut (S_sq (pc1 := 58) (S_I (pc1 := 56) (E_ic d_R_setInOrder_55 rfl) d_R_setInOrder_56)
    (S_lp (pT := 67) (pF := 101) (pS := 95) (pG := 98) (J2_lt (pF := 101) (pc1 := 60) (pc2 := 64) (E_il d_R_setInOrder_58) (E_fI f_R_99 ho (pc1 := 61) (E_aln d_R_setInOrder_60 rfl) d_R_setInOrder_61) d_R_setInOrder_64 rfl)
    (S_AI (pc1 := 71) (pc2 := 73) (pc3 := 94) (E_fR f_R_68 ho (pc1 := 68) (E_aln d_R_setInOrder_67 rfl) d_R_setInOrder_68) (E_il d_R_setInOrder_71) (E_if (pT := 83) (pF := 87) (pc1 := 84) (pc2 := 94) (J1_ne (pF := 87) (pc2 := 80) (E_x (O_S k_R_190 (v_R_has _) ⟨rfl, rfl⟩ ho (rk hR rfl) (by decide) (pc2 := 77) (A_c catI (pc1 := 75) (E_il d_R_setInOrder_73) (A_c catI (pc1 := 77) (E_il d_R_setInOrder_75) A_n)) d_R_setInOrder_77)) d_R_setInOrder_80 rfl) (E_iln d_R_setInOrder_83 rfl) d_R_setInOrder_84 rfl (E_aI (pc1 := 91) (pc2 := 93) (E_fR f_R_68 ho (pc1 := 88) (E_aln d_R_setInOrder_87 rfl) d_R_setInOrder_88) (E_il d_R_setInOrder_91) d_R_setInOrder_93)) d_R_setInOrder_94)
    (S_Inc d_R_setInOrder_95 rfl) d_R_setInOrder_98 rfl)))
    (S_sq (pc1 := 106) (S_In (pc1 := 105) (E_ior (pc1 := 102) (pc2 := 104) (E_iln d_R_setInOrder_101 rfl) (E_il d_R_setInOrder_102) d_R_setInOrder_104) d_R_setInOrder_105 rfl)
    (S_sq (pc1 := 109) (S_Inc d_R_setInOrder_106 rfl)
    (S_In (pc1 := 110) (E_ic d_R_setInOrder_109 rfl) d_R_setInOrder_110 rfl)))))))
    (S_Inc d_R_setInOrder_111 rfl) d_R_setInOrder_114 rfl))))
    S_sk d_R_setInOrder_117 rfl)
    (S_rz hrt (pc1 := 137) (E_C (pT := 132) (pF := 136) (pc2 := 137) (J2_eq (pF := 136) (pc1 := 121) (pc2 := 129) (E_iln d_R_setInOrder_120 rfl) (E_isub (pc1 := 127) (pc2 := 128) (E_ishl (pc1 := 122) (pc2 := 126) (E_ic d_R_setInOrder_121 rfl) (E_fI f_R_99 ho (pc1 := 123) (E_aln d_R_setInOrder_122 rfl) d_R_setInOrder_123) d_R_setInOrder_126) (E_ic d_R_setInOrder_127 rfl) d_R_setInOrder_128) d_R_setInOrder_129 rfl) d_R_setInOrder_132 d_R_setInOrder_133 rfl d_R_setInOrder_136 rfl) d_R_setInOrder_137)))))
theorem d_R_noTree_0 : decode prog_12_method_46_code 0 = .ok (.iconst 0, 1) := by decide +kernel
theorem d_R_noTree_1 : decode prog_12_method_46_code 1 = .ok (.istore_n 1, 1) := by decide +kernel
theorem d_R_noTree_2 : decode prog_12_method_46_code 2 = .ok (.iload_n 1, 1) := by decide +kernel
theorem d_R_noTree_3 : decode prog_12_method_46_code 3 = .ok (.aload_n 0, 1) := by decide +kernel
theorem d_R_noTree_4 : decode prog_12_method_46_code 4 = .ok (.getfield 99, 3) := by decide +kernel
theorem d_R_noTree_7 : decode prog_12_method_46_code 7 = .ok (.if_icmp .ge 17, 3) := by decide +kernel
theorem d_R_noTree_10 : decode prog_12_method_46_code 10 = .ok (.aload_n 0, 1) := by decide +kernel
theorem d_R_noTree_11 : decode prog_12_method_46_code 11 = .ok (.getfield 59, 3) := by decide +kernel
theorem d_R_noTree_14 : decode prog_12_method_46_code 14 = .ok (.iload_n 1, 1) := by decide +kernel
theorem d_R_noTree_15 : decode prog_12_method_46_code 15 = .ok (.bipush (-9), 2) := by decide +kernel
theorem d_R_noTree_17 : decode prog_12_method_46_code 17 = .ok (.iastore, 1) := by decide +kernel
theorem d_R_noTree_18 : decode prog_12_method_46_code 18 = .ok (.iinc 1 1, 3) := by decide +kernel
theorem d_R_noTree_21 : decode prog_12_method_46_code 21 = .ok (.goto (-19), 3) := by decide +kernel
theorem d_R_noTree_24 : decode prog_12_method_46_code 24 = .ok (.return_, 1) := by decide +kernel
def B_R_noTree (_ : Nat × Nat) : PS :=
  (sSq (sCut 1 (sSq (sI 1 (eV (0 : Int32)))
    (sLp 2 (e2 (fun x y : Int32 => decide (x < y)) (eI 1) (eFI 10 2 (eR 0)))
    (sAI (eFR 10 27 (eR 0)) (eI 1) (eV (-9 : Int32)))
    (sInc 1 (1)))))
    sRv)
def X_R_noTree : PM := fun vs h Q => (lx vs).length ≤ 2 ∧ B_R_noTree (h.length + 0, hsz h + 0) (fun _ _ => False) (fun _ _ => False) (fun _ _ => False) Q (lini 2 vs) h
theorem v_R_noTree (l : Launch) : Ctr l y_R_noTree prog_12_method_46_code 2 none rm_R_noTree X_R_noTree := by
  refine Ctr_of (own := "PackLanesModel") (B := B_R_noTree) (KR := fun _ Q => Q) (by decide) rfl (fun _ _ _ z => z) (fun _ _ _ _ z => ⟨Or.inl ⟨rfl, rfl⟩, z⟩) (Or.inl rfl) (fun κ hl ho hR hrt hn0 => ?_)
  subst hl
  unfold B_R_noTree
  exact (S_sq (pc1 := 24) (S_cut (S_sq (pc1 := 2) (S_In (pc1 := 1) (E_ic d_R_noTree_0 rfl) d_R_noTree_1 rfl)
    (S_lp (pT := 10) (pF := 24) (pS := 18) (pG := 21) (J2_lt (pF := 24) (pc1 := 3) (pc2 := 7) (E_iln d_R_noTree_2 rfl) (E_fI f_R_99 ho (pc1 := 4) (E_aln d_R_noTree_3 rfl) d_R_noTree_4) d_R_noTree_7 rfl)
    (S_AI (pc1 := 14) (pc2 := 15) (pc3 := 17) (E_fR f_R_59 ho (pc1 := 11) (E_aln d_R_noTree_10 rfl) d_R_noTree_11) (E_iln d_R_noTree_14 rfl) (E_bi d_R_noTree_15 rfl) d_R_noTree_17)
    (S_Inc d_R_noTree_18 rfl) d_R_noTree_21 rfl)))
    (S_rv hrt d_R_noTree_24))
theorem d_R_keepTree_0 : decode prog_12_method_47_code 0 = .ok (.iconst 0, 1) := by decide +kernel
theorem d_R_keepTree_1 : decode prog_12_method_47_code 1 = .ok (.istore_n 2, 1) := by decide +kernel
theorem d_R_keepTree_2 : decode prog_12_method_47_code 2 = .ok (.iload_n 2, 1) := by decide +kernel
theorem d_R_keepTree_3 : decode prog_12_method_47_code 3 = .ok (.aload_n 0, 1) := by decide +kernel
theorem d_R_keepTree_4 : decode prog_12_method_47_code 4 = .ok (.getfield 99, 3) := by decide +kernel
theorem d_R_keepTree_7 : decode prog_12_method_47_code 7 = .ok (.if_icmp .ge 49, 3) := by decide +kernel
theorem d_R_keepTree_10 : decode prog_12_method_47_code 10 = .ok (.aload_n 0, 1) := by decide +kernel
theorem d_R_keepTree_11 : decode prog_12_method_47_code 11 = .ok (.getfield 59, 3) := by decide +kernel
theorem d_R_keepTree_14 : decode prog_12_method_47_code 14 = .ok (.iload_n 2, 1) := by decide +kernel
theorem d_R_keepTree_15 : decode prog_12_method_47_code 15 = .ok (.iaload, 1) := by decide +kernel
theorem d_R_keepTree_16 : decode prog_12_method_47_code 16 = .ok (.bipush (-9), 2) := by decide +kernel
theorem d_R_keepTree_18 : decode prog_12_method_47_code 18 = .ok (.if_icmp .eq 32, 3) := by decide +kernel
theorem d_R_keepTree_21 : decode prog_12_method_47_code 21 = .ok (.aload_n 0, 1) := by decide +kernel
theorem d_R_keepTree_22 : decode prog_12_method_47_code 22 = .ok (.getfield 53, 3) := by decide +kernel
theorem d_R_keepTree_25 : decode prog_12_method_47_code 25 = .ok (.iload_n 2, 1) := by decide +kernel
theorem d_R_keepTree_26 : decode prog_12_method_47_code 26 = .ok (.aload_n 0, 1) := by decide +kernel
theorem d_R_keepTree_27 : decode prog_12_method_47_code 27 = .ok (.getfield 253, 3) := by decide +kernel
theorem d_R_keepTree_30 : decode prog_12_method_47_code 30 = .ok (.aload_n 0, 1) := by decide +kernel
theorem d_R_keepTree_31 : decode prog_12_method_47_code 31 = .ok (.getfield 59, 3) := by decide +kernel
theorem d_R_keepTree_34 : decode prog_12_method_47_code 34 = .ok (.iload_n 2, 1) := by decide +kernel
theorem d_R_keepTree_35 : decode prog_12_method_47_code 35 = .ok (.iaload, 1) := by decide +kernel
theorem d_R_keepTree_36 : decode prog_12_method_47_code 36 = .ok (.iadd, 1) := by decide +kernel
theorem d_R_keepTree_37 : decode prog_12_method_47_code 37 = .ok (.iastore, 1) := by decide +kernel
theorem d_R_keepTree_38 : decode prog_12_method_47_code 38 = .ok (.aload_n 0, 1) := by decide +kernel
theorem d_R_keepTree_39 : decode prog_12_method_47_code 39 = .ok (.getfield 56, 3) := by decide +kernel
theorem d_R_keepTree_42 : decode prog_12_method_47_code 42 = .ok (.iload_n 2, 1) := by decide +kernel
theorem d_R_keepTree_43 : decode prog_12_method_47_code 43 = .ok (.aload_n 0, 1) := by decide +kernel
theorem d_R_keepTree_44 : decode prog_12_method_47_code 44 = .ok (.getfield 62, 3) := by decide +kernel
theorem d_R_keepTree_47 : decode prog_12_method_47_code 47 = .ok (.iload_n 2, 1) := by decide +kernel
theorem d_R_keepTree_48 : decode prog_12_method_47_code 48 = .ok (.iaload, 1) := by decide +kernel
theorem d_R_keepTree_49 : decode prog_12_method_47_code 49 = .ok (.iastore, 1) := by decide +kernel
theorem d_R_keepTree_50 : decode prog_12_method_47_code 50 = .ok (.iinc 2 1, 3) := by decide +kernel
theorem d_R_keepTree_53 : decode prog_12_method_47_code 53 = .ok (.goto (-51), 3) := by decide +kernel
theorem d_R_keepTree_56 : decode prog_12_method_47_code 56 = .ok (.aload_n 0, 1) := by decide +kernel
theorem d_R_keepTree_57 : decode prog_12_method_47_code 57 = .ok (.dup, 1) := by decide +kernel
theorem d_R_keepTree_58 : decode prog_12_method_47_code 58 = .ok (.getfield 253, 3) := by decide +kernel
theorem d_R_keepTree_61 : decode prog_12_method_47_code 61 = .ok (.aload_n 0, 1) := by decide +kernel
theorem d_R_keepTree_62 : decode prog_12_method_47_code 62 = .ok (.getfield 210, 3) := by decide +kernel
theorem d_R_keepTree_65 : decode prog_12_method_47_code 65 = .ok (.iadd, 1) := by decide +kernel
theorem d_R_keepTree_66 : decode prog_12_method_47_code 66 = .ok (.putfield 253, 3) := by decide +kernel
theorem d_R_keepTree_69 : decode prog_12_method_47_code 69 = .ok (.aload_n 0, 1) := by decide +kernel
theorem d_R_keepTree_70 : decode prog_12_method_47_code 70 = .ok (.dup, 1) := by decide +kernel
theorem d_R_keepTree_71 : decode prog_12_method_47_code 71 = .ok (.getfield 256, 3) := by decide +kernel
theorem d_R_keepTree_74 : decode prog_12_method_47_code 74 = .ok (.iconst 1, 1) := by decide +kernel
theorem d_R_keepTree_75 : decode prog_12_method_47_code 75 = .ok (.iadd, 1) := by decide +kernel
theorem d_R_keepTree_76 : decode prog_12_method_47_code 76 = .ok (.putfield 256, 3) := by decide +kernel
theorem d_R_keepTree_79 : decode prog_12_method_47_code 79 = .ok (.aload_n 0, 1) := by decide +kernel
theorem d_R_keepTree_80 : decode prog_12_method_47_code 80 = .ok (.dup, 1) := by decide +kernel
theorem d_R_keepTree_81 : decode prog_12_method_47_code 81 = .ok (.getfield 259, 3) := by decide +kernel
theorem d_R_keepTree_84 : decode prog_12_method_47_code 84 = .ok (.iload_n 1, 1) := by decide +kernel
theorem d_R_keepTree_85 : decode prog_12_method_47_code 85 = .ok (.iadd, 1) := by decide +kernel
theorem d_R_keepTree_86 : decode prog_12_method_47_code 86 = .ok (.putfield 259, 3) := by decide +kernel
theorem d_R_keepTree_89 : decode prog_12_method_47_code 89 = .ok (.return_, 1) := by decide +kernel
def B_R_keepTree (_ : Nat × Nat) : PS :=
  (sSq (sCut 2 (sSq (sI 2 (eV (0 : Int32)))
    (sLp 3 (e2 (fun x y : Int32 => decide (x < y)) (eI 2) (eFI 10 2 (eR 0)))
    (sIf (e2 (fun x y : Int32 => decide (¬ x = y)) (eAI (eFR 10 27 (eR 0)) (eI 2)) (eV (-9 : Int32))) (sSq (sAI (eFR 10 22 (eR 0)) (eI 2) (e2 (fun x y : Int32 => x + y) (eFI 10 24 (eR 0)) (eAI (eFR 10 27 (eR 0)) (eI 2))))
    (sAI (eFR 10 23 (eR 0)) (eI 2) (eAI (eFR 10 28 (eR 0)) (eI 2)))) sSk)
    (sInc 2 (1)))))
    (sSq (sFO 10 24 (fun x y : Int32 => x + y) (eR 0) (eFI 10 29 (eR 0)))
    (sSq (sFO 10 25 (fun x y : Int32 => x + y) (eR 0) (eV (1 : Int32)))
    (sSq (sFO 10 26 (fun x y : Int32 => x + y) (eR 0) (eI 1))
    sRv))))
def X_R_keepTree : PM := fun vs h Q => (lx vs).length ≤ 3 ∧ B_R_keepTree (h.length + 0, hsz h + 0) (fun _ _ => False) (fun _ _ => False) (fun _ _ => False) Q (lini 3 vs) h
theorem v_R_keepTree (l : Launch) : Ctr l y_R_keepTree prog_12_method_47_code 3 none rm_R_keepTree X_R_keepTree := by
  refine Ctr_of (own := "PackLanesModel") (B := B_R_keepTree) (KR := fun _ Q => Q) (by decide) rfl (fun _ _ _ z => z) (fun _ _ _ _ z => ⟨Or.inl ⟨rfl, rfl⟩, z⟩) (Or.inl rfl) (fun κ hl ho hR hrt hn0 => ?_)
  subst hl
  unfold B_R_keepTree
  exact (S_sq (pc1 := 56) (S_cut (S_sq (pc1 := 2) (S_In (pc1 := 1) (E_ic d_R_keepTree_0 rfl) d_R_keepTree_1 rfl)
    (S_lp (pT := 10) (pF := 56) (pS := 50) (pG := 53) (J2_lt (pF := 56) (pc1 := 3) (pc2 := 7) (E_iln d_R_keepTree_2 rfl) (E_fI f_R_99 ho (pc1 := 4) (E_aln d_R_keepTree_3 rfl) d_R_keepTree_4) d_R_keepTree_7 rfl)
    (S_if1 (pT := 21) (pF := 50) (J2_ne (pF := 50) (pc1 := 16) (pc2 := 18) (E_aI (pc1 := 14) (pc2 := 15) (E_fR f_R_59 ho (pc1 := 11) (E_aln d_R_keepTree_10 rfl) d_R_keepTree_11) (E_iln d_R_keepTree_14 rfl) d_R_keepTree_15) (E_bi d_R_keepTree_16 rfl) d_R_keepTree_18 rfl) (S_sq (pc1 := 38) (S_AI (pc1 := 25) (pc2 := 26) (pc3 := 37) (E_fR f_R_53 ho (pc1 := 22) (E_aln d_R_keepTree_21 rfl) d_R_keepTree_22) (E_iln d_R_keepTree_25 rfl) (E_iadd (pc1 := 30) (pc2 := 36) (E_fI f_R_253 ho (pc1 := 27) (E_aln d_R_keepTree_26 rfl) d_R_keepTree_27) (E_aI (pc1 := 34) (pc2 := 35) (E_fR f_R_59 ho (pc1 := 31) (E_aln d_R_keepTree_30 rfl) d_R_keepTree_31) (E_iln d_R_keepTree_34 rfl) d_R_keepTree_35) d_R_keepTree_36) d_R_keepTree_37)
    (S_AI (pc1 := 42) (pc2 := 43) (pc3 := 49) (E_fR f_R_56 ho (pc1 := 39) (E_aln d_R_keepTree_38 rfl) d_R_keepTree_39) (E_iln d_R_keepTree_42 rfl) (E_aI (pc1 := 47) (pc2 := 48) (E_fR f_R_62 ho (pc1 := 44) (E_aln d_R_keepTree_43 rfl) d_R_keepTree_44) (E_iln d_R_keepTree_47 rfl) d_R_keepTree_48) d_R_keepTree_49)))
    (S_Inc d_R_keepTree_50 rfl) d_R_keepTree_53 rfl)))
    (S_sq (pc1 := 69) (S_FO f_R_253 f_R_253 ho (pc1 := 57) (pc2 := 65) (E_aln d_R_keepTree_56 rfl) d_R_keepTree_57 d_R_keepTree_58 (E_fI f_R_210 ho (pc1 := 62) (E_aln d_R_keepTree_61 rfl) d_R_keepTree_62) (fun _ _ _ _ _ k => r_iadd d_R_keepTree_65 k) d_R_keepTree_66)
    (S_sq (pc1 := 79) (S_FO f_R_256 f_R_256 ho (pc1 := 70) (pc2 := 75) (E_aln d_R_keepTree_69 rfl) d_R_keepTree_70 d_R_keepTree_71 (E_ic d_R_keepTree_74 rfl) (fun _ _ _ _ _ k => r_iadd d_R_keepTree_75 k) d_R_keepTree_76)
    (S_sq (pc1 := 89) (S_FO f_R_259 f_R_259 ho (pc1 := 80) (pc2 := 85) (E_aln d_R_keepTree_79 rfl) d_R_keepTree_80 d_R_keepTree_81 (E_iln d_R_keepTree_84 rfl) (fun _ _ _ _ _ k => r_iadd d_R_keepTree_85 k) d_R_keepTree_86)
    (S_rv hrt d_R_keepTree_89)))))
theorem d_R_nothingKept_0 : decode prog_12_method_48_code 0 = .ok (.aload_n 0, 1) := by decide +kernel
theorem d_R_nothingKept_1 : decode prog_12_method_48_code 1 = .ok (.iload_n 2, 1) := by decide +kernel
theorem d_R_nothingKept_2 : decode prog_12_method_48_code 2 = .ok (.putfield 187, 3) := by decide +kernel
theorem d_R_nothingKept_5 : decode prog_12_method_48_code 5 = .ok (.aload_n 0, 1) := by decide +kernel
theorem d_R_nothingKept_6 : decode prog_12_method_48_code 6 = .ok (.aload_n 1, 1) := by decide +kernel
theorem d_R_nothingKept_7 : decode prog_12_method_48_code 7 = .ok (.bipush 18, 2) := by decide +kernel
theorem d_R_nothingKept_9 : decode prog_12_method_48_code 9 = .ok (.iaload, 1) := by decide +kernel
theorem d_R_nothingKept_10 : decode prog_12_method_48_code 10 = .ok (.putfield 207, 3) := by decide +kernel
theorem d_R_nothingKept_13 : decode prog_12_method_48_code 13 = .ok (.aload_n 0, 1) := by decide +kernel
theorem d_R_nothingKept_14 : decode prog_12_method_48_code 14 = .ok (.aload_n 1, 1) := by decide +kernel
theorem d_R_nothingKept_15 : decode prog_12_method_48_code 15 = .ok (.invokevirtual 262, 3) := by decide +kernel
theorem d_R_nothingKept_18 : decode prog_12_method_48_code 18 = .ok (.aload_n 0, 1) := by decide +kernel
theorem d_R_nothingKept_19 : decode prog_12_method_48_code 19 = .ok (.iconst 0, 1) := by decide +kernel
theorem d_R_nothingKept_20 : decode prog_12_method_48_code 20 = .ok (.putfield 253, 3) := by decide +kernel
theorem d_R_nothingKept_23 : decode prog_12_method_48_code 23 = .ok (.aload_n 0, 1) := by decide +kernel
theorem d_R_nothingKept_24 : decode prog_12_method_48_code 24 = .ok (.iconst 0, 1) := by decide +kernel
theorem d_R_nothingKept_25 : decode prog_12_method_48_code 25 = .ok (.putfield 256, 3) := by decide +kernel
theorem d_R_nothingKept_28 : decode prog_12_method_48_code 28 = .ok (.aload_n 0, 1) := by decide +kernel
theorem d_R_nothingKept_29 : decode prog_12_method_48_code 29 = .ok (.iconst 0, 1) := by decide +kernel
theorem d_R_nothingKept_30 : decode prog_12_method_48_code 30 = .ok (.putfield 259, 3) := by decide +kernel
theorem d_R_nothingKept_33 : decode prog_12_method_48_code 33 = .ok (.iconst 0, 1) := by decide +kernel
theorem d_R_nothingKept_34 : decode prog_12_method_48_code 34 = .ok (.istore_n 3, 1) := by decide +kernel
theorem d_R_nothingKept_35 : decode prog_12_method_48_code 35 = .ok (.iload_n 3, 1) := by decide +kernel
theorem d_R_nothingKept_36 : decode prog_12_method_48_code 36 = .ok (.aload_n 0, 1) := by decide +kernel
theorem d_R_nothingKept_37 : decode prog_12_method_48_code 37 = .ok (.getfield 99, 3) := by decide +kernel
theorem d_R_nothingKept_40 : decode prog_12_method_48_code 40 = .ok (.if_icmp .ge 33, 3) := by decide +kernel
theorem d_R_nothingKept_43 : decode prog_12_method_48_code 43 = .ok (.aload_n 0, 1) := by decide +kernel
theorem d_R_nothingKept_44 : decode prog_12_method_48_code 44 = .ok (.getfield 53, 3) := by decide +kernel
theorem d_R_nothingKept_47 : decode prog_12_method_48_code 47 = .ok (.iload_n 3, 1) := by decide +kernel
theorem d_R_nothingKept_48 : decode prog_12_method_48_code 48 = .ok (.bipush (-9), 2) := by decide +kernel
theorem d_R_nothingKept_50 : decode prog_12_method_48_code 50 = .ok (.iastore, 1) := by decide +kernel
theorem d_R_nothingKept_51 : decode prog_12_method_48_code 51 = .ok (.aload_n 0, 1) := by decide +kernel
theorem d_R_nothingKept_52 : decode prog_12_method_48_code 52 = .ok (.getfield 56, 3) := by decide +kernel
theorem d_R_nothingKept_55 : decode prog_12_method_48_code 55 = .ok (.iload_n 3, 1) := by decide +kernel
theorem d_R_nothingKept_56 : decode prog_12_method_48_code 56 = .ok (.bipush (-9), 2) := by decide +kernel
theorem d_R_nothingKept_58 : decode prog_12_method_48_code 58 = .ok (.iastore, 1) := by decide +kernel
theorem d_R_nothingKept_59 : decode prog_12_method_48_code 59 = .ok (.aload_n 0, 1) := by decide +kernel
theorem d_R_nothingKept_60 : decode prog_12_method_48_code 60 = .ok (.getfield 59, 3) := by decide +kernel
theorem d_R_nothingKept_63 : decode prog_12_method_48_code 63 = .ok (.iload_n 3, 1) := by decide +kernel
theorem d_R_nothingKept_64 : decode prog_12_method_48_code 64 = .ok (.bipush (-9), 2) := by decide +kernel
theorem d_R_nothingKept_66 : decode prog_12_method_48_code 66 = .ok (.iastore, 1) := by decide +kernel
theorem d_R_nothingKept_67 : decode prog_12_method_48_code 67 = .ok (.iinc 3 1, 3) := by decide +kernel
theorem d_R_nothingKept_70 : decode prog_12_method_48_code 70 = .ok (.goto (-35), 3) := by decide +kernel
theorem d_R_nothingKept_73 : decode prog_12_method_48_code 73 = .ok (.return_, 1) := by decide +kernel
def B_R_nothingKept (_ : Nat × Nat) : PS :=
  (sSq (sF .int 10 18 (eR 0) (eI 2))
    (sSq (sF .int 10 19 (eR 0) (eAI (eR 1) (eV (18 : Int32))))
    (sSq (sX (xV 10 1 X_R_layFollows (eR 0) (aC .ref (eR 1) aN)))
    (sSq (sF .int 10 24 (eR 0) (eV (0 : Int32)))
    (sSq (sF .int 10 25 (eR 0) (eV (0 : Int32)))
    (sSq (sF .int 10 26 (eR 0) (eV (0 : Int32)))
    (sSq (sCut 3 (sSq (sI 3 (eV (0 : Int32)))
    (sLp 4 (e2 (fun x y : Int32 => decide (x < y)) (eI 3) (eFI 10 2 (eR 0)))
    (sSq (sAI (eFR 10 22 (eR 0)) (eI 3) (eV (-9 : Int32)))
    (sSq (sAI (eFR 10 23 (eR 0)) (eI 3) (eV (-9 : Int32)))
    (sAI (eFR 10 27 (eR 0)) (eI 3) (eV (-9 : Int32)))))
    (sInc 3 (1)))))
    sRv)))))))
def X_R_nothingKept : PM := fun vs h Q => (lx vs).length ≤ 4 ∧ B_R_nothingKept (h.length + 0, hsz h + 0) (fun _ _ => False) (fun _ _ => False) (fun _ _ => False) Q (lini 4 vs) h
theorem v_R_nothingKept (l : Launch) : Ctr l y_R_nothingKept prog_12_method_48_code 4 none rm_R_nothingKept X_R_nothingKept := by
  refine Ctr_of (own := "PackLanesModel") (B := B_R_nothingKept) (KR := fun _ Q => Q) (by decide) rfl (fun _ _ _ z => z) (fun _ _ _ _ z => ⟨Or.inl ⟨rfl, rfl⟩, z⟩) (Or.inl rfl) (fun κ hl ho hR hrt hn0 => ?_)
  subst hl
  unfold B_R_nothingKept
  exact (S_sq (pc1 := 5) (S_FI f_R_187 ho (pc1 := 1) (pc2 := 2) (E_aln d_R_nothingKept_0 rfl) (E_iln d_R_nothingKept_1 rfl) d_R_nothingKept_2)
    (S_sq (pc1 := 13) (S_FI f_R_207 ho (pc1 := 6) (pc2 := 10) (E_aln d_R_nothingKept_5 rfl) (E_aI (pc1 := 7) (pc2 := 9) (E_aln d_R_nothingKept_6 rfl) (E_bi d_R_nothingKept_7 rfl) d_R_nothingKept_9) d_R_nothingKept_10)
    (S_sq (pc1 := 18) (S_X (O_V k_R_262 (v_R_layFollows _) ⟨rfl, rfl⟩ ho (rk hR rfl) (by decide) (T := KT10) (N := 50) rfl (by decide) (pc1 := 14) (pc2 := 15) (E_aln d_R_nothingKept_13 rfl) (A_c catR (pc1 := 15) (E_aln d_R_nothingKept_14 rfl) A_n) d_R_nothingKept_15))
    (S_sq (pc1 := 23) (S_FI f_R_253 ho (pc1 := 19) (pc2 := 20) (E_aln d_R_nothingKept_18 rfl) (E_ic d_R_nothingKept_19 rfl) d_R_nothingKept_20)
    (S_sq (pc1 := 28) (S_FI f_R_256 ho (pc1 := 24) (pc2 := 25) (E_aln d_R_nothingKept_23 rfl) (E_ic d_R_nothingKept_24 rfl) d_R_nothingKept_25)
    (S_sq (pc1 := 33) (S_FI f_R_259 ho (pc1 := 29) (pc2 := 30) (E_aln d_R_nothingKept_28 rfl) (E_ic d_R_nothingKept_29 rfl) d_R_nothingKept_30)
    (S_sq (pc1 := 73) (S_cut (S_sq (pc1 := 35) (S_In (pc1 := 34) (E_ic d_R_nothingKept_33 rfl) d_R_nothingKept_34 rfl)
    (S_lp (pT := 43) (pF := 73) (pS := 67) (pG := 70) (J2_lt (pF := 73) (pc1 := 36) (pc2 := 40) (E_iln d_R_nothingKept_35 rfl) (E_fI f_R_99 ho (pc1 := 37) (E_aln d_R_nothingKept_36 rfl) d_R_nothingKept_37) d_R_nothingKept_40 rfl)
    (S_sq (pc1 := 51) (S_AI (pc1 := 47) (pc2 := 48) (pc3 := 50) (E_fR f_R_53 ho (pc1 := 44) (E_aln d_R_nothingKept_43 rfl) d_R_nothingKept_44) (E_iln d_R_nothingKept_47 rfl) (E_bi d_R_nothingKept_48 rfl) d_R_nothingKept_50)
    (S_sq (pc1 := 59) (S_AI (pc1 := 55) (pc2 := 56) (pc3 := 58) (E_fR f_R_56 ho (pc1 := 52) (E_aln d_R_nothingKept_51 rfl) d_R_nothingKept_52) (E_iln d_R_nothingKept_55 rfl) (E_bi d_R_nothingKept_56 rfl) d_R_nothingKept_58)
    (S_AI (pc1 := 63) (pc2 := 64) (pc3 := 66) (E_fR f_R_59 ho (pc1 := 60) (E_aln d_R_nothingKept_59 rfl) d_R_nothingKept_60) (E_iln d_R_nothingKept_63 rfl) (E_bi d_R_nothingKept_64 rfl) d_R_nothingKept_66)))
    (S_Inc d_R_nothingKept_67 rfl) d_R_nothingKept_70 rfl)))
    (S_rv hrt d_R_nothingKept_73))))))))
theorem d_R_pack_0 : decode prog_12_method_49_code 0 = .ok (.aload_n 0, 1) := by decide +kernel
theorem d_R_pack_1 : decode prog_12_method_49_code 1 = .ok (.aload_n 1, 1) := by decide +kernel
theorem d_R_pack_2 : decode prog_12_method_49_code 2 = .ok (.iload_n 2, 1) := by decide +kernel
theorem d_R_pack_3 : decode prog_12_method_49_code 3 = .ok (.invokevirtual 265, 3) := by decide +kernel
theorem d_R_pack_6 : decode prog_12_method_49_code 6 = .ok (.iconst 0, 1) := by decide +kernel
theorem d_R_pack_7 : decode prog_12_method_49_code 7 = .ok (.istore_n 3, 1) := by decide +kernel
theorem d_R_pack_8 : decode prog_12_method_49_code 8 = .ok (.iload_n 3, 1) := by decide +kernel
theorem d_R_pack_9 : decode prog_12_method_49_code 9 = .ok (.iconst 2, 1) := by decide +kernel
theorem d_R_pack_10 : decode prog_12_method_49_code 10 = .ok (.bipush 9, 2) := by decide +kernel
theorem d_R_pack_12 : decode prog_12_method_49_code 12 = .ok (.aload_n 0, 1) := by decide +kernel
theorem d_R_pack_13 : decode prog_12_method_49_code 13 = .ok (.getfield 207, 3) := by decide +kernel
theorem d_R_pack_16 : decode prog_12_method_49_code 16 = .ok (.isub, 1) := by decide +kernel
theorem d_R_pack_17 : decode prog_12_method_49_code 17 = .ok (.imul, 1) := by decide +kernel
theorem d_R_pack_18 : decode prog_12_method_49_code 18 = .ok (.if_icmp .ge 66, 3) := by decide +kernel
theorem d_R_pack_21 : decode prog_12_method_49_code 21 = .ok (.aload_n 0, 1) := by decide +kernel
theorem d_R_pack_22 : decode prog_12_method_49_code 22 = .ok (.iload_n 3, 1) := by decide +kernel
theorem d_R_pack_23 : decode prog_12_method_49_code 23 = .ok (.bipush 9, 2) := by decide +kernel
theorem d_R_pack_25 : decode prog_12_method_49_code 25 = .ok (.aload_n 0, 1) := by decide +kernel
theorem d_R_pack_26 : decode prog_12_method_49_code 26 = .ok (.getfield 207, 3) := by decide +kernel
theorem d_R_pack_29 : decode prog_12_method_49_code 29 = .ok (.isub, 1) := by decide +kernel
theorem d_R_pack_30 : decode prog_12_method_49_code 30 = .ok (.idiv, 1) := by decide +kernel
theorem d_R_pack_31 : decode prog_12_method_49_code 31 = .ok (.iload_n 3, 1) := by decide +kernel
theorem d_R_pack_32 : decode prog_12_method_49_code 32 = .ok (.bipush 9, 2) := by decide +kernel
theorem d_R_pack_34 : decode prog_12_method_49_code 34 = .ok (.aload_n 0, 1) := by decide +kernel
theorem d_R_pack_35 : decode prog_12_method_49_code 35 = .ok (.getfield 207, 3) := by decide +kernel
theorem d_R_pack_38 : decode prog_12_method_49_code 38 = .ok (.isub, 1) := by decide +kernel
theorem d_R_pack_39 : decode prog_12_method_49_code 39 = .ok (.irem, 1) := by decide +kernel
theorem d_R_pack_40 : decode prog_12_method_49_code 40 = .ok (.invokevirtual 269, 3) := by decide +kernel
theorem d_R_pack_43 : decode prog_12_method_49_code 43 = .ok (.ifCond .eq 31, 3) := by decide +kernel
theorem d_R_pack_46 : decode prog_12_method_49_code 46 = .ok (.aload_n 0, 1) := by decide +kernel
theorem d_R_pack_47 : decode prog_12_method_49_code 47 = .ok (.invokevirtual 272, 3) := by decide +kernel
theorem d_R_pack_50 : decode prog_12_method_49_code 50 = .ok (.aload_n 0, 1) := by decide +kernel
theorem d_R_pack_51 : decode prog_12_method_49_code 51 = .ok (.invokevirtual 275, 3) := by decide +kernel
theorem d_R_pack_54 : decode prog_12_method_49_code 54 = .ok (.istore 4, 2) := by decide +kernel
theorem d_R_pack_56 : decode prog_12_method_49_code 56 = .ok (.iload 4, 2) := by decide +kernel
theorem d_R_pack_58 : decode prog_12_method_49_code 58 = .ok (.ifCond .le 16, 3) := by decide +kernel
theorem d_R_pack_61 : decode prog_12_method_49_code 61 = .ok (.aload_n 0, 1) := by decide +kernel
theorem d_R_pack_62 : decode prog_12_method_49_code 62 = .ok (.invokevirtual 278, 3) := by decide +kernel
theorem d_R_pack_65 : decode prog_12_method_49_code 65 = .ok (.ifCond .eq 9, 3) := by decide +kernel
theorem d_R_pack_68 : decode prog_12_method_49_code 68 = .ok (.aload_n 0, 1) := by decide +kernel
theorem d_R_pack_69 : decode prog_12_method_49_code 69 = .ok (.iload 4, 2) := by decide +kernel
theorem d_R_pack_71 : decode prog_12_method_49_code 71 = .ok (.invokevirtual 281, 3) := by decide +kernel
theorem d_R_pack_74 : decode prog_12_method_49_code 74 = .ok (.aload_n 0, 1) := by decide +kernel
theorem d_R_pack_75 : decode prog_12_method_49_code 75 = .ok (.invokevirtual 284, 3) := by decide +kernel
theorem d_R_pack_78 : decode prog_12_method_49_code 78 = .ok (.iinc 3 1, 3) := by decide +kernel
theorem d_R_pack_81 : decode prog_12_method_49_code 81 = .ok (.goto (-73), 3) := by decide +kernel
theorem d_R_pack_84 : decode prog_12_method_49_code 84 = .ok (.aload_n 0, 1) := by decide +kernel
theorem d_R_pack_85 : decode prog_12_method_49_code 85 = .ok (.invokevirtual 278, 3) := by decide +kernel
theorem d_R_pack_88 : decode prog_12_method_49_code 88 = .ok (.istore_n 3, 1) := by decide +kernel
theorem d_R_pack_89 : decode prog_12_method_49_code 89 = .ok (.return_, 1) := by decide +kernel
def B_R_pack (_ : Nat × Nat) : PS :=
  (sSq (sX (xV 10 2 X_R_nothingKept (eR 0) (aC .ref (eR 1) (aC .int (eI 2) aN))))
    (sSq (sCut 3 (sSq (sI 3 (eV (0 : Int32)))
    (sLp 4 (e2 (fun x y : Int32 => decide (x < y)) (eI 3) (e2 (fun x y : Int32 => x * y) (eV (2 : Int32)) (e2 (fun x y : Int32 => x - y) (eV (9 : Int32)) (eFI 10 19 (eR 0)))))
    (sSq (sIf (e1 (fun x : Int32 => decide (¬ x = 0)) (eX .int (xV 10 2 X_R_laySeed (eR 0) (aC .int (eDI (fun x y : Int32 => x / y) (eI 3) (e2 (fun x y : Int32 => x - y) (eV (9 : Int32)) (eFI 10 19 (eR 0)))) (aC .int (eDI (fun x y : Int32 => x - x / y * y) (eI 3) (e2 (fun x y : Int32 => x - y) (eV (9 : Int32)) (eFI 10 19 (eR 0)))) aN))))) (sCut 4 (sSq (sX (xV 10 0 X_R_grow (eR 0) aN))
    (sSq (sI 4 (eX .int (xV 10 0 X_R_gainOfTree (eR 0) aN)))
    (sIf (cA (e1 (fun x : Int32 => decide (0 < x)) (eI 4)) (e1 (fun x : Int32 => decide (¬ x = 0)) (eX .int (xV 10 0 X_R_setInOrder (eR 0) aN)))) (sX (xV 10 1 X_R_keepTree (eR 0) (aC .int (eI 4) aN))) sSk)))) sSk)
    (sX (xV 10 0 X_R_noTree (eR 0) aN)))
    (sInc 3 (1)))))
    (sSq (sI 3 (eX .int (xV 10 0 X_R_setInOrder (eR 0) aN)))
    sRv)))
def X_R_pack : PM := fun vs h Q => (lx vs).length ≤ 5 ∧ B_R_pack (h.length + 0, hsz h + 0) (fun _ _ => False) (fun _ _ => False) (fun _ _ => False) Q (lini 5 vs) h
theorem v_R_pack (l : Launch) : Ctr l y_R_pack prog_12_method_49_code 5 none rm_R_pack X_R_pack := by
  refine Ctr_of (own := "PackLanesModel") (B := B_R_pack) (KR := fun _ Q => Q) (by decide) rfl (fun _ _ _ z => z) (fun _ _ _ _ z => ⟨Or.inl ⟨rfl, rfl⟩, z⟩) (Or.inl rfl) (fun κ hl ho hR hrt hn0 => ?_)
  subst hl
  unfold B_R_pack
  exact (S_sq (pc1 := 6) (S_X (O_V k_R_265 (v_R_nothingKept _) ⟨rfl, rfl⟩ ho (rk hR rfl) (by decide) (T := KT10) (N := 50) rfl (by decide) (pc1 := 1) (pc2 := 3) (E_aln d_R_pack_0 rfl) (A_c catR (pc1 := 2) (E_aln d_R_pack_1 rfl) (A_c catI (pc1 := 3) (E_iln d_R_pack_2 rfl) A_n)) d_R_pack_3))
    (S_sq (pc1 := 84) (S_cut (S_sq (pc1 := 8) (S_In (pc1 := 7) (E_ic d_R_pack_6 rfl) d_R_pack_7 rfl)
    (S_lp (pT := 21) (pF := 84) (pS := 78) (pG := 81) (J2_lt (pF := 84) (pc1 := 9) (pc2 := 18) (E_iln d_R_pack_8 rfl) (E_imul (pc1 := 10) (pc2 := 17) (E_ic d_R_pack_9 rfl) (E_isub (pc1 := 12) (pc2 := 16) (E_bi d_R_pack_10 rfl) (E_fI f_R_207 ho (pc1 := 13) (E_aln d_R_pack_12 rfl) d_R_pack_13) d_R_pack_16) d_R_pack_17) d_R_pack_18 rfl)
    (S_sq (pc1 := 74) (S_if1 (pT := 46) (pF := 74) (J1_ne (pF := 74) (pc2 := 43) (E_x (O_V k_R_269 (v_R_laySeed _) ⟨rfl, rfl⟩ ho (rk hR rfl) (by decide) (T := KT10) (N := 50) rfl (by decide) (pc1 := 22) (pc2 := 40) (E_aln d_R_pack_21 rfl) (A_c catI (pc1 := 31) (E_idiv (pc1 := 23) (pc2 := 30) (E_iln d_R_pack_22 rfl) (E_isub (pc1 := 25) (pc2 := 29) (E_bi d_R_pack_23 rfl) (E_fI f_R_207 ho (pc1 := 26) (E_aln d_R_pack_25 rfl) d_R_pack_26) d_R_pack_29) d_R_pack_30) (A_c catI (pc1 := 40) (E_irem (pc1 := 32) (pc2 := 39) (E_iln d_R_pack_31 rfl) (E_isub (pc1 := 34) (pc2 := 38) (E_bi d_R_pack_32 rfl) (E_fI f_R_207 ho (pc1 := 35) (E_aln d_R_pack_34 rfl) d_R_pack_35) d_R_pack_38) d_R_pack_39) A_n)) d_R_pack_40)) d_R_pack_43 rfl) (S_cut (S_sq (pc1 := 50) (S_X (O_V k_R_272 (v_R_grow _) ⟨rfl, rfl⟩ ho (rk hR rfl) (by decide) (T := KT10) (N := 50) rfl (by decide) (pc1 := 47) (pc2 := 47) (E_aln d_R_pack_46 rfl) A_n d_R_pack_47))
    (S_sq (pc1 := 56) (S_I (pc1 := 54) (E_x (O_V k_R_275 (v_R_gainOfTree _) ⟨rfl, rfl⟩ ho (rk hR rfl) (by decide) (T := KT10) (N := 50) rfl (by decide) (pc1 := 51) (pc2 := 51) (E_aln d_R_pack_50 rfl) A_n d_R_pack_51)) d_R_pack_54)
    (S_if1 (pT := 68) (pF := 74) (C_and (pc1 := 61) (J1_gt (pF := 74) (pc2 := 58) (E_il d_R_pack_56) d_R_pack_58 rfl) (J1_ne (pF := 74) (pc2 := 65) (E_x (O_V k_R_278 (v_R_setInOrder _) ⟨rfl, rfl⟩ ho (rk hR rfl) (by decide) (T := KT10) (N := 50) rfl (by decide) (pc1 := 62) (pc2 := 62) (E_aln d_R_pack_61 rfl) A_n d_R_pack_62)) d_R_pack_65 rfl)) (S_X (O_V k_R_281 (v_R_keepTree _) ⟨rfl, rfl⟩ ho (rk hR rfl) (by decide) (T := KT10) (N := 50) rfl (by decide) (pc1 := 69) (pc2 := 71) (E_aln d_R_pack_68 rfl) (A_c catI (pc1 := 71) (E_il d_R_pack_69) A_n) d_R_pack_71)))))))
    (S_X (O_V k_R_284 (v_R_noTree _) ⟨rfl, rfl⟩ ho (rk hR rfl) (by decide) (T := KT10) (N := 50) rfl (by decide) (pc1 := 75) (pc2 := 75) (E_aln d_R_pack_74 rfl) A_n d_R_pack_75)))
    (S_Inc d_R_pack_78 rfl) d_R_pack_81 rfl)))
    (S_sq (pc1 := 89) (S_In (pc1 := 88) (E_x (O_V k_R_278 (v_R_setInOrder _) ⟨rfl, rfl⟩ ho (rk hR rfl) (by decide) (T := KT10) (N := 50) rfl (by decide) (pc1 := 85) (pc2 := 85) (E_aln d_R_pack_84 rfl) A_n d_R_pack_85)) d_R_pack_88 rfl)
    (S_rv hrt d_R_pack_89))))
