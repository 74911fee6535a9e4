/-! methods: the decoded rows, the meaning (B, X), the contract (v) -/
theorem d_R_costNow_0 : decode prog_12_method_50_code 0 = .ok (.iconst 0, 1) := by decide +kernel
theorem d_R_costNow_1 : decode prog_12_method_50_code 1 = .ok (.istore_n 1, 1) := by decide +kernel
theorem d_R_costNow_2 : decode prog_12_method_50_code 2 = .ok (.iconst 0, 1) := by decide +kernel
theorem d_R_costNow_3 : decode prog_12_method_50_code 3 = .ok (.istore_n 2, 1) := by decide +kernel
theorem d_R_costNow_4 : decode prog_12_method_50_code 4 = .ok (.iload_n 2, 1) := by decide +kernel
theorem d_R_costNow_5 : decode prog_12_method_50_code 5 = .ok (.aload_n 0, 1) := by decide +kernel
theorem d_R_costNow_6 : decode prog_12_method_50_code 6 = .ok (.getfield 99, 3) := by decide +kernel
theorem d_R_costNow_9 : decode prog_12_method_50_code 9 = .ok (.if_icmp .ge 27, 3) := by decide +kernel
theorem d_R_costNow_12 : decode prog_12_method_50_code 12 = .ok (.iload_n 1, 1) := by decide +kernel
theorem d_R_costNow_13 : decode prog_12_method_50_code 13 = .ok (.aload_n 0, 1) := by decide +kernel
theorem d_R_costNow_14 : decode prog_12_method_50_code 14 = .ok (.getfield 13, 3) := by decide +kernel
theorem d_R_costNow_17 : decode prog_12_method_50_code 17 = .ok (.iload_n 2, 1) := by decide +kernel
theorem d_R_costNow_18 : decode prog_12_method_50_code 18 = .ok (.iaload, 1) := by decide +kernel
theorem d_R_costNow_19 : decode prog_12_method_50_code 19 = .ok (.iconst 1, 1) := by decide +kernel
theorem d_R_costNow_20 : decode prog_12_method_50_code 20 = .ok (.if_icmp .eq 7, 3) := by decide +kernel
theorem d_R_costNow_23 : decode prog_12_method_50_code 23 = .ok (.iconst 1, 1) := by decide +kernel
theorem d_R_costNow_24 : decode prog_12_method_50_code 24 = .ok (.goto 4, 3) := by decide +kernel
theorem d_R_costNow_27 : decode prog_12_method_50_code 27 = .ok (.iconst 0, 1) := by decide +kernel
theorem d_R_costNow_28 : decode prog_12_method_50_code 28 = .ok (.iadd, 1) := by decide +kernel
theorem d_R_costNow_29 : decode prog_12_method_50_code 29 = .ok (.istore_n 1, 1) := by decide +kernel
theorem d_R_costNow_30 : decode prog_12_method_50_code 30 = .ok (.iinc 2 1, 3) := by decide +kernel
theorem d_R_costNow_33 : decode prog_12_method_50_code 33 = .ok (.goto (-29), 3) := by decide +kernel
theorem d_R_costNow_36 : decode prog_12_method_50_code 36 = .ok (.iload_n 1, 1) := by decide +kernel
theorem d_R_costNow_37 : decode prog_12_method_50_code 37 = .ok (.ireturn, 1) := by decide +kernel
def B_R_costNow (_ : Nat × Nat) : PS :=
  (sSq (sI 1 (eV (0 : Int32)))
    (sSq (sCut 2 (sSq (sI 2 (eV (0 : Int32)))
    (sLp 3 (e2 (fun x y : Int32 => decide (x < y)) (eI 2) (eFI 10 2 (eR 0)))
    (sI 1 (e2 (fun x y : Int32 => x + y) (eI 1) (eIf (e2 (fun x y : Int32 => decide (¬ x = y)) (eAI (eFR 10 3 (eR 0)) (eI 2)) (eV (1 : Int32))) (eV (1 : Int32)) (eV (0 : Int32)))))
    (sInc 2 (1)))))
    (sRt .int (eI 1))))
def X_R_costNow : PM := fun vs h Q => (lx vs).length ≤ 3 ∧ B_R_costNow (h.length + 0, hsz h + 0) (fun _ _ => False) (fun _ _ => False) (fun _ _ => False) Q (lini 3 vs) h
theorem v_R_costNow (l : Launch) : Ctr l y_R_costNow prog_12_method_50_code 3 (some .int) rm_R_costNow X_R_costNow := by
  refine Ctr_of (own := "PackLanesModel") (B := B_R_costNow) (KR := fun _ Q => Q) (by decide) rfl (fun _ _ _ z => z) (fun _ _ _ _ z => ⟨Or.inl ⟨rfl, rfl⟩, z⟩) (Or.inr (Or.inl rfl)) (fun κ hl ho hR hrt hn0 => ?_)
  subst hl
  unfold B_R_costNow
  exact (S_sq (pc1 := 2) (S_In (pc1 := 1) (E_ic d_R_costNow_0 rfl) d_R_costNow_1 rfl)
    (S_sq (pc1 := 36) (S_cut (S_sq (pc1 := 4) (S_In (pc1 := 3) (E_ic d_R_costNow_2 rfl) d_R_costNow_3 rfl)
    (S_lp (pT := 12) (pF := 36) (pS := 30) (pG := 33) (J2_lt (pF := 36) (pc1 := 5) (pc2 := 9) (E_iln d_R_costNow_4 rfl) (E_fI f_R_99 ho (pc1 := 6) (E_aln d_R_costNow_5 rfl) d_R_costNow_6) d_R_costNow_9 rfl)
    (S_In (pc1 := 29) (E_iadd (pc1 := 13) (pc2 := 28) (E_iln d_R_costNow_12 rfl) (E_if (pT := 23) (pF := 27) (pc1 := 24) (pc2 := 28) (J2_ne (pF := 27) (pc1 := 19) (pc2 := 20) (E_aI (pc1 := 17) (pc2 := 18) (E_fR f_R_13 ho (pc1 := 14) (E_aln d_R_costNow_13 rfl) d_R_costNow_14) (E_iln d_R_costNow_17 rfl) d_R_costNow_18) (E_ic d_R_costNow_19 rfl) d_R_costNow_20 rfl) (E_ic d_R_costNow_23 rfl) d_R_costNow_24 rfl (E_ic d_R_costNow_27 rfl)) d_R_costNow_28) d_R_costNow_29 rfl)
    (S_Inc d_R_costNow_30 rfl) d_R_costNow_33 rfl)))
    (S_ri hrt (pc1 := 37) (E_iln d_R_costNow_36 rfl) d_R_costNow_37)))
theorem d_R_packedCost_0 : decode prog_12_method_51_code 0 = .ok (.aload_n 0, 1) := by decide +kernel
theorem d_R_packedCost_1 : decode prog_12_method_51_code 1 = .ok (.aload_n 1, 1) := by decide +kernel
theorem d_R_packedCost_2 : decode prog_12_method_51_code 2 = .ok (.iconst 0, 1) := by decide +kernel
theorem d_R_packedCost_3 : decode prog_12_method_51_code 3 = .ok (.invokevirtual 287, 3) := by decide +kernel
theorem d_R_packedCost_6 : decode prog_12_method_51_code 6 = .ok (.aload_n 0, 1) := by decide +kernel
theorem d_R_packedCost_7 : decode prog_12_method_51_code 7 = .ok (.invokevirtual 290, 3) := by decide +kernel
theorem d_R_packedCost_10 : decode prog_12_method_51_code 10 = .ok (.aload_n 0, 1) := by decide +kernel
theorem d_R_packedCost_11 : decode prog_12_method_51_code 11 = .ok (.getfield 259, 3) := by decide +kernel
theorem d_R_packedCost_14 : decode prog_12_method_51_code 14 = .ok (.isub, 1) := by decide +kernel
theorem d_R_packedCost_15 : decode prog_12_method_51_code 15 = .ok (.ireturn, 1) := by decide +kernel
def B_R_packedCost (_ : Nat × Nat) : PS :=
  (sSq (sX (xV 10 2 X_R_pack (eR 0) (aC .ref (eR 1) (aC .int (eV (0 : Int32)) aN))))
    (sRt .int (e2 (fun x y : Int32 => x - y) (eX .int (xV 10 0 X_R_costNow (eR 0) aN)) (eFI 10 26 (eR 0)))))
def X_R_packedCost : PM := fun vs h Q => (lx vs).length ≤ 2 ∧ B_R_packedCost (h.length + 0, hsz h + 0) (fun _ _ => False) (fun _ _ => False) (fun _ _ => False) Q (lini 2 vs) h
theorem v_R_packedCost (l : Launch) : Ctr l y_R_packedCost prog_12_method_51_code 2 (some .int) rm_R_packedCost X_R_packedCost := by
  refine Ctr_of (own := "PackLanesModel") (B := B_R_packedCost) (KR := fun _ Q => Q) (by decide) rfl (fun _ _ _ z => z) (fun _ _ _ _ z => ⟨Or.inl ⟨rfl, rfl⟩, z⟩) (Or.inr (Or.inl rfl)) (fun κ hl ho hR hrt hn0 => ?_)
  subst hl
  unfold B_R_packedCost
  exact (S_sq (pc1 := 6) (S_X (O_V k_R_287 (v_R_pack _) ⟨rfl, rfl⟩ ho (rk hR rfl) (by decide) (T := KT10) (N := 50) rfl (by decide) (pc1 := 1) (pc2 := 3) (E_aln d_R_packedCost_0 rfl) (A_c catR (pc1 := 2) (E_aln d_R_packedCost_1 rfl) (A_c catI (pc1 := 3) (E_ic d_R_packedCost_2 rfl) A_n)) d_R_packedCost_3))
    (S_ri hrt (pc1 := 15) (E_isub (pc1 := 10) (pc2 := 14) (E_x (O_V k_R_290 (v_R_costNow _) ⟨rfl, rfl⟩ ho (rk hR rfl) (by decide) (T := KT10) (N := 50) rfl (by decide) (pc1 := 7) (pc2 := 7) (E_aln d_R_packedCost_6 rfl) A_n d_R_packedCost_7)) (E_fI f_R_259 ho (pc1 := 11) (E_aln d_R_packedCost_10 rfl) d_R_packedCost_11) d_R_packedCost_14) d_R_packedCost_15))
theorem d_R_beginRun_0 : decode prog_12_method_52_code 0 = .ok (.aload_n 0, 1) := by decide +kernel
theorem d_R_beginRun_1 : decode prog_12_method_52_code 1 = .ok (.bipush (-9), 2) := by decide +kernel
theorem d_R_beginRun_3 : decode prog_12_method_52_code 3 = .ok (.putfield 293, 3) := by decide +kernel
theorem d_R_beginRun_6 : decode prog_12_method_52_code 6 = .ok (.iconst 0, 1) := by decide +kernel
theorem d_R_beginRun_7 : decode prog_12_method_52_code 7 = .ok (.istore_n 2, 1) := by decide +kernel
theorem d_R_beginRun_8 : decode prog_12_method_52_code 8 = .ok (.iload_n 2, 1) := by decide +kernel
theorem d_R_beginRun_9 : decode prog_12_method_52_code 9 = .ok (.bipush 16, 2) := by decide +kernel
theorem d_R_beginRun_11 : decode prog_12_method_52_code 11 = .ok (.if_icmp .ge 25, 3) := by decide +kernel
theorem d_R_beginRun_14 : decode prog_12_method_52_code 14 = .ok (.aload_n 0, 1) := by decide +kernel
theorem d_R_beginRun_15 : decode prog_12_method_52_code 15 = .ok (.getfield 71, 3) := by decide +kernel
theorem d_R_beginRun_18 : decode prog_12_method_52_code 18 = .ok (.iload_n 2, 1) := by decide +kernel
theorem d_R_beginRun_19 : decode prog_12_method_52_code 19 = .ok (.aload_n 1, 1) := by decide +kernel
theorem d_R_beginRun_20 : decode prog_12_method_52_code 20 = .ok (.iload_n 2, 1) := by decide +kernel
theorem d_R_beginRun_21 : decode prog_12_method_52_code 21 = .ok (.iaload, 1) := by decide +kernel
theorem d_R_beginRun_22 : decode prog_12_method_52_code 22 = .ok (.iastore, 1) := by decide +kernel
theorem d_R_beginRun_23 : decode prog_12_method_52_code 23 = .ok (.aload_n 0, 1) := by decide +kernel
theorem d_R_beginRun_24 : decode prog_12_method_52_code 24 = .ok (.getfield 74, 3) := by decide +kernel
theorem d_R_beginRun_27 : decode prog_12_method_52_code 27 = .ok (.iload_n 2, 1) := by decide +kernel
theorem d_R_beginRun_28 : decode prog_12_method_52_code 28 = .ok (.iconst 0, 1) := by decide +kernel
theorem d_R_beginRun_29 : decode prog_12_method_52_code 29 = .ok (.iastore, 1) := by decide +kernel
theorem d_R_beginRun_30 : decode prog_12_method_52_code 30 = .ok (.iinc 2 1, 3) := by decide +kernel
theorem d_R_beginRun_33 : decode prog_12_method_52_code 33 = .ok (.goto (-25), 3) := by decide +kernel
theorem d_R_beginRun_36 : decode prog_12_method_52_code 36 = .ok (.return_, 1) := by decide +kernel
def B_R_beginRun (_ : Nat × Nat) : PS :=
  (sSq (sF .int 10 37 (eR 0) (eV (-9 : Int32)))
    (sSq (sCut 2 (sSq (sI 2 (eV (0 : Int32)))
    (sLp 3 (e2 (fun x y : Int32 => decide (x < y)) (eI 2) (eV (16 : Int32)))
    (sSq (sAI (eFR 10 35 (eR 0)) (eI 2) (eAI (eR 1) (eI 2)))
    (sAI (eFR 10 36 (eR 0)) (eI 2) (eV (0 : Int32))))
    (sInc 2 (1)))))
    sRv))
def X_R_beginRun : PM := fun vs h Q => (lx vs).length ≤ 3 ∧ B_R_beginRun (h.length + 0, hsz h + 0) (fun _ _ => False) (fun _ _ => False) (fun _ _ => False) Q (lini 3 vs) h
theorem v_R_beginRun (l : Launch) : Ctr l y_R_beginRun prog_12_method_52_code 3 none rm_R_beginRun X_R_beginRun := by
  refine Ctr_of (own := "PackLanesModel") (B := B_R_beginRun) (KR := fun _ Q => Q) (by decide) rfl (fun _ _ _ z => z) (fun _ _ _ _ z => ⟨Or.inl ⟨rfl, rfl⟩, z⟩) (Or.inl rfl) (fun κ hl ho hR hrt hn0 => ?_)
  subst hl
  unfold B_R_beginRun
  exact (S_sq (pc1 := 6) (S_FI f_R_293 ho (pc1 := 1) (pc2 := 3) (E_aln d_R_beginRun_0 rfl) (E_bi d_R_beginRun_1 rfl) d_R_beginRun_3)
    (S_sq (pc1 := 36) (S_cut (S_sq (pc1 := 8) (S_In (pc1 := 7) (E_ic d_R_beginRun_6 rfl) d_R_beginRun_7 rfl)
    (S_lp (pT := 14) (pF := 36) (pS := 30) (pG := 33) (J2_lt (pF := 36) (pc1 := 9) (pc2 := 11) (E_iln d_R_beginRun_8 rfl) (E_bi d_R_beginRun_9 rfl) d_R_beginRun_11 rfl)
    (S_sq (pc1 := 23) (S_AI (pc1 := 18) (pc2 := 19) (pc3 := 22) (E_fR f_R_71 ho (pc1 := 15) (E_aln d_R_beginRun_14 rfl) d_R_beginRun_15) (E_iln d_R_beginRun_18 rfl) (E_aI (pc1 := 20) (pc2 := 21) (E_aln d_R_beginRun_19 rfl) (E_iln d_R_beginRun_20 rfl) d_R_beginRun_21) d_R_beginRun_22)
    (S_AI (pc1 := 27) (pc2 := 28) (pc3 := 29) (E_fR f_R_74 ho (pc1 := 24) (E_aln d_R_beginRun_23 rfl) d_R_beginRun_24) (E_iln d_R_beginRun_27 rfl) (E_ic d_R_beginRun_28 rfl) d_R_beginRun_29))
    (S_Inc d_R_beginRun_30 rfl) d_R_beginRun_33 rfl)))
    (S_rv hrt d_R_beginRun_36)))
theorem d_R_doOne_0 : decode prog_12_method_53_code 0 = .ok (.aload_n 0, 1) := by decide +kernel
theorem d_R_doOne_1 : decode prog_12_method_53_code 1 = .ok (.iload_n 2, 1) := by decide +kernel
theorem d_R_doOne_2 : decode prog_12_method_53_code 2 = .ok (.invokevirtual 180, 3) := by decide +kernel
theorem d_R_doOne_5 : decode prog_12_method_53_code 5 = .ok (.ifCond .eq 17, 3) := by decide +kernel
theorem d_R_doOne_8 : decode prog_12_method_53_code 8 = .ok (.aload_n 0, 1) := by decide +kernel
theorem d_R_doOne_9 : decode prog_12_method_53_code 9 = .ok (.getfield 74, 3) := by decide +kernel
theorem d_R_doOne_12 : decode prog_12_method_53_code 12 = .ok (.aload_n 0, 1) := by decide +kernel
theorem d_R_doOne_13 : decode prog_12_method_53_code 13 = .ok (.getfield 16, 3) := by decide +kernel
theorem d_R_doOne_16 : decode prog_12_method_53_code 16 = .ok (.iload_n 2, 1) := by decide +kernel
theorem d_R_doOne_17 : decode prog_12_method_53_code 17 = .ok (.iaload, 1) := by decide +kernel
theorem d_R_doOne_18 : decode prog_12_method_53_code 18 = .ok (.iaload, 1) := by decide +kernel
theorem d_R_doOne_19 : decode prog_12_method_53_code 19 = .ok (.goto 4, 3) := by decide +kernel
theorem d_R_doOne_22 : decode prog_12_method_53_code 22 = .ok (.iconst 0, 1) := by decide +kernel
theorem d_R_doOne_23 : decode prog_12_method_53_code 23 = .ok (.istore_n 3, 1) := by decide +kernel
theorem d_R_doOne_24 : decode prog_12_method_53_code 24 = .ok (.aload_n 0, 1) := by decide +kernel
theorem d_R_doOne_25 : decode prog_12_method_53_code 25 = .ok (.iload_n 2, 1) := by decide +kernel
theorem d_R_doOne_26 : decode prog_12_method_53_code 26 = .ok (.invokevirtual 180, 3) := by decide +kernel
theorem d_R_doOne_29 : decode prog_12_method_53_code 29 = .ok (.ifCond .eq 17, 3) := by decide +kernel
theorem d_R_doOne_32 : decode prog_12_method_53_code 32 = .ok (.aload_n 0, 1) := by decide +kernel
theorem d_R_doOne_33 : decode prog_12_method_53_code 33 = .ok (.getfield 74, 3) := by decide +kernel
theorem d_R_doOne_36 : decode prog_12_method_53_code 36 = .ok (.aload_n 0, 1) := by decide +kernel
theorem d_R_doOne_37 : decode prog_12_method_53_code 37 = .ok (.getfield 19, 3) := by decide +kernel
theorem d_R_doOne_40 : decode prog_12_method_53_code 40 = .ok (.iload_n 2, 1) := by decide +kernel
theorem d_R_doOne_41 : decode prog_12_method_53_code 41 = .ok (.iaload, 1) := by decide +kernel
theorem d_R_doOne_42 : decode prog_12_method_53_code 42 = .ok (.iaload, 1) := by decide +kernel
theorem d_R_doOne_43 : decode prog_12_method_53_code 43 = .ok (.goto 4, 3) := by decide +kernel
theorem d_R_doOne_46 : decode prog_12_method_53_code 46 = .ok (.iconst 0, 1) := by decide +kernel
theorem d_R_doOne_47 : decode prog_12_method_53_code 47 = .ok (.istore 4, 2) := by decide +kernel
theorem d_R_doOne_49 : decode prog_12_method_53_code 49 = .ok (.aload_n 0, 1) := by decide +kernel
theorem d_R_doOne_50 : decode prog_12_method_53_code 50 = .ok (.getfield 13, 3) := by decide +kernel
theorem d_R_doOne_53 : decode prog_12_method_53_code 53 = .ok (.iload_n 2, 1) := by decide +kernel
theorem d_R_doOne_54 : decode prog_12_method_53_code 54 = .ok (.iaload, 1) := by decide +kernel
theorem d_R_doOne_55 : decode prog_12_method_53_code 55 = .ok (.tableswitch 160 0 5 #[37, 67, 82, 95, 108, 121], 37) := by decide +kernel
theorem d_R_doOne_92 : decode prog_12_method_53_code 92 = .ok (.aload_n 0, 1) := by decide +kernel
theorem d_R_doOne_93 : decode prog_12_method_53_code 93 = .ok (.getfield 74, 3) := by decide +kernel
theorem d_R_doOne_96 : decode prog_12_method_53_code 96 = .ok (.iload_n 2, 1) := by decide +kernel
theorem d_R_doOne_97 : decode prog_12_method_53_code 97 = .ok (.aload_n 0, 1) := by decide +kernel
theorem d_R_doOne_98 : decode prog_12_method_53_code 98 = .ok (.getfield 71, 3) := by decide +kernel
theorem d_R_doOne_101 : decode prog_12_method_53_code 101 = .ok (.aload_n 1, 1) := by decide +kernel
theorem d_R_doOne_102 : decode prog_12_method_53_code 102 = .ok (.aload_n 0, 1) := by decide +kernel
theorem d_R_doOne_103 : decode prog_12_method_53_code 103 = .ok (.getfield 16, 3) := by decide +kernel
theorem d_R_doOne_106 : decode prog_12_method_53_code 106 = .ok (.iload_n 2, 1) := by decide +kernel
theorem d_R_doOne_107 : decode prog_12_method_53_code 107 = .ok (.iaload, 1) := by decide +kernel
theorem d_R_doOne_108 : decode prog_12_method_53_code 108 = .ok (.aload_n 0, 1) := by decide +kernel
theorem d_R_doOne_109 : decode prog_12_method_53_code 109 = .ok (.getfield 19, 3) := by decide +kernel
theorem d_R_doOne_112 : decode prog_12_method_53_code 112 = .ok (.iload_n 2, 1) := by decide +kernel
theorem d_R_doOne_113 : decode prog_12_method_53_code 113 = .ok (.iaload, 1) := by decide +kernel
theorem d_R_doOne_114 : decode prog_12_method_53_code 114 = .ok (.invokestatic 183, 3) := by decide +kernel
theorem d_R_doOne_117 : decode prog_12_method_53_code 117 = .ok (.iaload, 1) := by decide +kernel
theorem d_R_doOne_118 : decode prog_12_method_53_code 118 = .ok (.iastore, 1) := by decide +kernel
theorem d_R_doOne_119 : decode prog_12_method_53_code 119 = .ok (.goto 128, 3) := by decide +kernel
theorem d_R_doOne_122 : decode prog_12_method_53_code 122 = .ok (.aload_n 0, 1) := by decide +kernel
theorem d_R_doOne_123 : decode prog_12_method_53_code 123 = .ok (.getfield 74, 3) := by decide +kernel
theorem d_R_doOne_126 : decode prog_12_method_53_code 126 = .ok (.iload_n 2, 1) := by decide +kernel
theorem d_R_doOne_127 : decode prog_12_method_53_code 127 = .ok (.aload_n 0, 1) := by decide +kernel
theorem d_R_doOne_128 : decode prog_12_method_53_code 128 = .ok (.getfield 16, 3) := by decide +kernel
theorem d_R_doOne_131 : decode prog_12_method_53_code 131 = .ok (.iload_n 2, 1) := by decide +kernel
theorem d_R_doOne_132 : decode prog_12_method_53_code 132 = .ok (.iaload, 1) := by decide +kernel
theorem d_R_doOne_133 : decode prog_12_method_53_code 133 = .ok (.iastore, 1) := by decide +kernel
theorem d_R_doOne_134 : decode prog_12_method_53_code 134 = .ok (.goto 113, 3) := by decide +kernel
theorem d_R_doOne_137 : decode prog_12_method_53_code 137 = .ok (.aload_n 0, 1) := by decide +kernel
theorem d_R_doOne_138 : decode prog_12_method_53_code 138 = .ok (.getfield 74, 3) := by decide +kernel
theorem d_R_doOne_141 : decode prog_12_method_53_code 141 = .ok (.iload_n 2, 1) := by decide +kernel
theorem d_R_doOne_142 : decode prog_12_method_53_code 142 = .ok (.iload_n 3, 1) := by decide +kernel
theorem d_R_doOne_143 : decode prog_12_method_53_code 143 = .ok (.iload 4, 2) := by decide +kernel
theorem d_R_doOne_145 : decode prog_12_method_53_code 145 = .ok (.iadd, 1) := by decide +kernel
theorem d_R_doOne_146 : decode prog_12_method_53_code 146 = .ok (.iastore, 1) := by decide +kernel
theorem d_R_doOne_147 : decode prog_12_method_53_code 147 = .ok (.goto 100, 3) := by decide +kernel
theorem d_R_doOne_150 : decode prog_12_method_53_code 150 = .ok (.aload_n 0, 1) := by decide +kernel
theorem d_R_doOne_151 : decode prog_12_method_53_code 151 = .ok (.getfield 74, 3) := by decide +kernel
theorem d_R_doOne_154 : decode prog_12_method_53_code 154 = .ok (.iload_n 2, 1) := by decide +kernel
theorem d_R_doOne_155 : decode prog_12_method_53_code 155 = .ok (.iload_n 3, 1) := by decide +kernel
theorem d_R_doOne_156 : decode prog_12_method_53_code 156 = .ok (.iload 4, 2) := by decide +kernel
theorem d_R_doOne_158 : decode prog_12_method_53_code 158 = .ok (.isub, 1) := by decide +kernel
theorem d_R_doOne_159 : decode prog_12_method_53_code 159 = .ok (.iastore, 1) := by decide +kernel
theorem d_R_doOne_160 : decode prog_12_method_53_code 160 = .ok (.goto 87, 3) := by decide +kernel
theorem d_R_doOne_163 : decode prog_12_method_53_code 163 = .ok (.aload_n 0, 1) := by decide +kernel
theorem d_R_doOne_164 : decode prog_12_method_53_code 164 = .ok (.getfield 74, 3) := by decide +kernel
theorem d_R_doOne_167 : decode prog_12_method_53_code 167 = .ok (.iload_n 2, 1) := by decide +kernel
theorem d_R_doOne_168 : decode prog_12_method_53_code 168 = .ok (.iload_n 3, 1) := by decide +kernel
theorem d_R_doOne_169 : decode prog_12_method_53_code 169 = .ok (.iload 4, 2) := by decide +kernel
theorem d_R_doOne_171 : decode prog_12_method_53_code 171 = .ok (.imul, 1) := by decide +kernel
theorem d_R_doOne_172 : decode prog_12_method_53_code 172 = .ok (.iastore, 1) := by decide +kernel
theorem d_R_doOne_173 : decode prog_12_method_53_code 173 = .ok (.goto 74, 3) := by decide +kernel
theorem d_R_doOne_176 : decode prog_12_method_53_code 176 = .ok (.aload_n 0, 1) := by decide +kernel
theorem d_R_doOne_177 : decode prog_12_method_53_code 177 = .ok (.iload 4, 2) := by decide +kernel
theorem d_R_doOne_179 : decode prog_12_method_53_code 179 = .ok (.ifCond .ne 7, 3) := by decide +kernel
theorem d_R_doOne_182 : decode prog_12_method_53_code 182 = .ok (.iload_n 2, 1) := by decide +kernel
theorem d_R_doOne_183 : decode prog_12_method_53_code 183 = .ok (.goto 7, 3) := by decide +kernel
theorem d_R_doOne_186 : decode prog_12_method_53_code 186 = .ok (.aload_n 0, 1) := by decide +kernel
theorem d_R_doOne_187 : decode prog_12_method_53_code 187 = .ok (.getfield 293, 3) := by decide +kernel
theorem d_R_doOne_190 : decode prog_12_method_53_code 190 = .ok (.putfield 293, 3) := by decide +kernel
theorem d_R_doOne_193 : decode prog_12_method_53_code 193 = .ok (.aload_n 0, 1) := by decide +kernel
theorem d_R_doOne_194 : decode prog_12_method_53_code 194 = .ok (.getfield 74, 3) := by decide +kernel
theorem d_R_doOne_197 : decode prog_12_method_53_code 197 = .ok (.iload_n 2, 1) := by decide +kernel
theorem d_R_doOne_198 : decode prog_12_method_53_code 198 = .ok (.iload 4, 2) := by decide +kernel
theorem d_R_doOne_200 : decode prog_12_method_53_code 200 = .ok (.ifCond .ne 7, 3) := by decide +kernel
theorem d_R_doOne_203 : decode prog_12_method_53_code 203 = .ok (.iconst 0, 1) := by decide +kernel
theorem d_R_doOne_204 : decode prog_12_method_53_code 204 = .ok (.goto 7, 3) := by decide +kernel
theorem d_R_doOne_207 : decode prog_12_method_53_code 207 = .ok (.iload_n 3, 1) := by decide +kernel
theorem d_R_doOne_208 : decode prog_12_method_53_code 208 = .ok (.iload 4, 2) := by decide +kernel
theorem d_R_doOne_210 : decode prog_12_method_53_code 210 = .ok (.idiv, 1) := by decide +kernel
theorem d_R_doOne_211 : decode prog_12_method_53_code 211 = .ok (.iastore, 1) := by decide +kernel
theorem d_R_doOne_212 : decode prog_12_method_53_code 212 = .ok (.goto 35, 3) := by decide +kernel
theorem d_R_doOne_215 : decode prog_12_method_53_code 215 = .ok (.aload_n 0, 1) := by decide +kernel
theorem d_R_doOne_216 : decode prog_12_method_53_code 216 = .ok (.getfield 71, 3) := by decide +kernel
theorem d_R_doOne_219 : decode prog_12_method_53_code 219 = .ok (.aload_n 1, 1) := by decide +kernel
theorem d_R_doOne_220 : decode prog_12_method_53_code 220 = .ok (.aload_n 0, 1) := by decide +kernel
theorem d_R_doOne_221 : decode prog_12_method_53_code 221 = .ok (.getfield 16, 3) := by decide +kernel
theorem d_R_doOne_224 : decode prog_12_method_53_code 224 = .ok (.iload_n 2, 1) := by decide +kernel
theorem d_R_doOne_225 : decode prog_12_method_53_code 225 = .ok (.iaload, 1) := by decide +kernel
theorem d_R_doOne_226 : decode prog_12_method_53_code 226 = .ok (.aload_n 0, 1) := by decide +kernel
theorem d_R_doOne_227 : decode prog_12_method_53_code 227 = .ok (.getfield 19, 3) := by decide +kernel
theorem d_R_doOne_230 : decode prog_12_method_53_code 230 = .ok (.iload_n 2, 1) := by decide +kernel
theorem d_R_doOne_231 : decode prog_12_method_53_code 231 = .ok (.iaload, 1) := by decide +kernel
theorem d_R_doOne_232 : decode prog_12_method_53_code 232 = .ok (.invokestatic 183, 3) := by decide +kernel
theorem d_R_doOne_235 : decode prog_12_method_53_code 235 = .ok (.aload_n 0, 1) := by decide +kernel
theorem d_R_doOne_236 : decode prog_12_method_53_code 236 = .ok (.getfield 74, 3) := by decide +kernel
theorem d_R_doOne_239 : decode prog_12_method_53_code 239 = .ok (.aload_n 0, 1) := by decide +kernel
theorem d_R_doOne_240 : decode prog_12_method_53_code 240 = .ok (.getfield 22, 3) := by decide +kernel
theorem d_R_doOne_243 : decode prog_12_method_53_code 243 = .ok (.iload_n 2, 1) := by decide +kernel
theorem d_R_doOne_244 : decode prog_12_method_53_code 244 = .ok (.iaload, 1) := by decide +kernel
theorem d_R_doOne_245 : decode prog_12_method_53_code 245 = .ok (.iaload, 1) := by decide +kernel
theorem d_R_doOne_246 : decode prog_12_method_53_code 246 = .ok (.iastore, 1) := by decide +kernel
theorem d_R_doOne_247 : decode prog_12_method_53_code 247 = .ok (.return_, 1) := by decide +kernel
def B_R_doOne (_ : Nat × Nat) : PS :=
  (sSq (sI 3 (eIf (e1 (fun x : Int32 => decide (¬ x = 0)) (eX .int (xV 10 1 X_R_isBinary (eR 0) (aC .int (eI 2) aN)))) (eAI (eFR 10 36 (eR 0)) (eAI (eFR 10 4 (eR 0)) (eI 2))) (eV (0 : Int32))))
    (sSq (sI 4 (eIf (e1 (fun x : Int32 => decide (¬ x = 0)) (eX .int (xV 10 1 X_R_isBinary (eR 0) (aC .int (eI 2) aN)))) (eAI (eFR 10 36 (eR 0)) (eAI (eFR 10 5 (eR 0)) (eI 2))) (eV (0 : Int32))))
    (sSq (sSw 5 (eAI (eFR 10 3 (eR 0)) (eI 2)) [(0, 0), (1, 1), (2, 2), (3, 3), (4, 4), (5, 5)] 6 [(sSq (sAI (eFR 10 36 (eR 0)) (eI 2) (eAI (eFR 10 35 (eR 0)) (eX .int (xS 3 X_R_addressOf (aC .ref (eR 1) (aC .int (eAI (eFR 10 4 (eR 0)) (eI 2)) (aC .int (eAI (eFR 10 5 (eR 0)) (eI 2)) aN)))))))
    sBk),
    (sSq (sAI (eFR 10 36 (eR 0)) (eI 2) (eAI (eFR 10 4 (eR 0)) (eI 2)))
    sBk),
    (sSq (sAI (eFR 10 36 (eR 0)) (eI 2) (e2 (fun x y : Int32 => x + y) (eI 3) (eI 4)))
    sBk),
    (sSq (sAI (eFR 10 36 (eR 0)) (eI 2) (e2 (fun x y : Int32 => x - y) (eI 3) (eI 4)))
    sBk),
    (sSq (sAI (eFR 10 36 (eR 0)) (eI 2) (e2 (fun x y : Int32 => x * y) (eI 3) (eI 4)))
    sBk),
    (sSq (sF .int 10 37 (eR 0) (eIf (e1 (fun x : Int32 => decide (x = 0)) (eI 4)) (eI 2) (eFI 10 37 (eR 0))))
    (sSq (sAI (eFR 10 36 (eR 0)) (eI 2) (eIf (e1 (fun x : Int32 => decide (x = 0)) (eI 4)) (eV (0 : Int32)) (eDI (fun x y : Int32 => x / y) (eI 3) (eI 4))))
    sBk)),
    (sAI (eFR 10 35 (eR 0)) (eX .int (xS 3 X_R_addressOf (aC .ref (eR 1) (aC .int (eAI (eFR 10 4 (eR 0)) (eI 2)) (aC .int (eAI (eFR 10 5 (eR 0)) (eI 2)) aN))))) (eAI (eFR 10 36 (eR 0)) (eAI (eFR 10 6 (eR 0)) (eI 2))))])
    sRv)))
def X_R_doOne : PM := fun vs h Q => (lx vs).length ≤ 5 ∧ B_R_doOne (h.length + 0, hsz h + 0) (fun _ _ => False) (fun _ _ => False) (fun _ _ => False) Q (lini 5 vs) h
theorem v_R_doOne (l : Launch) : Ctr l y_R_doOne prog_12_method_53_code 5 none rm_R_doOne X_R_doOne := by
  refine Ctr_of (own := "PackLanesModel") (B := B_R_doOne) (KR := fun _ Q => Q) (by decide) rfl (fun _ _ _ z => z) (fun _ _ _ _ z => ⟨Or.inl ⟨rfl, rfl⟩, z⟩) (Or.inl rfl) (fun κ hl ho hR hrt hn0 => ?_)
  subst hl
  unfold B_R_doOne
  exact (S_sq (pc1 := 24) (S_In (pc1 := 23) (E_if (pT := 8) (pF := 22) (pc1 := 19) (pc2 := 23) (J1_ne (pF := 22) (pc2 := 5) (E_x (O_V k_R_180 (v_R_isBinary _) ⟨rfl, rfl⟩ ho (rk hR rfl) (by decide) (T := KT10) (N := 50) rfl (by decide) (pc1 := 1) (pc2 := 2) (E_aln d_R_doOne_0 rfl) (A_c catI (pc1 := 2) (E_iln d_R_doOne_1 rfl) A_n) d_R_doOne_2)) d_R_doOne_5 rfl) (E_aI (pc1 := 12) (pc2 := 18) (E_fR f_R_74 ho (pc1 := 9) (E_aln d_R_doOne_8 rfl) d_R_doOne_9) (E_aI (pc1 := 16) (pc2 := 17) (E_fR f_R_16 ho (pc1 := 13) (E_aln d_R_doOne_12 rfl) d_R_doOne_13) (E_iln d_R_doOne_16 rfl) d_R_doOne_17) d_R_doOne_18) d_R_doOne_19 rfl (E_ic d_R_doOne_22 rfl)) d_R_doOne_23 rfl)
    (S_sq (pc1 := 49) (S_I (pc1 := 47) (E_if (pT := 32) (pF := 46) (pc1 := 43) (pc2 := 47) (J1_ne (pF := 46) (pc2 := 29) (E_x (O_V k_R_180 (v_R_isBinary _) ⟨rfl, rfl⟩ ho (rk hR rfl) (by decide) (T := KT10) (N := 50) rfl (by decide) (pc1 := 25) (pc2 := 26) (E_aln d_R_doOne_24 rfl) (A_c catI (pc1 := 26) (E_iln d_R_doOne_25 rfl) A_n) d_R_doOne_26)) d_R_doOne_29 rfl) (E_aI (pc1 := 36) (pc2 := 42) (E_fR f_R_74 ho (pc1 := 33) (E_aln d_R_doOne_32 rfl) d_R_doOne_33) (E_aI (pc1 := 40) (pc2 := 41) (E_fR f_R_19 ho (pc1 := 37) (E_aln d_R_doOne_36 rfl) d_R_doOne_37) (E_iln d_R_doOne_40 rfl) d_R_doOne_41) d_R_doOne_42) d_R_doOne_43 rfl (E_ic d_R_doOne_46 rfl)) d_R_doOne_47)
    (S_sq (pc1 := 247) (S_sw (pcs := [92, 122, 137, 150, 163, 176, 215, 247]) (pc1 := 55) (pN := 247) (E_aI (pc1 := 53) (pc2 := 54) (E_fR f_R_13 ho (pc1 := 50) (E_aln d_R_doOne_49 rfl) d_R_doOne_50) (E_iln d_R_doOne_53 rfl) d_R_doOne_54) (fun _ _ _ k => r_tsw d_R_doOne_55 (by decide +kernel) k) (And.intro (S_sq (pc1 := 119) (S_AI (pc1 := 96) (pc2 := 97) (pc3 := 118) (E_fR f_R_74 ho (pc1 := 93) (E_aln d_R_doOne_92 rfl) d_R_doOne_93) (E_iln d_R_doOne_96 rfl) (E_aI (pc1 := 101) (pc2 := 117) (E_fR f_R_71 ho (pc1 := 98) (E_aln d_R_doOne_97 rfl) d_R_doOne_98) (E_x (O_S k_R_183 (v_R_addressOf _) ⟨rfl, rfl⟩ ho (rk hR rfl) (by decide) (pc2 := 114) (A_c catR (pc1 := 102) (E_aln d_R_doOne_101 rfl) (A_c catI (pc1 := 108) (E_aI (pc1 := 106) (pc2 := 107) (E_fR f_R_16 ho (pc1 := 103) (E_aln d_R_doOne_102 rfl) d_R_doOne_103) (E_iln d_R_doOne_106 rfl) d_R_doOne_107) (A_c catI (pc1 := 114) (E_aI (pc1 := 112) (pc2 := 113) (E_fR f_R_19 ho (pc1 := 109) (E_aln d_R_doOne_108 rfl) d_R_doOne_109) (E_iln d_R_doOne_112 rfl) d_R_doOne_113) A_n))) d_R_doOne_114)) d_R_doOne_117) d_R_doOne_118)
    (S_bk d_R_doOne_119 rfl))
    (And.intro (S_sq (pc1 := 134) (S_AI (pc1 := 126) (pc2 := 127) (pc3 := 133) (E_fR f_R_74 ho (pc1 := 123) (E_aln d_R_doOne_122 rfl) d_R_doOne_123) (E_iln d_R_doOne_126 rfl) (E_aI (pc1 := 131) (pc2 := 132) (E_fR f_R_16 ho (pc1 := 128) (E_aln d_R_doOne_127 rfl) d_R_doOne_128) (E_iln d_R_doOne_131 rfl) d_R_doOne_132) d_R_doOne_133)
    (S_bk d_R_doOne_134 rfl))
    (And.intro (S_sq (pc1 := 147) (S_AI (pc1 := 141) (pc2 := 142) (pc3 := 146) (E_fR f_R_74 ho (pc1 := 138) (E_aln d_R_doOne_137 rfl) d_R_doOne_138) (E_iln d_R_doOne_141 rfl) (E_iadd (pc1 := 143) (pc2 := 145) (E_iln d_R_doOne_142 rfl) (E_il d_R_doOne_143) d_R_doOne_145) d_R_doOne_146)
    (S_bk d_R_doOne_147 rfl))
    (And.intro (S_sq (pc1 := 160) (S_AI (pc1 := 154) (pc2 := 155) (pc3 := 159) (E_fR f_R_74 ho (pc1 := 151) (E_aln d_R_doOne_150 rfl) d_R_doOne_151) (E_iln d_R_doOne_154 rfl) (E_isub (pc1 := 156) (pc2 := 158) (E_iln d_R_doOne_155 rfl) (E_il d_R_doOne_156) d_R_doOne_158) d_R_doOne_159)
    (S_bk d_R_doOne_160 rfl))
    (And.intro (S_sq (pc1 := 173) (S_AI (pc1 := 167) (pc2 := 168) (pc3 := 172) (E_fR f_R_74 ho (pc1 := 164) (E_aln d_R_doOne_163 rfl) d_R_doOne_164) (E_iln d_R_doOne_167 rfl) (E_imul (pc1 := 169) (pc2 := 171) (E_iln d_R_doOne_168 rfl) (E_il d_R_doOne_169) d_R_doOne_171) d_R_doOne_172)
    (S_bk d_R_doOne_173 rfl))
    (And.intro (S_sq (pc1 := 193) (S_FI f_R_293 ho (pc1 := 177) (pc2 := 190) (E_aln d_R_doOne_176 rfl) (E_if (pT := 182) (pF := 186) (pc1 := 183) (pc2 := 190) (J1_eq (pF := 186) (pc2 := 179) (E_il d_R_doOne_177) d_R_doOne_179 rfl) (E_iln d_R_doOne_182 rfl) d_R_doOne_183 rfl (E_fI f_R_293 ho (pc1 := 187) (E_aln d_R_doOne_186 rfl) d_R_doOne_187)) d_R_doOne_190)
    (S_sq (pc1 := 212) (S_AI (pc1 := 197) (pc2 := 198) (pc3 := 211) (E_fR f_R_74 ho (pc1 := 194) (E_aln d_R_doOne_193 rfl) d_R_doOne_194) (E_iln d_R_doOne_197 rfl) (E_if (pT := 203) (pF := 207) (pc1 := 204) (pc2 := 211) (J1_eq (pF := 207) (pc2 := 200) (E_il d_R_doOne_198) d_R_doOne_200 rfl) (E_ic d_R_doOne_203 rfl) d_R_doOne_204 rfl (E_idiv (pc1 := 208) (pc2 := 210) (E_iln d_R_doOne_207 rfl) (E_il d_R_doOne_208) d_R_doOne_210)) d_R_doOne_211)
    (S_bk d_R_doOne_212 rfl)))
    (And.intro (S_AI (pc1 := 219) (pc2 := 235) (pc3 := 246) (E_fR f_R_71 ho (pc1 := 216) (E_aln d_R_doOne_215 rfl) d_R_doOne_216) (E_x (O_S k_R_183 (v_R_addressOf _) ⟨rfl, rfl⟩ ho (rk hR rfl) (by decide) (pc2 := 232) (A_c catR (pc1 := 220) (E_aln d_R_doOne_219 rfl) (A_c catI (pc1 := 226) (E_aI (pc1 := 224) (pc2 := 225) (E_fR f_R_16 ho (pc1 := 221) (E_aln d_R_doOne_220 rfl) d_R_doOne_221) (E_iln d_R_doOne_224 rfl) d_R_doOne_225) (A_c catI (pc1 := 232) (E_aI (pc1 := 230) (pc2 := 231) (E_fR f_R_19 ho (pc1 := 227) (E_aln d_R_doOne_226 rfl) d_R_doOne_227) (E_iln d_R_doOne_230 rfl) d_R_doOne_231) A_n))) d_R_doOne_232)) (E_aI (pc1 := 239) (pc2 := 245) (E_fR f_R_74 ho (pc1 := 236) (E_aln d_R_doOne_235 rfl) d_R_doOne_236) (E_aI (pc1 := 243) (pc2 := 244) (E_fR f_R_22 ho (pc1 := 240) (E_aln d_R_doOne_239 rfl) d_R_doOne_240) (E_iln d_R_doOne_243 rfl) d_R_doOne_244) d_R_doOne_245) d_R_doOne_246)
    rfl))))))) (by decide))
    (S_rv hrt d_R_doOne_247))))
theorem d_R_run_0 : decode prog_12_method_54_code 0 = .ok (.aload_n 0, 1) := by decide +kernel
theorem d_R_run_1 : decode prog_12_method_54_code 1 = .ok (.aload_n 1, 1) := by decide +kernel
theorem d_R_run_2 : decode prog_12_method_54_code 2 = .ok (.invokevirtual 296, 3) := by decide +kernel
theorem d_R_run_5 : decode prog_12_method_54_code 5 = .ok (.iconst 0, 1) := by decide +kernel
theorem d_R_run_6 : decode prog_12_method_54_code 6 = .ok (.istore_n 3, 1) := by decide +kernel
theorem d_R_run_7 : decode prog_12_method_54_code 7 = .ok (.iload_n 3, 1) := by decide +kernel
theorem d_R_run_8 : decode prog_12_method_54_code 8 = .ok (.aload_n 0, 1) := by decide +kernel
theorem d_R_run_9 : decode prog_12_method_54_code 9 = .ok (.getfield 99, 3) := by decide +kernel
theorem d_R_run_12 : decode prog_12_method_54_code 12 = .ok (.if_icmp .ge 29, 3) := by decide +kernel
theorem d_R_run_15 : decode prog_12_method_54_code 15 = .ok (.aload_n 0, 1) := by decide +kernel
theorem d_R_run_16 : decode prog_12_method_54_code 16 = .ok (.getfield 293, 3) := by decide +kernel
theorem d_R_run_19 : decode prog_12_method_54_code 19 = .ok (.bipush (-9), 2) := by decide +kernel
theorem d_R_run_21 : decode prog_12_method_54_code 21 = .ok (.if_icmp .ne 20, 3) := by decide +kernel
theorem d_R_run_24 : decode prog_12_method_54_code 24 = .ok (.iload_n 3, 1) := by decide +kernel
theorem d_R_run_25 : decode prog_12_method_54_code 25 = .ok (.iload_n 2, 1) := by decide +kernel
theorem d_R_run_26 : decode prog_12_method_54_code 26 = .ok (.if_icmp .eq 9, 3) := by decide +kernel
theorem d_R_run_29 : decode prog_12_method_54_code 29 = .ok (.aload_n 0, 1) := by decide +kernel
theorem d_R_run_30 : decode prog_12_method_54_code 30 = .ok (.aload_n 1, 1) := by decide +kernel
theorem d_R_run_31 : decode prog_12_method_54_code 31 = .ok (.iload_n 3, 1) := by decide +kernel
theorem d_R_run_32 : decode prog_12_method_54_code 32 = .ok (.invokevirtual 299, 3) := by decide +kernel
theorem d_R_run_35 : decode prog_12_method_54_code 35 = .ok (.iinc 3 1, 3) := by decide +kernel
theorem d_R_run_38 : decode prog_12_method_54_code 38 = .ok (.goto (-31), 3) := by decide +kernel
theorem d_R_run_41 : decode prog_12_method_54_code 41 = .ok (.return_, 1) := by decide +kernel
def B_R_run (_ : Nat × Nat) : PS :=
  (sSq (sX (xV 10 1 X_R_beginRun (eR 0) (aC .ref (eR 1) aN)))
    (sSq (sCut 3 (sSq (sI 3 (eV (0 : Int32)))
    (sLp 4 (cA (e2 (fun x y : Int32 => decide (x < y)) (eI 3) (eFI 10 2 (eR 0))) (e2 (fun x y : Int32 => decide (x = y)) (eFI 10 37 (eR 0)) (eV (-9 : Int32))))
    (sIf (e2 (fun x y : Int32 => decide (¬ x = y)) (eI 3) (eI 2)) (sX (xV 10 2 X_R_doOne (eR 0) (aC .ref (eR 1) (aC .int (eI 3) aN)))) sSk)
    (sInc 3 (1)))))
    sRv))
def X_R_run : PM := fun vs h Q => (lx vs).length ≤ 4 ∧ B_R_run (h.length + 0, hsz h + 0) (fun _ _ => False) (fun _ _ => False) (fun _ _ => False) Q (lini 4 vs) h
theorem v_R_run (l : Launch) : Ctr l y_R_run prog_12_method_54_code 4 none rm_R_run X_R_run := by
  refine Ctr_of (own := "PackLanesModel") (B := B_R_run) (KR := fun _ Q => Q) (by decide) rfl (fun _ _ _ z => z) (fun _ _ _ _ z => ⟨Or.inl ⟨rfl, rfl⟩, z⟩) (Or.inl rfl) (fun κ hl ho hR hrt hn0 => ?_)
  subst hl
  unfold B_R_run
  exact (S_sq (pc1 := 5) (S_X (O_V k_R_296 (v_R_beginRun _) ⟨rfl, rfl⟩ ho (rk hR rfl) (by decide) (T := KT10) (N := 50) rfl (by decide) (pc1 := 1) (pc2 := 2) (E_aln d_R_run_0 rfl) (A_c catR (pc1 := 2) (E_aln d_R_run_1 rfl) A_n) d_R_run_2))
    (S_sq (pc1 := 41) (S_cut (S_sq (pc1 := 7) (S_In (pc1 := 6) (E_ic d_R_run_5 rfl) d_R_run_6 rfl)
    (S_lp (pT := 24) (pF := 41) (pS := 35) (pG := 38) (C_and (pc1 := 15) (J2_lt (pF := 41) (pc1 := 8) (pc2 := 12) (E_iln d_R_run_7 rfl) (E_fI f_R_99 ho (pc1 := 9) (E_aln d_R_run_8 rfl) d_R_run_9) d_R_run_12 rfl) (J2_eq (pF := 41) (pc1 := 19) (pc2 := 21) (E_fI f_R_293 ho (pc1 := 16) (E_aln d_R_run_15 rfl) d_R_run_16) (E_bi d_R_run_19 rfl) d_R_run_21 rfl))
    (S_if1 (pT := 29) (pF := 35) (J2_ne (pF := 35) (pc1 := 25) (pc2 := 26) (E_iln d_R_run_24 rfl) (E_iln d_R_run_25 rfl) d_R_run_26 rfl) (S_X (O_V k_R_299 (v_R_doOne _) ⟨rfl, rfl⟩ ho (rk hR rfl) (by decide) (T := KT10) (N := 50) rfl (by decide) (pc1 := 30) (pc2 := 32) (E_aln d_R_run_29 rfl) (A_c catR (pc1 := 31) (E_aln d_R_run_30 rfl) (A_c catI (pc1 := 32) (E_iln d_R_run_31 rfl) A_n)) d_R_run_32)))
    (S_Inc d_R_run_35 rfl) d_R_run_38 rfl)))
    (S_rv hrt d_R_run_41)))
theorem d_R_packedRun_0 : decode prog_12_method_55_code 0 = .ok (.aload_n 0, 1) := by decide +kernel
theorem d_R_packedRun_1 : decode prog_12_method_55_code 1 = .ok (.aload_n 1, 1) := by decide +kernel
theorem d_R_packedRun_2 : decode prog_12_method_55_code 2 = .ok (.iconst 0, 1) := by decide +kernel
theorem d_R_packedRun_3 : decode prog_12_method_55_code 3 = .ok (.invokevirtual 287, 3) := by decide +kernel
theorem d_R_packedRun_6 : decode prog_12_method_55_code 6 = .ok (.aload_n 0, 1) := by decide +kernel
theorem d_R_packedRun_7 : decode prog_12_method_55_code 7 = .ok (.aload_n 1, 1) := by decide +kernel
theorem d_R_packedRun_8 : decode prog_12_method_55_code 8 = .ok (.invokevirtual 296, 3) := by decide +kernel
theorem d_R_packedRun_11 : decode prog_12_method_55_code 11 = .ok (.iconst 0, 1) := by decide +kernel
theorem d_R_packedRun_12 : decode prog_12_method_55_code 12 = .ok (.istore_n 2, 1) := by decide +kernel
theorem d_R_packedRun_13 : decode prog_12_method_55_code 13 = .ok (.iload_n 2, 1) := by decide +kernel
theorem d_R_packedRun_14 : decode prog_12_method_55_code 14 = .ok (.aload_n 0, 1) := by decide +kernel
theorem d_R_packedRun_15 : decode prog_12_method_55_code 15 = .ok (.getfield 99, 3) := by decide +kernel
theorem d_R_packedRun_18 : decode prog_12_method_55_code 18 = .ok (.if_icmp .ge 50, 3) := by decide +kernel
theorem d_R_packedRun_21 : decode prog_12_method_55_code 21 = .ok (.iconst 0, 1) := by decide +kernel
theorem d_R_packedRun_22 : decode prog_12_method_55_code 22 = .ok (.istore_n 3, 1) := by decide +kernel
theorem d_R_packedRun_23 : decode prog_12_method_55_code 23 = .ok (.iload_n 3, 1) := by decide +kernel
theorem d_R_packedRun_24 : decode prog_12_method_55_code 24 = .ok (.aload_n 0, 1) := by decide +kernel
theorem d_R_packedRun_25 : decode prog_12_method_55_code 25 = .ok (.getfield 99, 3) := by decide +kernel
theorem d_R_packedRun_28 : decode prog_12_method_55_code 28 = .ok (.if_icmp .ge 34, 3) := by decide +kernel
theorem d_R_packedRun_31 : decode prog_12_method_55_code 31 = .ok (.aload_n 0, 1) := by decide +kernel
theorem d_R_packedRun_32 : decode prog_12_method_55_code 32 = .ok (.getfield 293, 3) := by decide +kernel
theorem d_R_packedRun_35 : decode prog_12_method_55_code 35 = .ok (.bipush (-9), 2) := by decide +kernel
theorem d_R_packedRun_37 : decode prog_12_method_55_code 37 = .ok (.if_icmp .ne 25, 3) := by decide +kernel
theorem d_R_packedRun_40 : decode prog_12_method_55_code 40 = .ok (.aload_n 0, 1) := by decide +kernel
theorem d_R_packedRun_41 : decode prog_12_method_55_code 41 = .ok (.getfield 68, 3) := by decide +kernel
theorem d_R_packedRun_44 : decode prog_12_method_55_code 44 = .ok (.iload_n 3, 1) := by decide +kernel
theorem d_R_packedRun_45 : decode prog_12_method_55_code 45 = .ok (.iaload, 1) := by decide +kernel
theorem d_R_packedRun_46 : decode prog_12_method_55_code 46 = .ok (.iload_n 2, 1) := by decide +kernel
theorem d_R_packedRun_47 : decode prog_12_method_55_code 47 = .ok (.if_icmp .ne 9, 3) := by decide +kernel
theorem d_R_packedRun_50 : decode prog_12_method_55_code 50 = .ok (.aload_n 0, 1) := by decide +kernel
theorem d_R_packedRun_51 : decode prog_12_method_55_code 51 = .ok (.aload_n 1, 1) := by decide +kernel
theorem d_R_packedRun_52 : decode prog_12_method_55_code 52 = .ok (.iload_n 3, 1) := by decide +kernel
theorem d_R_packedRun_53 : decode prog_12_method_55_code 53 = .ok (.invokevirtual 299, 3) := by decide +kernel
theorem d_R_packedRun_56 : decode prog_12_method_55_code 56 = .ok (.iinc 3 1, 3) := by decide +kernel
theorem d_R_packedRun_59 : decode prog_12_method_55_code 59 = .ok (.goto (-36), 3) := by decide +kernel
theorem d_R_packedRun_62 : decode prog_12_method_55_code 62 = .ok (.iinc 2 1, 3) := by decide +kernel
theorem d_R_packedRun_65 : decode prog_12_method_55_code 65 = .ok (.goto (-52), 3) := by decide +kernel
theorem d_R_packedRun_68 : decode prog_12_method_55_code 68 = .ok (.return_, 1) := by decide +kernel
def B_R_packedRun (_ : Nat × Nat) : PS :=
  (sSq (sX (xV 10 2 X_R_pack (eR 0) (aC .ref (eR 1) (aC .int (eV (0 : Int32)) aN))))
    (sSq (sX (xV 10 1 X_R_beginRun (eR 0) (aC .ref (eR 1) aN)))
    (sSq (sCut 2 (sSq (sI 2 (eV (0 : Int32)))
    (sLp 3 (e2 (fun x y : Int32 => decide (x < y)) (eI 2) (eFI 10 2 (eR 0)))
    (sCut 3 (sSq (sI 3 (eV (0 : Int32)))
    (sLp 4 (cA (e2 (fun x y : Int32 => decide (x < y)) (eI 3) (eFI 10 2 (eR 0))) (e2 (fun x y : Int32 => decide (x = y)) (eFI 10 37 (eR 0)) (eV (-9 : Int32))))
    (sIf (e2 (fun x y : Int32 => decide (x = y)) (eAI (eFR 10 34 (eR 0)) (eI 3)) (eI 2)) (sX (xV 10 2 X_R_doOne (eR 0) (aC .ref (eR 1) (aC .int (eI 3) aN)))) sSk)
    (sInc 3 (1)))))
    (sInc 2 (1)))))
    sRv)))
def X_R_packedRun : PM := fun vs h Q => (lx vs).length ≤ 4 ∧ B_R_packedRun (h.length + 0, hsz h + 0) (fun _ _ => False) (fun _ _ => False) (fun _ _ => False) Q (lini 4 vs) h
theorem v_R_packedRun (l : Launch) : Ctr l y_R_packedRun prog_12_method_55_code 4 none rm_R_packedRun X_R_packedRun := by
  refine Ctr_of (own := "PackLanesModel") (B := B_R_packedRun) (KR := fun _ Q => Q) (by decide) rfl (fun _ _ _ z => z) (fun _ _ _ _ z => ⟨Or.inl ⟨rfl, rfl⟩, z⟩) (Or.inl rfl) (fun κ hl ho hR hrt hn0 => ?_)
  subst hl
  unfold B_R_packedRun
  exact (S_sq (pc1 := 6) (S_X (O_V k_R_287 (v_R_pack _) ⟨rfl, rfl⟩ ho (rk hR rfl) (by decide) (T := KT10) (N := 50) rfl (by decide) (pc1 := 1) (pc2 := 3) (E_aln d_R_packedRun_0 rfl) (A_c catR (pc1 := 2) (E_aln d_R_packedRun_1 rfl) (A_c catI (pc1 := 3) (E_ic d_R_packedRun_2 rfl) A_n)) d_R_packedRun_3))
    (S_sq (pc1 := 11) (S_X (O_V k_R_296 (v_R_beginRun _) ⟨rfl, rfl⟩ ho (rk hR rfl) (by decide) (T := KT10) (N := 50) rfl (by decide) (pc1 := 7) (pc2 := 8) (E_aln d_R_packedRun_6 rfl) (A_c catR (pc1 := 8) (E_aln d_R_packedRun_7 rfl) A_n) d_R_packedRun_8))
    (S_sq (pc1 := 68) (S_cut (S_sq (pc1 := 13) (S_In (pc1 := 12) (E_ic d_R_packedRun_11 rfl) d_R_packedRun_12 rfl)
    (S_lp (pT := 21) (pF := 68) (pS := 62) (pG := 65) (J2_lt (pF := 68) (pc1 := 14) (pc2 := 18) (E_iln d_R_packedRun_13 rfl) (E_fI f_R_99 ho (pc1 := 15) (E_aln d_R_packedRun_14 rfl) d_R_packedRun_15) d_R_packedRun_18 rfl)
    (S_cut (S_sq (pc1 := 23) (S_In (pc1 := 22) (E_ic d_R_packedRun_21 rfl) d_R_packedRun_22 rfl)
    (S_lp (pT := 40) (pF := 62) (pS := 56) (pG := 59) (C_and (pc1 := 31) (J2_lt (pF := 62) (pc1 := 24) (pc2 := 28) (E_iln d_R_packedRun_23 rfl) (E_fI f_R_99 ho (pc1 := 25) (E_aln d_R_packedRun_24 rfl) d_R_packedRun_25) d_R_packedRun_28 rfl) (J2_eq (pF := 62) (pc1 := 35) (pc2 := 37) (E_fI f_R_293 ho (pc1 := 32) (E_aln d_R_packedRun_31 rfl) d_R_packedRun_32) (E_bi d_R_packedRun_35 rfl) d_R_packedRun_37 rfl))
    (S_if1 (pT := 50) (pF := 56) (J2_eq (pF := 56) (pc1 := 46) (pc2 := 47) (E_aI (pc1 := 44) (pc2 := 45) (E_fR f_R_68 ho (pc1 := 41) (E_aln d_R_packedRun_40 rfl) d_R_packedRun_41) (E_iln d_R_packedRun_44 rfl) d_R_packedRun_45) (E_iln d_R_packedRun_46 rfl) d_R_packedRun_47 rfl) (S_X (O_V k_R_299 (v_R_doOne _) ⟨rfl, rfl⟩ ho (rk hR rfl) (by decide) (T := KT10) (N := 50) rfl (by decide) (pc1 := 51) (pc2 := 53) (E_aln d_R_packedRun_50 rfl) (A_c catR (pc1 := 52) (E_aln d_R_packedRun_51 rfl) (A_c catI (pc1 := 53) (E_iln d_R_packedRun_52 rfl) A_n)) d_R_packedRun_53)))
    (S_Inc d_R_packedRun_56 rfl) d_R_packedRun_59 rfl)))
    (S_Inc d_R_packedRun_62 rfl) d_R_packedRun_65 rfl)))
    (S_rv hrt d_R_packedRun_68))))
theorem d_R_bestWidth_0 : decode prog_12_method_56_code 0 = .ok (.aload_n 0, 1) := by decide +kernel
theorem d_R_bestWidth_1 : decode prog_12_method_56_code 1 = .ok (.getfield 25, 3) := by decide +kernel
theorem d_R_bestWidth_4 : decode prog_12_method_56_code 4 = .ok (.aload_n 0, 1) := by decide +kernel
theorem d_R_bestWidth_5 : decode prog_12_method_56_code 5 = .ok (.getfield 28, 3) := by decide +kernel
theorem d_R_bestWidth_8 : decode prog_12_method_56_code 8 = .ok (.invokestatic 302, 3) := by decide +kernel
theorem d_R_bestWidth_11 : decode prog_12_method_56_code 11 = .ok (.aload_n 0, 1) := by decide +kernel
theorem d_R_bestWidth_12 : decode prog_12_method_56_code 12 = .ok (.getfield 28, 3) := by decide +kernel
theorem d_R_bestWidth_15 : decode prog_12_method_56_code 15 = .ok (.bipush 18, 2) := by decide +kernel
theorem d_R_bestWidth_17 : decode prog_12_method_56_code 17 = .ok (.iconst 2, 1) := by decide +kernel
theorem d_R_bestWidth_18 : decode prog_12_method_56_code 18 = .ok (.iastore, 1) := by decide +kernel
theorem d_R_bestWidth_19 : decode prog_12_method_56_code 19 = .ok (.aload_n 0, 1) := by decide +kernel
theorem d_R_bestWidth_20 : decode prog_12_method_56_code 20 = .ok (.aload_n 0, 1) := by decide +kernel
theorem d_R_bestWidth_21 : decode prog_12_method_56_code 21 = .ok (.getfield 28, 3) := by decide +kernel
theorem d_R_bestWidth_24 : decode prog_12_method_56_code 24 = .ok (.invokevirtual 306, 3) := by decide +kernel
theorem d_R_bestWidth_27 : decode prog_12_method_56_code 27 = .ok (.istore_n 1, 1) := by decide +kernel
theorem d_R_bestWidth_28 : decode prog_12_method_56_code 28 = .ok (.aload_n 0, 1) := by decide +kernel
theorem d_R_bestWidth_29 : decode prog_12_method_56_code 29 = .ok (.getfield 28, 3) := by decide +kernel
theorem d_R_bestWidth_32 : decode prog_12_method_56_code 32 = .ok (.bipush 18, 2) := by decide +kernel
theorem d_R_bestWidth_34 : decode prog_12_method_56_code 34 = .ok (.iconst 4, 1) := by decide +kernel
theorem d_R_bestWidth_35 : decode prog_12_method_56_code 35 = .ok (.iastore, 1) := by decide +kernel
theorem d_R_bestWidth_36 : decode prog_12_method_56_code 36 = .ok (.aload_n 0, 1) := by decide +kernel
theorem d_R_bestWidth_37 : decode prog_12_method_56_code 37 = .ok (.aload_n 0, 1) := by decide +kernel
theorem d_R_bestWidth_38 : decode prog_12_method_56_code 38 = .ok (.getfield 28, 3) := by decide +kernel
theorem d_R_bestWidth_41 : decode prog_12_method_56_code 41 = .ok (.invokevirtual 306, 3) := by decide +kernel
theorem d_R_bestWidth_44 : decode prog_12_method_56_code 44 = .ok (.iload_n 1, 1) := by decide +kernel
theorem d_R_bestWidth_45 : decode prog_12_method_56_code 45 = .ok (.if_icmp .ge 7, 3) := by decide +kernel
theorem d_R_bestWidth_48 : decode prog_12_method_56_code 48 = .ok (.iconst 4, 1) := by decide +kernel
theorem d_R_bestWidth_49 : decode prog_12_method_56_code 49 = .ok (.goto 4, 3) := by decide +kernel
theorem d_R_bestWidth_52 : decode prog_12_method_56_code 52 = .ok (.iconst 2, 1) := by decide +kernel
theorem d_R_bestWidth_53 : decode prog_12_method_56_code 53 = .ok (.ireturn, 1) := by decide +kernel
def B_R_bestWidth (_ : Nat × Nat) : PS :=
  (sSq (sX (xS 2 X_R_copy (aC .ref (eFR 10 7 (eR 0)) (aC .ref (eFR 10 8 (eR 0)) aN))))
    (sSq (sAI (eFR 10 8 (eR 0)) (eV (18 : Int32)) (eV (2 : Int32)))
    (sSq (sI 1 (eX .int (xV 10 1 X_R_packedCost (eR 0) (aC .ref (eFR 10 8 (eR 0)) aN))))
    (sSq (sAI (eFR 10 8 (eR 0)) (eV (18 : Int32)) (eV (4 : Int32)))
    (sRt .int (eIf (e2 (fun x y : Int32 => decide (x < y)) (eX .int (xV 10 1 X_R_packedCost (eR 0) (aC .ref (eFR 10 8 (eR 0)) aN))) (eI 1)) (eV (4 : Int32)) (eV (2 : Int32))))))))
def X_R_bestWidth : PM := fun vs h Q => (lx vs).length ≤ 2 ∧ B_R_bestWidth (h.length + 0, hsz h + 0) (fun _ _ => False) (fun _ _ => False) (fun _ _ => False) Q (lini 2 vs) h
theorem v_R_bestWidth (l : Launch) : Ctr l y_R_bestWidth prog_12_method_56_code 2 (some .int) rm_R_bestWidth X_R_bestWidth := by
  refine Ctr_of (own := "PackLanesModel") (B := B_R_bestWidth) (KR := fun _ Q => Q) (by decide) rfl (fun _ _ _ z => z) (fun _ _ _ _ z => ⟨Or.inl ⟨rfl, rfl⟩, z⟩) (Or.inr (Or.inl rfl)) (fun κ hl ho hR hrt hn0 => ?_)
  subst hl
  unfold B_R_bestWidth
  exact (S_sq (pc1 := 11) (S_X (O_S k_R_302 (v_R_copy _) ⟨rfl, rfl⟩ ho (rk hR rfl) (by decide) (pc2 := 8) (A_c catR (pc1 := 4) (E_fR f_R_25 ho (pc1 := 1) (E_aln d_R_bestWidth_0 rfl) d_R_bestWidth_1) (A_c catR (pc1 := 8) (E_fR f_R_28 ho (pc1 := 5) (E_aln d_R_bestWidth_4 rfl) d_R_bestWidth_5) A_n)) d_R_bestWidth_8))
    (S_sq (pc1 := 19) (S_AI (pc1 := 15) (pc2 := 17) (pc3 := 18) (E_fR f_R_28 ho (pc1 := 12) (E_aln d_R_bestWidth_11 rfl) d_R_bestWidth_12) (E_bi d_R_bestWidth_15 rfl) (E_ic d_R_bestWidth_17 rfl) d_R_bestWidth_18)
    (S_sq (pc1 := 28) (S_In (pc1 := 27) (E_x (O_V k_R_306 (v_R_packedCost _) ⟨rfl, rfl⟩ ho (rk hR rfl) (by decide) (T := KT10) (N := 50) rfl (by decide) (pc1 := 20) (pc2 := 24) (E_aln d_R_bestWidth_19 rfl) (A_c catR (pc1 := 24) (E_fR f_R_28 ho (pc1 := 21) (E_aln d_R_bestWidth_20 rfl) d_R_bestWidth_21) A_n) d_R_bestWidth_24)) d_R_bestWidth_27 rfl)
    (S_sq (pc1 := 36) (S_AI (pc1 := 32) (pc2 := 34) (pc3 := 35) (E_fR f_R_28 ho (pc1 := 29) (E_aln d_R_bestWidth_28 rfl) d_R_bestWidth_29) (E_bi d_R_bestWidth_32 rfl) (E_ic d_R_bestWidth_34 rfl) d_R_bestWidth_35)
    (S_ri hrt (pc1 := 53) (E_if (pT := 48) (pF := 52) (pc1 := 49) (pc2 := 53) (J2_lt (pF := 52) (pc1 := 44) (pc2 := 45) (E_x (O_V k_R_306 (v_R_packedCost _) ⟨rfl, rfl⟩ ho (rk hR rfl) (by decide) (T := KT10) (N := 50) rfl (by decide) (pc1 := 37) (pc2 := 41) (E_aln d_R_bestWidth_36 rfl) (A_c catR (pc1 := 41) (E_fR f_R_28 ho (pc1 := 38) (E_aln d_R_bestWidth_37 rfl) d_R_bestWidth_38) A_n) d_R_bestWidth_41)) (E_iln d_R_bestWidth_44 rfl) d_R_bestWidth_45 rfl) (E_ic d_R_bestWidth_48 rfl) d_R_bestWidth_49 rfl (E_ic d_R_bestWidth_52 rfl)) d_R_bestWidth_53)))))
theorem d_R_packed_0 : decode prog_12_method_57_code 0 = .ok (.iconst 0, 1) := by decide +kernel
theorem d_R_packed_1 : decode prog_12_method_57_code 1 = .ok (.istore_n 1, 1) := by decide +kernel
theorem d_R_packed_2 : decode prog_12_method_57_code 2 = .ok (.iconst 0, 1) := by decide +kernel
theorem d_R_packed_3 : decode prog_12_method_57_code 3 = .ok (.istore_n 2, 1) := by decide +kernel
theorem d_R_packed_4 : decode prog_12_method_57_code 4 = .ok (.iload_n 2, 1) := by decide +kernel
theorem d_R_packed_5 : decode prog_12_method_57_code 5 = .ok (.aload_n 0, 1) := by decide +kernel
theorem d_R_packed_6 : decode prog_12_method_57_code 6 = .ok (.getfield 99, 3) := by decide +kernel
theorem d_R_packed_9 : decode prog_12_method_57_code 9 = .ok (.if_icmp .ge 30, 3) := by decide +kernel
theorem d_R_packed_12 : decode prog_12_method_57_code 12 = .ok (.iload_n 1, 1) := by decide +kernel
theorem d_R_packed_13 : decode prog_12_method_57_code 13 = .ok (.aload_n 0, 1) := by decide +kernel
theorem d_R_packed_14 : decode prog_12_method_57_code 14 = .ok (.getfield 53, 3) := by decide +kernel
theorem d_R_packed_17 : decode prog_12_method_57_code 17 = .ok (.iload_n 2, 1) := by decide +kernel
theorem d_R_packed_18 : decode prog_12_method_57_code 18 = .ok (.iaload, 1) := by decide +kernel
theorem d_R_packed_19 : decode prog_12_method_57_code 19 = .ok (.bipush (-9), 2) := by decide +kernel
theorem d_R_packed_21 : decode prog_12_method_57_code 21 = .ok (.if_icmp .eq 9, 3) := by decide +kernel
theorem d_R_packed_24 : decode prog_12_method_57_code 24 = .ok (.iconst 1, 1) := by decide +kernel
theorem d_R_packed_25 : decode prog_12_method_57_code 25 = .ok (.iload_n 2, 1) := by decide +kernel
theorem d_R_packed_26 : decode prog_12_method_57_code 26 = .ok (.ishl, 1) := by decide +kernel
theorem d_R_packed_27 : decode prog_12_method_57_code 27 = .ok (.goto 4, 3) := by decide +kernel
theorem d_R_packed_30 : decode prog_12_method_57_code 30 = .ok (.iconst 0, 1) := by decide +kernel
theorem d_R_packed_31 : decode prog_12_method_57_code 31 = .ok (.ior, 1) := by decide +kernel
theorem d_R_packed_32 : decode prog_12_method_57_code 32 = .ok (.istore_n 1, 1) := by decide +kernel
theorem d_R_packed_33 : decode prog_12_method_57_code 33 = .ok (.iinc 2 1, 3) := by decide +kernel
theorem d_R_packed_36 : decode prog_12_method_57_code 36 = .ok (.goto (-32), 3) := by decide +kernel
theorem d_R_packed_39 : decode prog_12_method_57_code 39 = .ok (.iload_n 1, 1) := by decide +kernel
theorem d_R_packed_40 : decode prog_12_method_57_code 40 = .ok (.ireturn, 1) := by decide +kernel
def B_R_packed (_ : Nat × Nat) : PS :=
  (sSq (sI 1 (eV (0 : Int32)))
    (sSq (sCut 2 (sSq (sI 2 (eV (0 : Int32)))
    (sLp 3 (e2 (fun x y : Int32 => decide (x < y)) (eI 2) (eFI 10 2 (eR 0)))
    (sI 1 (e2 (fun x y : Int32 => x ||| y) (eI 1) (eIf (e2 (fun x y : Int32 => decide (¬ x = y)) (eAI (eFR 10 22 (eR 0)) (eI 2)) (eV (-9 : Int32))) (e2 (fun x y : Int32 => x <<< (y &&& 31)) (eV (1 : Int32)) (eI 2)) (eV (0 : Int32)))))
    (sInc 2 (1)))))
    (sRt .int (eI 1))))
def X_R_packed : PM := fun vs h Q => (lx vs).length ≤ 3 ∧ B_R_packed (h.length + 0, hsz h + 0) (fun _ _ => False) (fun _ _ => False) (fun _ _ => False) Q (lini 3 vs) h
theorem v_R_packed (l : Launch) : Ctr l y_R_packed prog_12_method_57_code 3 (some .int) rm_R_packed X_R_packed := by
  refine Ctr_of (own := "PackLanesModel") (B := B_R_packed) (KR := fun _ Q => Q) (by decide) rfl (fun _ _ _ z => z) (fun _ _ _ _ z => ⟨Or.inl ⟨rfl, rfl⟩, z⟩) (Or.inr (Or.inl rfl)) (fun κ hl ho hR hrt hn0 => ?_)
  subst hl
  unfold B_R_packed
  exact (S_sq (pc1 := 2) (S_In (pc1 := 1) (E_ic d_R_packed_0 rfl) d_R_packed_1 rfl)
    (S_sq (pc1 := 39) (S_cut (S_sq (pc1 := 4) (S_In (pc1 := 3) (E_ic d_R_packed_2 rfl) d_R_packed_3 rfl)
    (S_lp (pT := 12) (pF := 39) (pS := 33) (pG := 36) (J2_lt (pF := 39) (pc1 := 5) (pc2 := 9) (E_iln d_R_packed_4 rfl) (E_fI f_R_99 ho (pc1 := 6) (E_aln d_R_packed_5 rfl) d_R_packed_6) d_R_packed_9 rfl)
    (S_In (pc1 := 32) (E_ior (pc1 := 13) (pc2 := 31) (E_iln d_R_packed_12 rfl) (E_if (pT := 24) (pF := 30) (pc1 := 27) (pc2 := 31) (J2_ne (pF := 30) (pc1 := 19) (pc2 := 21) (E_aI (pc1 := 17) (pc2 := 18) (E_fR f_R_53 ho (pc1 := 14) (E_aln d_R_packed_13 rfl) d_R_packed_14) (E_iln d_R_packed_17 rfl) d_R_packed_18) (E_bi d_R_packed_19 rfl) d_R_packed_21 rfl) (E_ishl (pc1 := 25) (pc2 := 26) (E_ic d_R_packed_24 rfl) (E_iln d_R_packed_25 rfl) d_R_packed_26) d_R_packed_27 rfl (E_ic d_R_packed_30 rfl)) d_R_packed_31) d_R_packed_32 rfl)
    (S_Inc d_R_packed_33 rfl) d_R_packed_36 rfl)))
    (S_ri hrt (pc1 := 40) (E_iln d_R_packed_39 rfl) d_R_packed_40)))
theorem d_R_found_0 : decode prog_12_method_58_code 0 = .ok (.aload_n 0, 1) := by decide +kernel
theorem d_R_found_1 : decode prog_12_method_58_code 1 = .ok (.aload_n 0, 1) := by decide +kernel
theorem d_R_found_2 : decode prog_12_method_58_code 2 = .ok (.getfield 25, 3) := by decide +kernel
theorem d_R_found_5 : decode prog_12_method_58_code 5 = .ok (.iconst 0, 1) := by decide +kernel
theorem d_R_found_6 : decode prog_12_method_58_code 6 = .ok (.invokevirtual 287, 3) := by decide +kernel
theorem d_R_found_9 : decode prog_12_method_58_code 9 = .ok (.iload_n 1, 1) := by decide +kernel
theorem d_R_found_10 : decode prog_12_method_58_code 10 = .ok (.tableswitch 46 5 7 #[26, 36, 41], 26) := by decide +kernel
theorem d_R_found_36 : decode prog_12_method_58_code 36 = .ok (.aload_n 0, 1) := by decide +kernel
theorem d_R_found_37 : decode prog_12_method_58_code 37 = .ok (.invokevirtual 290, 3) := by decide +kernel
theorem d_R_found_40 : decode prog_12_method_58_code 40 = .ok (.aload_n 0, 1) := by decide +kernel
theorem d_R_found_41 : decode prog_12_method_58_code 41 = .ok (.getfield 259, 3) := by decide +kernel
theorem d_R_found_44 : decode prog_12_method_58_code 44 = .ok (.isub, 1) := by decide +kernel
theorem d_R_found_45 : decode prog_12_method_58_code 45 = .ok (.ireturn, 1) := by decide +kernel
theorem d_R_found_46 : decode prog_12_method_58_code 46 = .ok (.aload_n 0, 1) := by decide +kernel
theorem d_R_found_47 : decode prog_12_method_58_code 47 = .ok (.getfield 253, 3) := by decide +kernel
theorem d_R_found_50 : decode prog_12_method_58_code 50 = .ok (.ireturn, 1) := by decide +kernel
theorem d_R_found_51 : decode prog_12_method_58_code 51 = .ok (.aload_n 0, 1) := by decide +kernel
theorem d_R_found_52 : decode prog_12_method_58_code 52 = .ok (.invokevirtual 310, 3) := by decide +kernel
theorem d_R_found_55 : decode prog_12_method_58_code 55 = .ok (.ireturn, 1) := by decide +kernel
theorem d_R_found_56 : decode prog_12_method_58_code 56 = .ok (.aload_n 0, 1) := by decide +kernel
theorem d_R_found_57 : decode prog_12_method_58_code 57 = .ok (.getfield 256, 3) := by decide +kernel
theorem d_R_found_60 : decode prog_12_method_58_code 60 = .ok (.ireturn, 1) := by decide +kernel
def B_R_found (_ : Nat × Nat) : PS :=
  (sSq (sX (xV 10 2 X_R_pack (eR 0) (aC .ref (eFR 10 7 (eR 0)) (aC .int (eV (0 : Int32)) aN))))
    (sSw 2 (eI 1) [(5, 0), (6, 1), (7, 2)] 3 [(sRt .int (e2 (fun x y : Int32 => x - y) (eX .int (xV 10 0 X_R_costNow (eR 0) aN)) (eFI 10 26 (eR 0)))),
    (sRt .int (eFI 10 24 (eR 0))),
    (sRt .int (eX .int (xV 10 0 X_R_packed (eR 0) aN))),
    (sRt .int (eFI 10 25 (eR 0)))]))
def X_R_found : PM := fun vs h Q => (lx vs).length ≤ 2 ∧ B_R_found (h.length + 0, hsz h + 0) (fun _ _ => False) (fun _ _ => False) (fun _ _ => False) Q (lini 2 vs) h
theorem v_R_found (l : Launch) : Ctr l y_R_found prog_12_method_58_code 2 (some .int) rm_R_found X_R_found := by
  refine Ctr_of (own := "PackLanesModel") (B := B_R_found) (KR := fun _ Q => Q) (by decide) rfl (fun _ _ _ z => z) (fun _ _ _ _ z => ⟨Or.inl ⟨rfl, rfl⟩, z⟩) (Or.inr (Or.inl rfl)) (fun κ hl ho hR hrt hn0 => ?_)
  subst hl
  unfold B_R_found
  exact (S_sq (pc1 := 9) (S_X (O_V k_R_287 (v_R_pack _) ⟨rfl, rfl⟩ ho (rk hR rfl) (by decide) (T := KT10) (N := 50) rfl (by decide) (pc1 := 1) (pc2 := 6) (E_aln d_R_found_0 rfl) (A_c catR (pc1 := 5) (E_fR f_R_25 ho (pc1 := 2) (E_aln d_R_found_1 rfl) d_R_found_2) (A_c catI (pc1 := 6) (E_ic d_R_found_5 rfl) A_n)) d_R_found_6))
    (S_sw (pcs := [36, 46, 51, 56, _]) (pc1 := 10)  (E_iln d_R_found_9 rfl) (fun _ _ _ k => r_tsw d_R_found_10 (by decide +kernel) k) (And.intro (S_ri hrt (pc1 := 45) (E_isub (pc1 := 40) (pc2 := 44) (E_x (O_V k_R_290 (v_R_costNow _) ⟨rfl, rfl⟩ ho (rk hR rfl) (by decide) (T := KT10) (N := 50) rfl (by decide) (pc1 := 37) (pc2 := 37) (E_aln d_R_found_36 rfl) A_n d_R_found_37)) (E_fI f_R_259 ho (pc1 := 41) (E_aln d_R_found_40 rfl) d_R_found_41) d_R_found_44) d_R_found_45)
    (And.intro (S_ri hrt (pc1 := 50) (E_fI f_R_253 ho (pc1 := 47) (E_aln d_R_found_46 rfl) d_R_found_47) d_R_found_50)
    (And.intro (S_ri hrt (pc1 := 55) (E_x (O_V k_R_310 (v_R_packed _) ⟨rfl, rfl⟩ ho (rk hR rfl) (by decide) (T := KT10) (N := 50) rfl (by decide) (pc1 := 52) (pc2 := 52) (E_aln d_R_found_51 rfl) A_n d_R_found_52)) d_R_found_55)
    (And.intro (S_ri hrt (pc1 := 60) (E_fI f_R_256 ho (pc1 := 57) (E_aln d_R_found_56 rfl) d_R_found_57) d_R_found_60)
    rfl)))) (by decide)))
theorem d_R_runFaults_0 : decode prog_12_method_59_code 0 = .ok (.iload_n 1, 1) := by decide +kernel
theorem d_R_runFaults_1 : decode prog_12_method_59_code 1 = .ok (.ifCond .eq 14, 3) := by decide +kernel
theorem d_R_runFaults_4 : decode prog_12_method_59_code 4 = .ok (.aload_n 0, 1) := by decide +kernel
theorem d_R_runFaults_5 : decode prog_12_method_59_code 5 = .ok (.aload_n 0, 1) := by decide +kernel
theorem d_R_runFaults_6 : decode prog_12_method_59_code 6 = .ok (.getfield 25, 3) := by decide +kernel
theorem d_R_runFaults_9 : decode prog_12_method_59_code 9 = .ok (.invokevirtual 313, 3) := by decide +kernel
theorem d_R_runFaults_12 : decode prog_12_method_59_code 12 = .ok (.goto 13, 3) := by decide +kernel
theorem d_R_runFaults_15 : decode prog_12_method_59_code 15 = .ok (.aload_n 0, 1) := by decide +kernel
theorem d_R_runFaults_16 : decode prog_12_method_59_code 16 = .ok (.aload_n 0, 1) := by decide +kernel
theorem d_R_runFaults_17 : decode prog_12_method_59_code 17 = .ok (.getfield 25, 3) := by decide +kernel
theorem d_R_runFaults_20 : decode prog_12_method_59_code 20 = .ok (.bipush (-9), 2) := by decide +kernel
theorem d_R_runFaults_22 : decode prog_12_method_59_code 22 = .ok (.invokevirtual 316, 3) := by decide +kernel
theorem d_R_runFaults_25 : decode prog_12_method_59_code 25 = .ok (.aload_n 0, 1) := by decide +kernel
theorem d_R_runFaults_26 : decode prog_12_method_59_code 26 = .ok (.getfield 293, 3) := by decide +kernel
theorem d_R_runFaults_29 : decode prog_12_method_59_code 29 = .ok (.ireturn, 1) := by decide +kernel
def B_R_runFaults (_ : Nat × Nat) : PS :=
  (sSq (sIf (e1 (fun x : Int32 => decide (¬ x = 0)) (eI 1)) (sX (xV 10 1 X_R_packedRun (eR 0) (aC .ref (eFR 10 7 (eR 0)) aN))) (sX (xV 10 2 X_R_run (eR 0) (aC .ref (eFR 10 7 (eR 0)) (aC .int (eV (-9 : Int32)) aN)))))
    (sRt .int (eFI 10 37 (eR 0))))
def X_R_runFaults : PM := fun vs h Q => (lx vs).length ≤ 2 ∧ B_R_runFaults (h.length + 0, hsz h + 0) (fun _ _ => False) (fun _ _ => False) (fun _ _ => False) Q (lini 2 vs) h
theorem v_R_runFaults (l : Launch) : Ctr l y_R_runFaults prog_12_method_59_code 2 (some .int) rm_R_runFaults X_R_runFaults := by
  refine Ctr_of (own := "PackLanesModel") (B := B_R_runFaults) (KR := fun _ Q => Q) (by decide) rfl (fun _ _ _ z => z) (fun _ _ _ _ z => ⟨Or.inl ⟨rfl, rfl⟩, z⟩) (Or.inr (Or.inl rfl)) (fun κ hl ho hR hrt hn0 => ?_)
  subst hl
  unfold B_R_runFaults
  exact (S_sq (pc1 := 25) (S_if2 (pT := 4) (pF := 15) (pN := 25) (J1_ne (pF := 15) (pc2 := 1) (E_iln d_R_runFaults_0 rfl) d_R_runFaults_1 rfl) (S_go (pc1 := 12) (S_X (O_V k_R_313 (v_R_packedRun _) ⟨rfl, rfl⟩ ho (rk hR rfl) (by decide) (T := KT10) (N := 50) rfl (by decide) (pc1 := 5) (pc2 := 9) (E_aln d_R_runFaults_4 rfl) (A_c catR (pc1 := 9) (E_fR f_R_25 ho (pc1 := 6) (E_aln d_R_runFaults_5 rfl) d_R_runFaults_6) A_n) d_R_runFaults_9)) d_R_runFaults_12 rfl) (S_X (O_V k_R_316 (v_R_run _) ⟨rfl, rfl⟩ ho (rk hR rfl) (by decide) (T := KT10) (N := 50) rfl (by decide) (pc1 := 16) (pc2 := 22) (E_aln d_R_runFaults_15 rfl) (A_c catR (pc1 := 20) (E_fR f_R_25 ho (pc1 := 17) (E_aln d_R_runFaults_16 rfl) d_R_runFaults_17) (A_c catI (pc1 := 22) (E_bi d_R_runFaults_20 rfl) A_n)) d_R_runFaults_22)))
    (S_ri hrt (pc1 := 29) (E_fI f_R_293 ho (pc1 := 26) (E_aln d_R_runFaults_25 rfl) d_R_runFaults_26) d_R_runFaults_29))
theorem d_R_about_0 : decode prog_12_method_60_code 0 = .ok (.iload_n 1, 1) := by decide +kernel
theorem d_R_about_1 : decode prog_12_method_60_code 1 = .ok (.tableswitch 141 0 14 #[75, 80, 88, 96, 104, 141, 141, 141, 141, 109, 115, 121, 126, 131, 136], 75) := by decide +kernel
theorem d_R_about_76 : decode prog_12_method_60_code 76 = .ok (.aload_n 0, 1) := by decide +kernel
theorem d_R_about_77 : decode prog_12_method_60_code 77 = .ok (.getfield 99, 3) := by decide +kernel
theorem d_R_about_80 : decode prog_12_method_60_code 80 = .ok (.ireturn, 1) := by decide +kernel
theorem d_R_about_81 : decode prog_12_method_60_code 81 = .ok (.aload_n 0, 1) := by decide +kernel
theorem d_R_about_82 : decode prog_12_method_60_code 82 = .ok (.getfield 25, 3) := by decide +kernel
theorem d_R_about_85 : decode prog_12_method_60_code 85 = .ok (.bipush 16, 2) := by decide +kernel
theorem d_R_about_87 : decode prog_12_method_60_code 87 = .ok (.iaload, 1) := by decide +kernel
theorem d_R_about_88 : decode prog_12_method_60_code 88 = .ok (.ireturn, 1) := by decide +kernel
theorem d_R_about_89 : decode prog_12_method_60_code 89 = .ok (.aload_n 0, 1) := by decide +kernel
theorem d_R_about_90 : decode prog_12_method_60_code 90 = .ok (.getfield 25, 3) := by decide +kernel
theorem d_R_about_93 : decode prog_12_method_60_code 93 = .ok (.bipush 17, 2) := by decide +kernel
theorem d_R_about_95 : decode prog_12_method_60_code 95 = .ok (.iaload, 1) := by decide +kernel
theorem d_R_about_96 : decode prog_12_method_60_code 96 = .ok (.ireturn, 1) := by decide +kernel
theorem d_R_about_97 : decode prog_12_method_60_code 97 = .ok (.aload_n 0, 1) := by decide +kernel
theorem d_R_about_98 : decode prog_12_method_60_code 98 = .ok (.getfield 25, 3) := by decide +kernel
theorem d_R_about_101 : decode prog_12_method_60_code 101 = .ok (.bipush 18, 2) := by decide +kernel
theorem d_R_about_103 : decode prog_12_method_60_code 103 = .ok (.iaload, 1) := by decide +kernel
theorem d_R_about_104 : decode prog_12_method_60_code 104 = .ok (.ireturn, 1) := by decide +kernel
theorem d_R_about_105 : decode prog_12_method_60_code 105 = .ok (.aload_n 0, 1) := by decide +kernel
theorem d_R_about_106 : decode prog_12_method_60_code 106 = .ok (.invokevirtual 290, 3) := by decide +kernel
theorem d_R_about_109 : decode prog_12_method_60_code 109 = .ok (.ireturn, 1) := by decide +kernel
theorem d_R_about_110 : decode prog_12_method_60_code 110 = .ok (.aload_n 0, 1) := by decide +kernel
theorem d_R_about_111 : decode prog_12_method_60_code 111 = .ok (.iconst 0, 1) := by decide +kernel
theorem d_R_about_112 : decode prog_12_method_60_code 112 = .ok (.invokevirtual 319, 3) := by decide +kernel
theorem d_R_about_115 : decode prog_12_method_60_code 115 = .ok (.ireturn, 1) := by decide +kernel
theorem d_R_about_116 : decode prog_12_method_60_code 116 = .ok (.aload_n 0, 1) := by decide +kernel
theorem d_R_about_117 : decode prog_12_method_60_code 117 = .ok (.iconst 1, 1) := by decide +kernel
theorem d_R_about_118 : decode prog_12_method_60_code 118 = .ok (.invokevirtual 319, 3) := by decide +kernel
theorem d_R_about_121 : decode prog_12_method_60_code 121 = .ok (.ireturn, 1) := by decide +kernel
theorem d_R_about_122 : decode prog_12_method_60_code 122 = .ok (.aload_n 0, 1) := by decide +kernel
theorem d_R_about_123 : decode prog_12_method_60_code 123 = .ok (.invokevirtual 323, 3) := by decide +kernel
theorem d_R_about_126 : decode prog_12_method_60_code 126 = .ok (.ireturn, 1) := by decide +kernel
theorem d_R_about_127 : decode prog_12_method_60_code 127 = .ok (.aload_n 0, 1) := by decide +kernel
theorem d_R_about_128 : decode prog_12_method_60_code 128 = .ok (.getfield 173, 3) := by decide +kernel
theorem d_R_about_131 : decode prog_12_method_60_code 131 = .ok (.ireturn, 1) := by decide +kernel
theorem d_R_about_132 : decode prog_12_method_60_code 132 = .ok (.aload_n 0, 1) := by decide +kernel
theorem d_R_about_133 : decode prog_12_method_60_code 133 = .ok (.getfield 326, 3) := by decide +kernel
theorem d_R_about_136 : decode prog_12_method_60_code 136 = .ok (.ireturn, 1) := by decide +kernel
theorem d_R_about_137 : decode prog_12_method_60_code 137 = .ok (.aload_n 0, 1) := by decide +kernel
theorem d_R_about_138 : decode prog_12_method_60_code 138 = .ok (.getfield 111, 3) := by decide +kernel
theorem d_R_about_141 : decode prog_12_method_60_code 141 = .ok (.ireturn, 1) := by decide +kernel
theorem d_R_about_142 : decode prog_12_method_60_code 142 = .ok (.iload_n 1, 1) := by decide +kernel
theorem d_R_about_143 : decode prog_12_method_60_code 143 = .ok (.i2l, 1) := by decide +kernel
theorem d_R_about_144 : decode prog_12_method_60_code 144 = .ok (.ldc2_w 178, 3) := by decide +kernel
theorem d_R_about_147 : decode prog_12_method_60_code 147 = .ok (.ldc2_w 123, 3) := by decide +kernel
theorem d_R_about_150 : decode prog_12_method_60_code 150 = .ok (.invokestatic 103, 3) := by decide +kernel
theorem d_R_about_153 : decode prog_12_method_60_code 153 = .ok (.ifCond .eq 11, 3) := by decide +kernel
theorem d_R_about_156 : decode prog_12_method_60_code 156 = .ok (.aload_n 0, 1) := by decide +kernel
theorem d_R_about_157 : decode prog_12_method_60_code 157 = .ok (.iload_n 1, 1) := by decide +kernel
theorem d_R_about_158 : decode prog_12_method_60_code 158 = .ok (.invokevirtual 329, 3) := by decide +kernel
theorem d_R_about_161 : decode prog_12_method_60_code 161 = .ok (.goto 5, 3) := by decide +kernel
theorem d_R_about_164 : decode prog_12_method_60_code 164 = .ok (.bipush (-2), 2) := by decide +kernel
theorem d_R_about_166 : decode prog_12_method_60_code 166 = .ok (.ireturn, 1) := by decide +kernel
def B_R_about (_ : Nat × Nat) : PS :=
  (sSw 2 (eI 1) [(0, 0), (1, 1), (2, 2), (3, 3), (4, 4), (9, 5), (10, 6), (11, 7), (12, 8), (13, 9), (14, 10)] 11 [(sRt .int (eFI 10 2 (eR 0))),
    (sRt .int (eAI (eFR 10 7 (eR 0)) (eV (16 : Int32)))),
    (sRt .int (eAI (eFR 10 7 (eR 0)) (eV (17 : Int32)))),
    (sRt .int (eAI (eFR 10 7 (eR 0)) (eV (18 : Int32)))),
    (sRt .int (eX .int (xV 10 0 X_R_costNow (eR 0) aN))),
    (sRt .int (eX .int (xV 10 1 X_R_runFaults (eR 0) (aC .int (eV (0 : Int32)) aN)))),
    (sRt .int (eX .int (xV 10 1 X_R_runFaults (eR 0) (aC .int (eV (1 : Int32)) aN)))),
    (sRt .int (eX .int (xV 10 0 X_R_bestWidth (eR 0) aN))),
    (sRt .int (eFI 10 10 (eR 0))),
    (sRt .int (eFI 10 16 (eR 0))),
    (sRt .int (eFI 10 1 (eR 0))),
    (sRt .int (eIf (e1 (fun x : Int32 => decide (¬ x = 0)) (eX .int (xS 3 X_R_in (aC .long (e1 (fun x : Int32 => x.toInt64) (eI 1)) (aC .long (eV (5 : Int64)) (aC .long (eV (8 : Int64)) aN)))))) (eX .int (xV 10 1 X_R_found (eR 0) (aC .int (eI 1) aN))) (eV (-2 : Int32))))])
def X_R_about : PM := fun vs h Q => (lx vs).length ≤ 2 ∧ B_R_about (h.length + 0, hsz h + 0) (fun _ _ => False) (fun _ _ => False) (fun _ _ => False) Q (lini 2 vs) h
theorem v_R_about (l : Launch) : Ctr l y_R_about prog_12_method_60_code 2 (some .int) rm_R_about X_R_about := by
  refine Ctr_of (own := "PackLanesModel") (B := B_R_about) (KR := fun _ Q => Q) (by decide) rfl (fun _ _ _ z => z) (fun _ _ _ _ z => ⟨Or.inl ⟨rfl, rfl⟩, z⟩) (Or.inr (Or.inl rfl)) (fun κ hl ho hR hrt hn0 => ?_)
  subst hl
  unfold B_R_about
  exact (S_sw (pcs := [76, 81, 89, 97, 105, 110, 116, 122, 127, 132, 137, 142, _]) (pc1 := 1)  (E_iln d_R_about_0 rfl) (fun _ _ _ k => r_tsw d_R_about_1 (by decide +kernel) k) (And.intro (S_ri hrt (pc1 := 80) (E_fI f_R_99 ho (pc1 := 77) (E_aln d_R_about_76 rfl) d_R_about_77) d_R_about_80)
    (And.intro (S_ri hrt (pc1 := 88) (E_aI (pc1 := 85) (pc2 := 87) (E_fR f_R_25 ho (pc1 := 82) (E_aln d_R_about_81 rfl) d_R_about_82) (E_bi d_R_about_85 rfl) d_R_about_87) d_R_about_88)
    (And.intro (S_ri hrt (pc1 := 96) (E_aI (pc1 := 93) (pc2 := 95) (E_fR f_R_25 ho (pc1 := 90) (E_aln d_R_about_89 rfl) d_R_about_90) (E_bi d_R_about_93 rfl) d_R_about_95) d_R_about_96)
    (And.intro (S_ri hrt (pc1 := 104) (E_aI (pc1 := 101) (pc2 := 103) (E_fR f_R_25 ho (pc1 := 98) (E_aln d_R_about_97 rfl) d_R_about_98) (E_bi d_R_about_101 rfl) d_R_about_103) d_R_about_104)
    (And.intro (S_ri hrt (pc1 := 109) (E_x (O_V k_R_290 (v_R_costNow _) ⟨rfl, rfl⟩ ho (rk hR rfl) (by decide) (T := KT10) (N := 50) rfl (by decide) (pc1 := 106) (pc2 := 106) (E_aln d_R_about_105 rfl) A_n d_R_about_106)) d_R_about_109)
    (And.intro (S_ri hrt (pc1 := 115) (E_x (O_V k_R_319 (v_R_runFaults _) ⟨rfl, rfl⟩ ho (rk hR rfl) (by decide) (T := KT10) (N := 50) rfl (by decide) (pc1 := 111) (pc2 := 112) (E_aln d_R_about_110 rfl) (A_c catI (pc1 := 112) (E_ic d_R_about_111 rfl) A_n) d_R_about_112)) d_R_about_115)
    (And.intro (S_ri hrt (pc1 := 121) (E_x (O_V k_R_319 (v_R_runFaults _) ⟨rfl, rfl⟩ ho (rk hR rfl) (by decide) (T := KT10) (N := 50) rfl (by decide) (pc1 := 117) (pc2 := 118) (E_aln d_R_about_116 rfl) (A_c catI (pc1 := 118) (E_ic d_R_about_117 rfl) A_n) d_R_about_118)) d_R_about_121)
    (And.intro (S_ri hrt (pc1 := 126) (E_x (O_V k_R_323 (v_R_bestWidth _) ⟨rfl, rfl⟩ ho (rk hR rfl) (by decide) (T := KT10) (N := 50) rfl (by decide) (pc1 := 123) (pc2 := 123) (E_aln d_R_about_122 rfl) A_n d_R_about_123)) d_R_about_126)
    (And.intro (S_ri hrt (pc1 := 131) (E_fI f_R_173 ho (pc1 := 128) (E_aln d_R_about_127 rfl) d_R_about_128) d_R_about_131)
    (And.intro (S_ri hrt (pc1 := 136) (E_fI f_R_326 ho (pc1 := 133) (E_aln d_R_about_132 rfl) d_R_about_133) d_R_about_136)
    (And.intro (S_ri hrt (pc1 := 141) (E_fI f_R_111 ho (pc1 := 138) (E_aln d_R_about_137 rfl) d_R_about_138) d_R_about_141)
    (And.intro (S_ri hrt (pc1 := 166) (E_if (pT := 156) (pF := 164) (pc1 := 161) (pc2 := 166) (J1_ne (pF := 164) (pc2 := 153) (E_x (O_S k_R_103 (v_R_in _) ⟨rfl, rfl⟩ ho (rk hR rfl) (by decide) (pc2 := 150) (A_c catL (pc1 := 144) (E_i2l (pc1 := 143) (E_iln d_R_about_142 rfl) d_R_about_143) (A_c catL (pc1 := 147) (E_ldc2 ho w_cl_R_178 d_R_about_144) (A_c catL (pc1 := 150) (E_ldc2 ho w_cl_R_123 d_R_about_147) A_n))) d_R_about_150)) d_R_about_153 rfl) (E_x (O_V k_R_329 (v_R_found _) ⟨rfl, rfl⟩ ho (rk hR rfl) (by decide) (T := KT10) (N := 50) rfl (by decide) (pc1 := 157) (pc2 := 158) (E_aln d_R_about_156 rfl) (A_c catI (pc1 := 158) (E_iln d_R_about_157 rfl) A_n) d_R_about_158)) d_R_about_161 rfl (E_bi d_R_about_164 rfl)) d_R_about_166)
    rfl)))))))))))) (by decide))
theorem d_R_instruction_0 : decode prog_12_method_61_code 0 = .ok (.aload_n 0, 1) := by decide +kernel
theorem d_R_instruction_1 : decode prog_12_method_61_code 1 = .ok (.iload_n 1, 1) := by decide +kernel
theorem d_R_instruction_2 : decode prog_12_method_61_code 2 = .ok (.invokevirtual 332, 3) := by decide +kernel
theorem d_R_instruction_5 : decode prog_12_method_61_code 5 = .ok (.ifCond .ne 5, 3) := by decide +kernel
theorem d_R_instruction_8 : decode prog_12_method_61_code 8 = .ok (.iconst (-1), 1) := by decide +kernel
theorem d_R_instruction_9 : decode prog_12_method_61_code 9 = .ok (.ireturn, 1) := by decide +kernel
theorem d_R_instruction_10 : decode prog_12_method_61_code 10 = .ok (.aload_n 0, 1) := by decide +kernel
theorem d_R_instruction_11 : decode prog_12_method_61_code 11 = .ok (.aload_n 0, 1) := by decide +kernel
theorem d_R_instruction_12 : decode prog_12_method_61_code 12 = .ok (.getfield 25, 3) := by decide +kernel
theorem d_R_instruction_15 : decode prog_12_method_61_code 15 = .ok (.iconst 0, 1) := by decide +kernel
theorem d_R_instruction_16 : decode prog_12_method_61_code 16 = .ok (.invokevirtual 287, 3) := by decide +kernel
theorem d_R_instruction_19 : decode prog_12_method_61_code 19 = .ok (.iload_n 2, 1) := by decide +kernel
theorem d_R_instruction_20 : decode prog_12_method_61_code 20 = .ok (.tableswitch 95 0 5 #[40, 47, 54, 61, 68, 78], 40) := by decide +kernel
theorem d_R_instruction_60 : decode prog_12_method_61_code 60 = .ok (.aload_n 0, 1) := by decide +kernel
theorem d_R_instruction_61 : decode prog_12_method_61_code 61 = .ok (.getfield 13, 3) := by decide +kernel
theorem d_R_instruction_64 : decode prog_12_method_61_code 64 = .ok (.iload_n 1, 1) := by decide +kernel
theorem d_R_instruction_65 : decode prog_12_method_61_code 65 = .ok (.iaload, 1) := by decide +kernel
theorem d_R_instruction_66 : decode prog_12_method_61_code 66 = .ok (.ireturn, 1) := by decide +kernel
theorem d_R_instruction_67 : decode prog_12_method_61_code 67 = .ok (.aload_n 0, 1) := by decide +kernel
theorem d_R_instruction_68 : decode prog_12_method_61_code 68 = .ok (.getfield 53, 3) := by decide +kernel
theorem d_R_instruction_71 : decode prog_12_method_61_code 71 = .ok (.iload_n 1, 1) := by decide +kernel
theorem d_R_instruction_72 : decode prog_12_method_61_code 72 = .ok (.iaload, 1) := by decide +kernel
theorem d_R_instruction_73 : decode prog_12_method_61_code 73 = .ok (.ireturn, 1) := by decide +kernel
theorem d_R_instruction_74 : decode prog_12_method_61_code 74 = .ok (.aload_n 0, 1) := by decide +kernel
theorem d_R_instruction_75 : decode prog_12_method_61_code 75 = .ok (.getfield 56, 3) := by decide +kernel
theorem d_R_instruction_78 : decode prog_12_method_61_code 78 = .ok (.iload_n 1, 1) := by decide +kernel
theorem d_R_instruction_79 : decode prog_12_method_61_code 79 = .ok (.iaload, 1) := by decide +kernel
theorem d_R_instruction_80 : decode prog_12_method_61_code 80 = .ok (.ireturn, 1) := by decide +kernel
theorem d_R_instruction_81 : decode prog_12_method_61_code 81 = .ok (.aload_n 0, 1) := by decide +kernel
theorem d_R_instruction_82 : decode prog_12_method_61_code 82 = .ok (.getfield 68, 3) := by decide +kernel
theorem d_R_instruction_85 : decode prog_12_method_61_code 85 = .ok (.iload_n 1, 1) := by decide +kernel
theorem d_R_instruction_86 : decode prog_12_method_61_code 86 = .ok (.iaload, 1) := by decide +kernel
theorem d_R_instruction_87 : decode prog_12_method_61_code 87 = .ok (.ireturn, 1) := by decide +kernel
theorem d_R_instruction_88 : decode prog_12_method_61_code 88 = .ok (.aload_n 0, 1) := by decide +kernel
theorem d_R_instruction_89 : decode prog_12_method_61_code 89 = .ok (.getfield 50, 3) := by decide +kernel
theorem d_R_instruction_92 : decode prog_12_method_61_code 92 = .ok (.iload_n 1, 1) := by decide +kernel
theorem d_R_instruction_93 : decode prog_12_method_61_code 93 = .ok (.iaload, 1) := by decide +kernel
theorem d_R_instruction_94 : decode prog_12_method_61_code 94 = .ok (.invokestatic 335, 3) := by decide +kernel
theorem d_R_instruction_97 : decode prog_12_method_61_code 97 = .ok (.ireturn, 1) := by decide +kernel
theorem d_R_instruction_98 : decode prog_12_method_61_code 98 = .ok (.aload_n 0, 1) := by decide +kernel
theorem d_R_instruction_99 : decode prog_12_method_61_code 99 = .ok (.aload_n 0, 1) := by decide +kernel
theorem d_R_instruction_100 : decode prog_12_method_61_code 100 = .ok (.getfield 25, 3) := by decide +kernel
theorem d_R_instruction_103 : decode prog_12_method_61_code 103 = .ok (.bipush (-9), 2) := by decide +kernel
theorem d_R_instruction_105 : decode prog_12_method_61_code 105 = .ok (.invokevirtual 316, 3) := by decide +kernel
theorem d_R_instruction_108 : decode prog_12_method_61_code 108 = .ok (.aload_n 0, 1) := by decide +kernel
theorem d_R_instruction_109 : decode prog_12_method_61_code 109 = .ok (.getfield 74, 3) := by decide +kernel
theorem d_R_instruction_112 : decode prog_12_method_61_code 112 = .ok (.iload_n 1, 1) := by decide +kernel
theorem d_R_instruction_113 : decode prog_12_method_61_code 113 = .ok (.iaload, 1) := by decide +kernel
theorem d_R_instruction_114 : decode prog_12_method_61_code 114 = .ok (.ireturn, 1) := by decide +kernel
theorem d_R_instruction_115 : decode prog_12_method_61_code 115 = .ok (.bipush (-2), 2) := by decide +kernel
theorem d_R_instruction_117 : decode prog_12_method_61_code 117 = .ok (.ireturn, 1) := by decide +kernel
def B_R_instruction (_ : Nat × Nat) : PS :=
  (sSq (sIf (cN (e1 (fun x : Int32 => decide (¬ x = 0)) (eX .int (xV 10 1 X_R_isThere (eR 0) (aC .int (eI 1) aN))))) (sRt .int (eV (-1 : Int32))) sSk)
    (sSq (sX (xV 10 2 X_R_pack (eR 0) (aC .ref (eFR 10 7 (eR 0)) (aC .int (eV (0 : Int32)) aN))))
    (sSw 3 (eI 2) [(0, 0), (1, 1), (2, 2), (3, 3), (4, 4), (5, 5)] 6 [(sRt .int (eAI (eFR 10 3 (eR 0)) (eI 1))),
    (sRt .int (eAI (eFR 10 22 (eR 0)) (eI 1))),
    (sRt .int (eAI (eFR 10 23 (eR 0)) (eI 1))),
    (sRt .int (eAI (eFR 10 34 (eR 0)) (eI 1))),
    (sRt .int (eX .int (xS 1 X_R_ones (aC .int (eAI (eFR 10 21 (eR 0)) (eI 1)) aN)))),
    (sSq (sX (xV 10 2 X_R_run (eR 0) (aC .ref (eFR 10 7 (eR 0)) (aC .int (eV (-9 : Int32)) aN))))
    (sRt .int (eAI (eFR 10 36 (eR 0)) (eI 1)))),
    (sRt .int (eV (-2 : Int32)))])))
def X_R_instruction : PM := fun vs h Q => (lx vs).length ≤ 3 ∧ B_R_instruction (h.length + 0, hsz h + 0) (fun _ _ => False) (fun _ _ => False) (fun _ _ => False) Q (lini 3 vs) h
theorem v_R_instruction (l : Launch) : Ctr l y_R_instruction prog_12_method_61_code 3 (some .int) rm_R_instruction X_R_instruction := by
  refine Ctr_of (own := "PackLanesModel") (B := B_R_instruction) (KR := fun _ Q => Q) (by decide) rfl (fun _ _ _ z => z) (fun _ _ _ _ z => ⟨Or.inl ⟨rfl, rfl⟩, z⟩) (Or.inr (Or.inl rfl)) (fun κ hl ho hR hrt hn0 => ?_)
  subst hl
  unfold B_R_instruction
  exact (S_sq (pc1 := 10) (S_if1 (pT := 8) (pF := 10) (C_not (T1_ne (pT := 10) (pc2 := 5) (E_x (O_V k_R_332 (v_R_isThere _) ⟨rfl, rfl⟩ ho (rk hR rfl) (by decide) (T := KT10) (N := 50) rfl (by decide) (pc1 := 1) (pc2 := 2) (E_aln d_R_instruction_0 rfl) (A_c catI (pc1 := 2) (E_iln d_R_instruction_1 rfl) A_n) d_R_instruction_2)) d_R_instruction_5 rfl)) (S_ri hrt (pc1 := 9) (E_ic d_R_instruction_8 rfl) d_R_instruction_9))
    (S_sq (pc1 := 19) (S_X (O_V k_R_287 (v_R_pack _) ⟨rfl, rfl⟩ ho (rk hR rfl) (by decide) (T := KT10) (N := 50) rfl (by decide) (pc1 := 11) (pc2 := 16) (E_aln d_R_instruction_10 rfl) (A_c catR (pc1 := 15) (E_fR f_R_25 ho (pc1 := 12) (E_aln d_R_instruction_11 rfl) d_R_instruction_12) (A_c catI (pc1 := 16) (E_ic d_R_instruction_15 rfl) A_n)) d_R_instruction_16))
    (S_sw (pcs := [60, 67, 74, 81, 88, 98, 115, _]) (pc1 := 20)  (E_iln d_R_instruction_19 rfl) (fun _ _ _ k => r_tsw d_R_instruction_20 (by decide +kernel) k) (And.intro (S_ri hrt (pc1 := 66) (E_aI (pc1 := 64) (pc2 := 65) (E_fR f_R_13 ho (pc1 := 61) (E_aln d_R_instruction_60 rfl) d_R_instruction_61) (E_iln d_R_instruction_64 rfl) d_R_instruction_65) d_R_instruction_66)
    (And.intro (S_ri hrt (pc1 := 73) (E_aI (pc1 := 71) (pc2 := 72) (E_fR f_R_53 ho (pc1 := 68) (E_aln d_R_instruction_67 rfl) d_R_instruction_68) (E_iln d_R_instruction_71 rfl) d_R_instruction_72) d_R_instruction_73)
    (And.intro (S_ri hrt (pc1 := 80) (E_aI (pc1 := 78) (pc2 := 79) (E_fR f_R_56 ho (pc1 := 75) (E_aln d_R_instruction_74 rfl) d_R_instruction_75) (E_iln d_R_instruction_78 rfl) d_R_instruction_79) d_R_instruction_80)
    (And.intro (S_ri hrt (pc1 := 87) (E_aI (pc1 := 85) (pc2 := 86) (E_fR f_R_68 ho (pc1 := 82) (E_aln d_R_instruction_81 rfl) d_R_instruction_82) (E_iln d_R_instruction_85 rfl) d_R_instruction_86) d_R_instruction_87)
    (And.intro (S_ri hrt (pc1 := 97) (E_x (O_S k_R_335 (v_R_ones _) ⟨rfl, rfl⟩ ho (rk hR rfl) (by decide) (pc2 := 94) (A_c catI (pc1 := 94) (E_aI (pc1 := 92) (pc2 := 93) (E_fR f_R_50 ho (pc1 := 89) (E_aln d_R_instruction_88 rfl) d_R_instruction_89) (E_iln d_R_instruction_92 rfl) d_R_instruction_93) A_n) d_R_instruction_94)) d_R_instruction_97)
    (And.intro (S_sq (pc1 := 108) (S_X (O_V k_R_316 (v_R_run _) ⟨rfl, rfl⟩ ho (rk hR rfl) (by decide) (T := KT10) (N := 50) rfl (by decide) (pc1 := 99) (pc2 := 105) (E_aln d_R_instruction_98 rfl) (A_c catR (pc1 := 103) (E_fR f_R_25 ho (pc1 := 100) (E_aln d_R_instruction_99 rfl) d_R_instruction_100) (A_c catI (pc1 := 105) (E_bi d_R_instruction_103 rfl) A_n)) d_R_instruction_105))
    (S_ri hrt (pc1 := 114) (E_aI (pc1 := 112) (pc2 := 113) (E_fR f_R_74 ho (pc1 := 109) (E_aln d_R_instruction_108 rfl) d_R_instruction_109) (E_iln d_R_instruction_112 rfl) d_R_instruction_113) d_R_instruction_114))
    (And.intro (S_ri hrt (pc1 := 117) (E_bi d_R_instruction_115 rfl) d_R_instruction_117)
    rfl))))))) (by decide))))
theorem d_R_address_0 : decode prog_12_method_62_code 0 = .ok (.iload_n 1, 1) := by decide +kernel
theorem d_R_address_1 : decode prog_12_method_62_code 1 = .ok (.invokestatic 338, 3) := by decide +kernel
theorem d_R_address_4 : decode prog_12_method_62_code 4 = .ok (.ifCond .ne 5, 3) := by decide +kernel
theorem d_R_address_7 : decode prog_12_method_62_code 7 = .ok (.iconst (-1), 1) := by decide +kernel
theorem d_R_address_8 : decode prog_12_method_62_code 8 = .ok (.ireturn, 1) := by decide +kernel
theorem d_R_address_9 : decode prog_12_method_62_code 9 = .ok (.iload_n 2, 1) := by decide +kernel
theorem d_R_address_10 : decode prog_12_method_62_code 10 = .ok (.tableswitch 68 0 2 #[26, 36, 53], 26) := by decide +kernel
theorem d_R_address_36 : decode prog_12_method_62_code 36 = .ok (.aload_n 0, 1) := by decide +kernel
theorem d_R_address_37 : decode prog_12_method_62_code 37 = .ok (.getfield 25, 3) := by decide +kernel
theorem d_R_address_40 : decode prog_12_method_62_code 40 = .ok (.iload_n 1, 1) := by decide +kernel
theorem d_R_address_41 : decode prog_12_method_62_code 41 = .ok (.iaload, 1) := by decide +kernel
theorem d_R_address_42 : decode prog_12_method_62_code 42 = .ok (.bipush 100, 2) := by decide +kernel
theorem d_R_address_44 : decode prog_12_method_62_code 44 = .ok (.iadd, 1) := by decide +kernel
theorem d_R_address_45 : decode prog_12_method_62_code 45 = .ok (.ireturn, 1) := by decide +kernel
theorem d_R_address_46 : decode prog_12_method_62_code 46 = .ok (.aload_n 0, 1) := by decide +kernel
theorem d_R_address_47 : decode prog_12_method_62_code 47 = .ok (.aload_n 0, 1) := by decide +kernel
theorem d_R_address_48 : decode prog_12_method_62_code 48 = .ok (.getfield 25, 3) := by decide +kernel
theorem d_R_address_51 : decode prog_12_method_62_code 51 = .ok (.bipush (-9), 2) := by decide +kernel
theorem d_R_address_53 : decode prog_12_method_62_code 53 = .ok (.invokevirtual 316, 3) := by decide +kernel
theorem d_R_address_56 : decode prog_12_method_62_code 56 = .ok (.aload_n 0, 1) := by decide +kernel
theorem d_R_address_57 : decode prog_12_method_62_code 57 = .ok (.getfield 71, 3) := by decide +kernel
theorem d_R_address_60 : decode prog_12_method_62_code 60 = .ok (.iload_n 1, 1) := by decide +kernel
theorem d_R_address_61 : decode prog_12_method_62_code 61 = .ok (.iaload, 1) := by decide +kernel
theorem d_R_address_62 : decode prog_12_method_62_code 62 = .ok (.ireturn, 1) := by decide +kernel
theorem d_R_address_63 : decode prog_12_method_62_code 63 = .ok (.aload_n 0, 1) := by decide +kernel
theorem d_R_address_64 : decode prog_12_method_62_code 64 = .ok (.aload_n 0, 1) := by decide +kernel
theorem d_R_address_65 : decode prog_12_method_62_code 65 = .ok (.getfield 25, 3) := by decide +kernel
theorem d_R_address_68 : decode prog_12_method_62_code 68 = .ok (.invokevirtual 313, 3) := by decide +kernel
theorem d_R_address_71 : decode prog_12_method_62_code 71 = .ok (.aload_n 0, 1) := by decide +kernel
theorem d_R_address_72 : decode prog_12_method_62_code 72 = .ok (.getfield 71, 3) := by decide +kernel
theorem d_R_address_75 : decode prog_12_method_62_code 75 = .ok (.iload_n 1, 1) := by decide +kernel
theorem d_R_address_76 : decode prog_12_method_62_code 76 = .ok (.iaload, 1) := by decide +kernel
theorem d_R_address_77 : decode prog_12_method_62_code 77 = .ok (.ireturn, 1) := by decide +kernel
theorem d_R_address_78 : decode prog_12_method_62_code 78 = .ok (.bipush (-2), 2) := by decide +kernel
theorem d_R_address_80 : decode prog_12_method_62_code 80 = .ok (.ireturn, 1) := by decide +kernel
def B_R_address (_ : Nat × Nat) : PS :=
  (sSq (sIf (cN (e1 (fun x : Int32 => decide (¬ x = 0)) (eX .int (xS 1 X_R_isAddress (aC .int (eI 1) aN))))) (sRt .int (eV (-1 : Int32))) sSk)
    (sSw 3 (eI 2) [(0, 0), (1, 1), (2, 2)] 3 [(sRt .int (e2 (fun x y : Int32 => x + y) (eAI (eFR 10 7 (eR 0)) (eI 1)) (eV (100 : Int32)))),
    (sSq (sX (xV 10 2 X_R_run (eR 0) (aC .ref (eFR 10 7 (eR 0)) (aC .int (eV (-9 : Int32)) aN))))
    (sRt .int (eAI (eFR 10 35 (eR 0)) (eI 1)))),
    (sSq (sX (xV 10 1 X_R_packedRun (eR 0) (aC .ref (eFR 10 7 (eR 0)) aN)))
    (sRt .int (eAI (eFR 10 35 (eR 0)) (eI 1)))),
    (sRt .int (eV (-2 : Int32)))]))
def X_R_address : PM := fun vs h Q => (lx vs).length ≤ 3 ∧ B_R_address (h.length + 0, hsz h + 0) (fun _ _ => False) (fun _ _ => False) (fun _ _ => False) Q (lini 3 vs) h
theorem v_R_address (l : Launch) : Ctr l y_R_address prog_12_method_62_code 3 (some .int) rm_R_address X_R_address := by
  refine Ctr_of (own := "PackLanesModel") (B := B_R_address) (KR := fun _ Q => Q) (by decide) rfl (fun _ _ _ z => z) (fun _ _ _ _ z => ⟨Or.inl ⟨rfl, rfl⟩, z⟩) (Or.inr (Or.inl rfl)) (fun κ hl ho hR hrt hn0 => ?_)
  subst hl
  unfold B_R_address
  exact (S_sq (pc1 := 9) (S_if1 (pT := 7) (pF := 9) (C_not (T1_ne (pT := 9) (pc2 := 4) (E_x (O_S k_R_338 (v_R_isAddress _) ⟨rfl, rfl⟩ ho (rk hR rfl) (by decide) (pc2 := 1) (A_c catI (pc1 := 1) (E_iln d_R_address_0 rfl) A_n) d_R_address_1)) d_R_address_4 rfl)) (S_ri hrt (pc1 := 8) (E_ic d_R_address_7 rfl) d_R_address_8))
    (S_sw (pcs := [36, 46, 63, 78, _]) (pc1 := 10)  (E_iln d_R_address_9 rfl) (fun _ _ _ k => r_tsw d_R_address_10 (by decide +kernel) k) (And.intro (S_ri hrt (pc1 := 45) (E_iadd (pc1 := 42) (pc2 := 44) (E_aI (pc1 := 40) (pc2 := 41) (E_fR f_R_25 ho (pc1 := 37) (E_aln d_R_address_36 rfl) d_R_address_37) (E_iln d_R_address_40 rfl) d_R_address_41) (E_bi d_R_address_42 rfl) d_R_address_44) d_R_address_45)
    (And.intro (S_sq (pc1 := 56) (S_X (O_V k_R_316 (v_R_run _) ⟨rfl, rfl⟩ ho (rk hR rfl) (by decide) (T := KT10) (N := 50) rfl (by decide) (pc1 := 47) (pc2 := 53) (E_aln d_R_address_46 rfl) (A_c catR (pc1 := 51) (E_fR f_R_25 ho (pc1 := 48) (E_aln d_R_address_47 rfl) d_R_address_48) (A_c catI (pc1 := 53) (E_bi d_R_address_51 rfl) A_n)) d_R_address_53))
    (S_ri hrt (pc1 := 62) (E_aI (pc1 := 60) (pc2 := 61) (E_fR f_R_71 ho (pc1 := 57) (E_aln d_R_address_56 rfl) d_R_address_57) (E_iln d_R_address_60 rfl) d_R_address_61) d_R_address_62))
    (And.intro (S_sq (pc1 := 71) (S_X (O_V k_R_313 (v_R_packedRun _) ⟨rfl, rfl⟩ ho (rk hR rfl) (by decide) (T := KT10) (N := 50) rfl (by decide) (pc1 := 64) (pc2 := 68) (E_aln d_R_address_63 rfl) (A_c catR (pc1 := 68) (E_fR f_R_25 ho (pc1 := 65) (E_aln d_R_address_64 rfl) d_R_address_65) A_n) d_R_address_68))
    (S_ri hrt (pc1 := 77) (E_aI (pc1 := 75) (pc2 := 76) (E_fR f_R_71 ho (pc1 := 72) (E_aln d_R_address_71 rfl) d_R_address_72) (E_iln d_R_address_75 rfl) d_R_address_76) d_R_address_77))
    (And.intro (S_ri hrt (pc1 := 80) (E_bi d_R_address_78 rfl) d_R_address_80)
    rfl)))) (by decide)))
theorem d_R_depends_0 : decode prog_12_method_63_code 0 = .ok (.aload_n 0, 1) := by decide +kernel
theorem d_R_depends_1 : decode prog_12_method_63_code 1 = .ok (.iload_n 1, 1) := by decide +kernel
theorem d_R_depends_2 : decode prog_12_method_63_code 2 = .ok (.invokevirtual 332, 3) := by decide +kernel
theorem d_R_depends_5 : decode prog_12_method_63_code 5 = .ok (.ifCond .eq 11, 3) := by decide +kernel
theorem d_R_depends_8 : decode prog_12_method_63_code 8 = .ok (.aload_n 0, 1) := by decide +kernel
theorem d_R_depends_9 : decode prog_12_method_63_code 9 = .ok (.iload_n 2, 1) := by decide +kernel
theorem d_R_depends_10 : decode prog_12_method_63_code 10 = .ok (.invokevirtual 332, 3) := by decide +kernel
theorem d_R_depends_13 : decode prog_12_method_63_code 13 = .ok (.ifCond .ne 5, 3) := by decide +kernel
theorem d_R_depends_16 : decode prog_12_method_63_code 16 = .ok (.iconst (-1), 1) := by decide +kernel
theorem d_R_depends_17 : decode prog_12_method_63_code 17 = .ok (.ireturn, 1) := by decide +kernel
theorem d_R_depends_18 : decode prog_12_method_63_code 18 = .ok (.aload_n 0, 1) := by decide +kernel
theorem d_R_depends_19 : decode prog_12_method_63_code 19 = .ok (.aload_n 0, 1) := by decide +kernel
theorem d_R_depends_20 : decode prog_12_method_63_code 20 = .ok (.getfield 25, 3) := by decide +kernel
theorem d_R_depends_23 : decode prog_12_method_63_code 23 = .ok (.iconst 0, 1) := by decide +kernel
theorem d_R_depends_24 : decode prog_12_method_63_code 24 = .ok (.invokevirtual 265, 3) := by decide +kernel
theorem d_R_depends_27 : decode prog_12_method_63_code 27 = .ok (.aload_n 0, 1) := by decide +kernel
theorem d_R_depends_28 : decode prog_12_method_63_code 28 = .ok (.getfield 50, 3) := by decide +kernel
theorem d_R_depends_31 : decode prog_12_method_63_code 31 = .ok (.iload_n 2, 1) := by decide +kernel
theorem d_R_depends_32 : decode prog_12_method_63_code 32 = .ok (.iaload, 1) := by decide +kernel
theorem d_R_depends_33 : decode prog_12_method_63_code 33 = .ok (.iload_n 1, 1) := by decide +kernel
theorem d_R_depends_34 : decode prog_12_method_63_code 34 = .ok (.invokestatic 190, 3) := by decide +kernel
theorem d_R_depends_37 : decode prog_12_method_63_code 37 = .ok (.ifCond .eq 7, 3) := by decide +kernel
theorem d_R_depends_40 : decode prog_12_method_63_code 40 = .ok (.iconst 1, 1) := by decide +kernel
theorem d_R_depends_41 : decode prog_12_method_63_code 41 = .ok (.goto 4, 3) := by decide +kernel
theorem d_R_depends_44 : decode prog_12_method_63_code 44 = .ok (.iconst 0, 1) := by decide +kernel
theorem d_R_depends_45 : decode prog_12_method_63_code 45 = .ok (.ireturn, 1) := by decide +kernel
def B_R_depends (_ : Nat × Nat) : PS :=
  (sSq (sIf (cO (cN (e1 (fun x : Int32 => decide (¬ x = 0)) (eX .int (xV 10 1 X_R_isThere (eR 0) (aC .int (eI 1) aN))))) (cN (e1 (fun x : Int32 => decide (¬ x = 0)) (eX .int (xV 10 1 X_R_isThere (eR 0) (aC .int (eI 2) aN)))))) (sRt .int (eV (-1 : Int32))) sSk)
    (sSq (sX (xV 10 2 X_R_nothingKept (eR 0) (aC .ref (eFR 10 7 (eR 0)) (aC .int (eV (0 : Int32)) aN))))
    (sRt .int (eIf (e1 (fun x : Int32 => decide (¬ x = 0)) (eX .int (xS 2 X_R_has (aC .int (eAI (eFR 10 21 (eR 0)) (eI 2)) (aC .int (eI 1) aN))))) (eV (1 : Int32)) (eV (0 : Int32))))))
def X_R_depends : PM := fun vs h Q => (lx vs).length ≤ 3 ∧ B_R_depends (h.length + 0, hsz h + 0) (fun _ _ => False) (fun _ _ => False) (fun _ _ => False) Q (lini 3 vs) h
theorem v_R_depends (l : Launch) : Ctr l y_R_depends prog_12_method_63_code 3 (some .int) rm_R_depends X_R_depends := by
  refine Ctr_of (own := "PackLanesModel") (B := B_R_depends) (KR := fun _ Q => Q) (by decide) rfl (fun _ _ _ z => z) (fun _ _ _ _ z => ⟨Or.inl ⟨rfl, rfl⟩, z⟩) (Or.inr (Or.inl rfl)) (fun κ hl ho hR hrt hn0 => ?_)
  subst hl
  unfold B_R_depends
  exact (S_sq (pc1 := 18) (S_if1 (pT := 16) (pF := 18) (C_or (pc1 := 8) (C_not (J1_ne (pF := 16) (pc2 := 5) (E_x (O_V k_R_332 (v_R_isThere _) ⟨rfl, rfl⟩ ho (rk hR rfl) (by decide) (T := KT10) (N := 50) rfl (by decide) (pc1 := 1) (pc2 := 2) (E_aln d_R_depends_0 rfl) (A_c catI (pc1 := 2) (E_iln d_R_depends_1 rfl) A_n) d_R_depends_2)) d_R_depends_5 rfl)) (C_not (T1_ne (pT := 18) (pc2 := 13) (E_x (O_V k_R_332 (v_R_isThere _) ⟨rfl, rfl⟩ ho (rk hR rfl) (by decide) (T := KT10) (N := 50) rfl (by decide) (pc1 := 9) (pc2 := 10) (E_aln d_R_depends_8 rfl) (A_c catI (pc1 := 10) (E_iln d_R_depends_9 rfl) A_n) d_R_depends_10)) d_R_depends_13 rfl))) (S_ri hrt (pc1 := 17) (E_ic d_R_depends_16 rfl) d_R_depends_17))
    (S_sq (pc1 := 27) (S_X (O_V k_R_265 (v_R_nothingKept _) ⟨rfl, rfl⟩ ho (rk hR rfl) (by decide) (T := KT10) (N := 50) rfl (by decide) (pc1 := 19) (pc2 := 24) (E_aln d_R_depends_18 rfl) (A_c catR (pc1 := 23) (E_fR f_R_25 ho (pc1 := 20) (E_aln d_R_depends_19 rfl) d_R_depends_20) (A_c catI (pc1 := 24) (E_ic d_R_depends_23 rfl) A_n)) d_R_depends_24))
    (S_ri hrt (pc1 := 45) (E_if (pT := 40) (pF := 44) (pc1 := 41) (pc2 := 45) (J1_ne (pF := 44) (pc2 := 37) (E_x (O_S k_R_190 (v_R_has _) ⟨rfl, rfl⟩ ho (rk hR rfl) (by decide) (pc2 := 34) (A_c catI (pc1 := 33) (E_aI (pc1 := 31) (pc2 := 32) (E_fR f_R_50 ho (pc1 := 28) (E_aln d_R_depends_27 rfl) d_R_depends_28) (E_iln d_R_depends_31 rfl) d_R_depends_32) (A_c catI (pc1 := 34) (E_iln d_R_depends_33 rfl) A_n)) d_R_depends_34)) d_R_depends_37 rfl) (E_ic d_R_depends_40 rfl) d_R_depends_41 rfl (E_ic d_R_depends_44 rfl)) d_R_depends_45)))
theorem d_R_note_0 : decode prog_12_method_64_code 0 = .ok (.iconst 0, 1) := by decide +kernel
theorem d_R_note_1 : decode prog_12_method_64_code 1 = .ok (.istore_n 1, 1) := by decide +kernel
theorem d_R_note_2 : decode prog_12_method_64_code 2 = .ok (.iload_n 1, 1) := by decide +kernel
theorem d_R_note_3 : decode prog_12_method_64_code 3 = .ok (.bipush 19, 2) := by decide +kernel
theorem d_R_note_5 : decode prog_12_method_64_code 5 = .ok (.if_icmp .ge 29, 3) := by decide +kernel
theorem d_R_note_8 : decode prog_12_method_64_code 8 = .ok (.aload_n 0, 1) := by decide +kernel
theorem d_R_note_9 : decode prog_12_method_64_code 9 = .ok (.getfield 31, 3) := by decide +kernel
theorem d_R_note_12 : decode prog_12_method_64_code 12 = .ok (.bipush 19, 2) := by decide +kernel
theorem d_R_note_14 : decode prog_12_method_64_code 14 = .ok (.aload_n 0, 1) := by decide +kernel
theorem d_R_note_15 : decode prog_12_method_64_code 15 = .ok (.getfield 341, 3) := by decide +kernel
theorem d_R_note_18 : decode prog_12_method_64_code 18 = .ok (.imul, 1) := by decide +kernel
theorem d_R_note_19 : decode prog_12_method_64_code 19 = .ok (.iload_n 1, 1) := by decide +kernel
theorem d_R_note_20 : decode prog_12_method_64_code 20 = .ok (.iadd, 1) := by decide +kernel
theorem d_R_note_21 : decode prog_12_method_64_code 21 = .ok (.aload_n 0, 1) := by decide +kernel
theorem d_R_note_22 : decode prog_12_method_64_code 22 = .ok (.getfield 25, 3) := by decide +kernel
theorem d_R_note_25 : decode prog_12_method_64_code 25 = .ok (.iload_n 1, 1) := by decide +kernel
theorem d_R_note_26 : decode prog_12_method_64_code 26 = .ok (.iaload, 1) := by decide +kernel
theorem d_R_note_27 : decode prog_12_method_64_code 27 = .ok (.iastore, 1) := by decide +kernel
theorem d_R_note_28 : decode prog_12_method_64_code 28 = .ok (.iinc 1 1, 3) := by decide +kernel
theorem d_R_note_31 : decode prog_12_method_64_code 31 = .ok (.goto (-29), 3) := by decide +kernel
theorem d_R_note_34 : decode prog_12_method_64_code 34 = .ok (.aload_n 0, 1) := by decide +kernel
theorem d_R_note_35 : decode prog_12_method_64_code 35 = .ok (.aload_n 0, 1) := by decide +kernel
theorem d_R_note_36 : decode prog_12_method_64_code 36 = .ok (.getfield 341, 3) := by decide +kernel
theorem d_R_note_39 : decode prog_12_method_64_code 39 = .ok (.iconst 1, 1) := by decide +kernel
theorem d_R_note_40 : decode prog_12_method_64_code 40 = .ok (.iadd, 1) := by decide +kernel
theorem d_R_note_41 : decode prog_12_method_64_code 41 = .ok (.bipush 14, 2) := by decide +kernel
theorem d_R_note_43 : decode prog_12_method_64_code 43 = .ok (.irem, 1) := by decide +kernel
theorem d_R_note_44 : decode prog_12_method_64_code 44 = .ok (.putfield 341, 3) := by decide +kernel
theorem d_R_note_47 : decode prog_12_method_64_code 47 = .ok (.aload_n 0, 1) := by decide +kernel
theorem d_R_note_48 : decode prog_12_method_64_code 48 = .ok (.aload_n 0, 1) := by decide +kernel
theorem d_R_note_49 : decode prog_12_method_64_code 49 = .ok (.getfield 173, 3) := by decide +kernel
theorem d_R_note_52 : decode prog_12_method_64_code 52 = .ok (.bipush 14, 2) := by decide +kernel
theorem d_R_note_54 : decode prog_12_method_64_code 54 = .ok (.if_icmp .ge 12, 3) := by decide +kernel
theorem d_R_note_57 : decode prog_12_method_64_code 57 = .ok (.aload_n 0, 1) := by decide +kernel
theorem d_R_note_58 : decode prog_12_method_64_code 58 = .ok (.getfield 173, 3) := by decide +kernel
theorem d_R_note_61 : decode prog_12_method_64_code 61 = .ok (.iconst 1, 1) := by decide +kernel
theorem d_R_note_62 : decode prog_12_method_64_code 62 = .ok (.iadd, 1) := by decide +kernel
theorem d_R_note_63 : decode prog_12_method_64_code 63 = .ok (.goto 5, 3) := by decide +kernel
theorem d_R_note_66 : decode prog_12_method_64_code 66 = .ok (.bipush 14, 2) := by decide +kernel
theorem d_R_note_68 : decode prog_12_method_64_code 68 = .ok (.putfield 173, 3) := by decide +kernel
theorem d_R_note_71 : decode prog_12_method_64_code 71 = .ok (.return_, 1) := by decide +kernel
def B_R_note (_ : Nat × Nat) : PS :=
  (sSq (sCut 1 (sSq (sI 1 (eV (0 : Int32)))
    (sLp 2 (e2 (fun x y : Int32 => decide (x < y)) (eI 1) (eV (19 : Int32)))
    (sAI (eFR 10 9 (eR 0)) (e2 (fun x y : Int32 => x + y) (e2 (fun x y : Int32 => x * y) (eV (19 : Int32)) (eFI 10 11 (eR 0))) (eI 1)) (eAI (eFR 10 7 (eR 0)) (eI 1)))
    (sInc 1 (1)))))
    (sSq (sF .int 10 11 (eR 0) (eDI (fun x y : Int32 => x - x / y * y) (e2 (fun x y : Int32 => x + y) (eFI 10 11 (eR 0)) (eV (1 : Int32))) (eV (14 : Int32))))
    (sSq (sF .int 10 10 (eR 0) (eIf (e2 (fun x y : Int32 => decide (x < y)) (eFI 10 10 (eR 0)) (eV (14 : Int32))) (e2 (fun x y : Int32 => x + y) (eFI 10 10 (eR 0)) (eV (1 : Int32))) (eV (14 : Int32))))
    sRv)))
def X_R_note : PM := fun vs h Q => (lx vs).length ≤ 2 ∧ B_R_note (h.length + 0, hsz h + 0) (fun _ _ => False) (fun _ _ => False) (fun _ _ => False) Q (lini 2 vs) h
theorem v_R_note (l : Launch) : Ctr l y_R_note prog_12_method_64_code 2 none rm_R_note X_R_note := by
  refine Ctr_of (own := "PackLanesModel") (B := B_R_note) (KR := fun _ Q => Q) (by decide) rfl (fun _ _ _ z => z) (fun _ _ _ _ z => ⟨Or.inl ⟨rfl, rfl⟩, z⟩) (Or.inl rfl) (fun κ hl ho hR hrt hn0 => ?_)
  subst hl
  unfold B_R_note
  exact (S_sq (pc1 := 34) (S_cut (S_sq (pc1 := 2) (S_In (pc1 := 1) (E_ic d_R_note_0 rfl) d_R_note_1 rfl)
    (S_lp (pT := 8) (pF := 34) (pS := 28) (pG := 31) (J2_lt (pF := 34) (pc1 := 3) (pc2 := 5) (E_iln d_R_note_2 rfl) (E_bi d_R_note_3 rfl) d_R_note_5 rfl)
    (S_AI (pc1 := 12) (pc2 := 21) (pc3 := 27) (E_fR f_R_31 ho (pc1 := 9) (E_aln d_R_note_8 rfl) d_R_note_9) (E_iadd (pc1 := 19) (pc2 := 20) (E_imul (pc1 := 14) (pc2 := 18) (E_bi d_R_note_12 rfl) (E_fI f_R_341 ho (pc1 := 15) (E_aln d_R_note_14 rfl) d_R_note_15) d_R_note_18) (E_iln d_R_note_19 rfl) d_R_note_20) (E_aI (pc1 := 25) (pc2 := 26) (E_fR f_R_25 ho (pc1 := 22) (E_aln d_R_note_21 rfl) d_R_note_22) (E_iln d_R_note_25 rfl) d_R_note_26) d_R_note_27)
    (S_Inc d_R_note_28 rfl) d_R_note_31 rfl)))
    (S_sq (pc1 := 47) (S_FI f_R_341 ho (pc1 := 35) (pc2 := 44) (E_aln d_R_note_34 rfl) (E_irem (pc1 := 41) (pc2 := 43) (E_iadd (pc1 := 39) (pc2 := 40) (E_fI f_R_341 ho (pc1 := 36) (E_aln d_R_note_35 rfl) d_R_note_36) (E_ic d_R_note_39 rfl) d_R_note_40) (E_bi d_R_note_41 rfl) d_R_note_43) d_R_note_44)
    (S_sq (pc1 := 71) (S_FI f_R_173 ho (pc1 := 48) (pc2 := 68) (E_aln d_R_note_47 rfl) (E_if (pT := 57) (pF := 66) (pc1 := 63) (pc2 := 68) (J2_lt (pF := 66) (pc1 := 52) (pc2 := 54) (E_fI f_R_173 ho (pc1 := 49) (E_aln d_R_note_48 rfl) d_R_note_49) (E_bi d_R_note_52 rfl) d_R_note_54 rfl) (E_iadd (pc1 := 61) (pc2 := 62) (E_fI f_R_173 ho (pc1 := 58) (E_aln d_R_note_57 rfl) d_R_note_58) (E_ic d_R_note_61 rfl) d_R_note_62) d_R_note_63 rfl (E_bi d_R_note_66 rfl)) d_R_note_68)
    (S_rv hrt d_R_note_71))))
theorem d_R_start_0 : decode prog_12_method_65_code 0 = .ok (.iload_n 1, 1) := by decide +kernel
theorem d_R_start_1 : decode prog_12_method_65_code 1 = .ok (.invokestatic 338, 3) := by decide +kernel
theorem d_R_start_4 : decode prog_12_method_65_code 4 = .ok (.ifCond .ne 5, 3) := by decide +kernel
theorem d_R_start_7 : decode prog_12_method_65_code 7 = .ok (.iconst (-1), 1) := by decide +kernel
theorem d_R_start_8 : decode prog_12_method_65_code 8 = .ok (.ireturn, 1) := by decide +kernel
theorem d_R_start_9 : decode prog_12_method_65_code 9 = .ok (.iload_n 2, 1) := by decide +kernel
theorem d_R_start_10 : decode prog_12_method_65_code 10 = .ok (.i2l, 1) := by decide +kernel
theorem d_R_start_11 : decode prog_12_method_65_code 11 = .ok (.ldc2_w 344, 3) := by decide +kernel
theorem d_R_start_14 : decode prog_12_method_65_code 14 = .ok (.ldc2_w 346, 3) := by decide +kernel
theorem d_R_start_17 : decode prog_12_method_65_code 17 = .ok (.invokestatic 103, 3) := by decide +kernel
theorem d_R_start_20 : decode prog_12_method_65_code 20 = .ok (.ifCond .ne 6, 3) := by decide +kernel
theorem d_R_start_23 : decode prog_12_method_65_code 23 = .ok (.bipush (-2), 2) := by decide +kernel
theorem d_R_start_25 : decode prog_12_method_65_code 25 = .ok (.ireturn, 1) := by decide +kernel
theorem d_R_start_26 : decode prog_12_method_65_code 26 = .ok (.aload_n 0, 1) := by decide +kernel
theorem d_R_start_27 : decode prog_12_method_65_code 27 = .ok (.invokevirtual 348, 3) := by decide +kernel
theorem d_R_start_30 : decode prog_12_method_65_code 30 = .ok (.aload_n 0, 1) := by decide +kernel
theorem d_R_start_31 : decode prog_12_method_65_code 31 = .ok (.getfield 25, 3) := by decide +kernel
theorem d_R_start_34 : decode prog_12_method_65_code 34 = .ok (.iload_n 1, 1) := by decide +kernel
theorem d_R_start_35 : decode prog_12_method_65_code 35 = .ok (.iaload, 1) := by decide +kernel
theorem d_R_start_36 : decode prog_12_method_65_code 36 = .ok (.istore_n 3, 1) := by decide +kernel
theorem d_R_start_37 : decode prog_12_method_65_code 37 = .ok (.aload_n 0, 1) := by decide +kernel
theorem d_R_start_38 : decode prog_12_method_65_code 38 = .ok (.getfield 25, 3) := by decide +kernel
theorem d_R_start_41 : decode prog_12_method_65_code 41 = .ok (.iload_n 1, 1) := by decide +kernel
theorem d_R_start_42 : decode prog_12_method_65_code 42 = .ok (.iload_n 2, 1) := by decide +kernel
theorem d_R_start_43 : decode prog_12_method_65_code 43 = .ok (.iastore, 1) := by decide +kernel
theorem d_R_start_44 : decode prog_12_method_65_code 44 = .ok (.iload_n 3, 1) := by decide +kernel
theorem d_R_start_45 : decode prog_12_method_65_code 45 = .ok (.bipush 100, 2) := by decide +kernel
theorem d_R_start_47 : decode prog_12_method_65_code 47 = .ok (.iadd, 1) := by decide +kernel
theorem d_R_start_48 : decode prog_12_method_65_code 48 = .ok (.ireturn, 1) := by decide +kernel
def B_R_start (_ : Nat × Nat) : PS :=
  (sSq (sIf (cN (e1 (fun x : Int32 => decide (¬ x = 0)) (eX .int (xS 1 X_R_isAddress (aC .int (eI 1) aN))))) (sRt .int (eV (-1 : Int32))) sSk)
    (sSq (sIf (cN (e1 (fun x : Int32 => decide (¬ x = 0)) (eX .int (xS 3 X_R_in (aC .long (e1 (fun x : Int32 => x.toInt64) (eI 2)) (aC .long (eV (-99 : Int64)) (aC .long (eV (99 : Int64)) aN))))))) (sRt .int (eV (-2 : Int32))) sSk)
    (sSq (sX (xV 10 0 X_R_note (eR 0) aN))
    (sSq (sI 3 (eAI (eFR 10 7 (eR 0)) (eI 1)))
    (sSq (sAI (eFR 10 7 (eR 0)) (eI 1) (eI 2))
    (sRt .int (e2 (fun x y : Int32 => x + y) (eI 3) (eV (100 : Int32)))))))))
def X_R_start : PM := fun vs h Q => (lx vs).length ≤ 4 ∧ B_R_start (h.length + 0, hsz h + 0) (fun _ _ => False) (fun _ _ => False) (fun _ _ => False) Q (lini 4 vs) h
theorem v_R_start (l : Launch) : Ctr l y_R_start prog_12_method_65_code 4 (some .int) rm_R_start X_R_start := by
  refine Ctr_of (own := "PackLanesModel") (B := B_R_start) (KR := fun _ Q => Q) (by decide) rfl (fun _ _ _ z => z) (fun _ _ _ _ z => ⟨Or.inl ⟨rfl, rfl⟩, z⟩) (Or.inr (Or.inl rfl)) (fun κ hl ho hR hrt hn0 => ?_)
  subst hl
  unfold B_R_start
  exact (S_sq (pc1 := 9) (S_if1 (pT := 7) (pF := 9) (C_not (T1_ne (pT := 9) (pc2 := 4) (E_x (O_S k_R_338 (v_R_isAddress _) ⟨rfl, rfl⟩ ho (rk hR rfl) (by decide) (pc2 := 1) (A_c catI (pc1 := 1) (E_iln d_R_start_0 rfl) A_n) d_R_start_1)) d_R_start_4 rfl)) (S_ri hrt (pc1 := 8) (E_ic d_R_start_7 rfl) d_R_start_8))
    (S_sq (pc1 := 26) (S_if1 (pT := 23) (pF := 26) (C_not (T1_ne (pT := 26) (pc2 := 20) (E_x (O_S k_R_103 (v_R_in _) ⟨rfl, rfl⟩ ho (rk hR rfl) (by decide) (pc2 := 17) (A_c catL (pc1 := 11) (E_i2l (pc1 := 10) (E_iln d_R_start_9 rfl) d_R_start_10) (A_c catL (pc1 := 14) (E_ldc2 ho w_cl_R_344 d_R_start_11) (A_c catL (pc1 := 17) (E_ldc2 ho w_cl_R_346 d_R_start_14) A_n))) d_R_start_17)) d_R_start_20 rfl)) (S_ri hrt (pc1 := 25) (E_bi d_R_start_23 rfl) d_R_start_25))
    (S_sq (pc1 := 30) (S_X (O_V k_R_348 (v_R_note _) ⟨rfl, rfl⟩ ho (rk hR rfl) (by decide) (T := KT10) (N := 50) rfl (by decide) (pc1 := 27) (pc2 := 27) (E_aln d_R_start_26 rfl) A_n d_R_start_27))
    (S_sq (pc1 := 37) (S_In (pc1 := 36) (E_aI (pc1 := 34) (pc2 := 35) (E_fR f_R_25 ho (pc1 := 31) (E_aln d_R_start_30 rfl) d_R_start_31) (E_iln d_R_start_34 rfl) d_R_start_35) d_R_start_36 rfl)
    (S_sq (pc1 := 44) (S_AI (pc1 := 41) (pc2 := 42) (pc3 := 43) (E_fR f_R_25 ho (pc1 := 38) (E_aln d_R_start_37 rfl) d_R_start_38) (E_iln d_R_start_41 rfl) (E_iln d_R_start_42 rfl) d_R_start_43)
    (S_ri hrt (pc1 := 48) (E_iadd (pc1 := 45) (pc2 := 47) (E_iln d_R_start_44 rfl) (E_bi d_R_start_45 rfl) d_R_start_47) d_R_start_48))))))
theorem d_R_maySet_0 : decode prog_12_method_66_code 0 = .ok (.iload_n 0, 1) := by decide +kernel
theorem d_R_maySet_1 : decode prog_12_method_66_code 1 = .ok (.ifCond .ne 15, 3) := by decide +kernel
theorem d_R_maySet_4 : decode prog_12_method_66_code 4 = .ok (.iload_n 1, 1) := by decide +kernel
theorem d_R_maySet_5 : decode prog_12_method_66_code 5 = .ok (.i2l, 1) := by decide +kernel
theorem d_R_maySet_6 : decode prog_12_method_66_code 6 = .ok (.lconst 0, 1) := by decide +kernel
theorem d_R_maySet_7 : decode prog_12_method_66_code 7 = .ok (.ldc2_w 123, 3) := by decide +kernel
theorem d_R_maySet_10 : decode prog_12_method_66_code 10 = .ok (.invokestatic 103, 3) := by decide +kernel
theorem d_R_maySet_13 : decode prog_12_method_66_code 13 = .ok (.ifCond .ne 33, 3) := by decide +kernel
theorem d_R_maySet_16 : decode prog_12_method_66_code 16 = .ok (.iload_n 0, 1) := by decide +kernel
theorem d_R_maySet_17 : decode prog_12_method_66_code 17 = .ok (.iconst 1, 1) := by decide +kernel
theorem d_R_maySet_18 : decode prog_12_method_66_code 18 = .ok (.if_icmp .ne 13, 3) := by decide +kernel
theorem d_R_maySet_21 : decode prog_12_method_66_code 21 = .ok (.iload_n 1, 1) := by decide +kernel
theorem d_R_maySet_22 : decode prog_12_method_66_code 22 = .ok (.i2l, 1) := by decide +kernel
theorem d_R_maySet_23 : decode prog_12_method_66_code 23 = .ok (.lconst 0, 1) := by decide +kernel
theorem d_R_maySet_24 : decode prog_12_method_66_code 24 = .ok (.lconst 1, 1) := by decide +kernel
theorem d_R_maySet_25 : decode prog_12_method_66_code 25 = .ok (.invokestatic 103, 3) := by decide +kernel
theorem d_R_maySet_28 : decode prog_12_method_66_code 28 = .ok (.ifCond .ne 18, 3) := by decide +kernel
theorem d_R_maySet_31 : decode prog_12_method_66_code 31 = .ok (.iload_n 0, 1) := by decide +kernel
theorem d_R_maySet_32 : decode prog_12_method_66_code 32 = .ok (.iconst 2, 1) := by decide +kernel
theorem d_R_maySet_33 : decode prog_12_method_66_code 33 = .ok (.if_icmp .ne 17, 3) := by decide +kernel
theorem d_R_maySet_36 : decode prog_12_method_66_code 36 = .ok (.iload_n 1, 1) := by decide +kernel
theorem d_R_maySet_37 : decode prog_12_method_66_code 37 = .ok (.iconst 2, 1) := by decide +kernel
theorem d_R_maySet_38 : decode prog_12_method_66_code 38 = .ok (.if_icmp .eq 8, 3) := by decide +kernel
theorem d_R_maySet_41 : decode prog_12_method_66_code 41 = .ok (.iload_n 1, 1) := by decide +kernel
theorem d_R_maySet_42 : decode prog_12_method_66_code 42 = .ok (.iconst 4, 1) := by decide +kernel
theorem d_R_maySet_43 : decode prog_12_method_66_code 43 = .ok (.if_icmp .ne 7, 3) := by decide +kernel
theorem d_R_maySet_46 : decode prog_12_method_66_code 46 = .ok (.iconst 1, 1) := by decide +kernel
theorem d_R_maySet_47 : decode prog_12_method_66_code 47 = .ok (.goto 4, 3) := by decide +kernel
theorem d_R_maySet_50 : decode prog_12_method_66_code 50 = .ok (.iconst 0, 1) := by decide +kernel
theorem d_R_maySet_51 : decode prog_12_method_66_code 51 = .ok (.ireturn, 1) := by decide +kernel
def B_R_maySet (_ : Nat × Nat) : PS :=
  (sRz (eC (cO (cO (cA (e1 (fun x : Int32 => decide (x = 0)) (eI 0)) (e1 (fun x : Int32 => decide (¬ x = 0)) (eX .int (xS 3 X_R_in (aC .long (e1 (fun x : Int32 => x.toInt64) (eI 1)) (aC .long (eV (0 : Int64)) (aC .long (eV (8 : Int64)) aN))))))) (cA (e2 (fun x y : Int32 => decide (x = y)) (eI 0) (eV (1 : Int32))) (e1 (fun x : Int32 => decide (¬ x = 0)) (eX .int (xS 3 X_R_in (aC .long (e1 (fun x : Int32 => x.toInt64) (eI 1)) (aC .long (eV (0 : Int64)) (aC .long (eV (1 : Int64)) aN)))))))) (cA (e2 (fun x y : Int32 => decide (x = y)) (eI 0) (eV (2 : Int32))) (cO (e2 (fun x y : Int32 => decide (x = y)) (eI 1) (eV (2 : Int32))) (e2 (fun x y : Int32 => decide (x = y)) (eI 1) (eV (4 : Int32))))))))
def X_R_maySet : PM := fun vs h Q => (lx vs).length ≤ 2 ∧ B_R_maySet (h.length + 0, hsz h + 0) (fun _ _ => False) (fun _ _ => False) (fun _ _ => False) Q (lini 2 vs) h
theorem v_R_maySet (l : Launch) : Ctr l y_R_maySet prog_12_method_66_code 2 (some .boolean) rm_R_maySet X_R_maySet := by
  refine Ctr_of (own := "PackLanesModel") (B := B_R_maySet) (KR := fun _ Q => Q) (by decide) rfl (fun _ _ _ z => z) (fun _ _ _ _ z => ⟨Or.inl ⟨rfl, rfl⟩, z⟩) (Or.inr (Or.inr (Or.inl rfl))) (fun κ hl ho hR hrt hn0 => ?_)
  subst hl
  unfold B_R_maySet
  exact (S_rz hrt (pc1 := 51) (E_C (pT := 46) (pF := 50) (pc2 := 51) (C_or (pc1 := 31) (C_or (pc1 := 16) (C_and (pc1 := 4) (J1_eq (pF := 16) (pc2 := 1) (E_iln d_R_maySet_0 rfl) d_R_maySet_1 rfl) (T1_ne (pT := 46) (pc2 := 13) (E_x (O_S k_R_103 (v_R_in _) ⟨rfl, rfl⟩ ho (rk hR rfl) (by decide) (pc2 := 10) (A_c catL (pc1 := 6) (E_i2l (pc1 := 5) (E_iln d_R_maySet_4 rfl) d_R_maySet_5) (A_c catL (pc1 := 7) (E_lc d_R_maySet_6 rfl) (A_c catL (pc1 := 10) (E_ldc2 ho w_cl_R_123 d_R_maySet_7) A_n))) d_R_maySet_10)) d_R_maySet_13 rfl)) (C_and (pc1 := 21) (J2_eq (pF := 31) (pc1 := 17) (pc2 := 18) (E_iln d_R_maySet_16 rfl) (E_ic d_R_maySet_17 rfl) d_R_maySet_18 rfl) (T1_ne (pT := 46) (pc2 := 28) (E_x (O_S k_R_103 (v_R_in _) ⟨rfl, rfl⟩ ho (rk hR rfl) (by decide) (pc2 := 25) (A_c catL (pc1 := 23) (E_i2l (pc1 := 22) (E_iln d_R_maySet_21 rfl) d_R_maySet_22) (A_c catL (pc1 := 24) (E_lc d_R_maySet_23 rfl) (A_c catL (pc1 := 25) (E_lc d_R_maySet_24 rfl) A_n))) d_R_maySet_25)) d_R_maySet_28 rfl))) (C_and (pc1 := 36) (J2_eq (pF := 50) (pc1 := 32) (pc2 := 33) (E_iln d_R_maySet_31 rfl) (E_ic d_R_maySet_32 rfl) d_R_maySet_33 rfl) (C_or (pc1 := 41) (T2_eq (pT := 46) (pc1 := 37) (pc2 := 38) (E_iln d_R_maySet_36 rfl) (E_ic d_R_maySet_37 rfl) d_R_maySet_38 rfl) (J2_eq (pF := 50) (pc1 := 42) (pc2 := 43) (E_iln d_R_maySet_41 rfl) (E_ic d_R_maySet_42 rfl) d_R_maySet_43 rfl)))) d_R_maySet_46 d_R_maySet_47 rfl d_R_maySet_50 rfl) d_R_maySet_51)
theorem d_R_set_0 : decode prog_12_method_67_code 0 = .ok (.iload_n 1, 1) := by decide +kernel
theorem d_R_set_1 : decode prog_12_method_67_code 1 = .ok (.iload_n 2, 1) := by decide +kernel
theorem d_R_set_2 : decode prog_12_method_67_code 2 = .ok (.invokestatic 351, 3) := by decide +kernel
theorem d_R_set_5 : decode prog_12_method_67_code 5 = .ok (.ifCond .ne 6, 3) := by decide +kernel
theorem d_R_set_8 : decode prog_12_method_67_code 8 = .ok (.bipush (-2), 2) := by decide +kernel
theorem d_R_set_10 : decode prog_12_method_67_code 10 = .ok (.ireturn, 1) := by decide +kernel
theorem d_R_set_11 : decode prog_12_method_67_code 11 = .ok (.aload_n 0, 1) := by decide +kernel
theorem d_R_set_12 : decode prog_12_method_67_code 12 = .ok (.invokevirtual 348, 3) := by decide +kernel
theorem d_R_set_15 : decode prog_12_method_67_code 15 = .ok (.aload_n 0, 1) := by decide +kernel
theorem d_R_set_16 : decode prog_12_method_67_code 16 = .ok (.getfield 25, 3) := by decide +kernel
theorem d_R_set_19 : decode prog_12_method_67_code 19 = .ok (.bipush 16, 2) := by decide +kernel
theorem d_R_set_21 : decode prog_12_method_67_code 21 = .ok (.iload_n 1, 1) := by decide +kernel
theorem d_R_set_22 : decode prog_12_method_67_code 22 = .ok (.iadd, 1) := by decide +kernel
theorem d_R_set_23 : decode prog_12_method_67_code 23 = .ok (.iaload, 1) := by decide +kernel
theorem d_R_set_24 : decode prog_12_method_67_code 24 = .ok (.istore_n 3, 1) := by decide +kernel
theorem d_R_set_25 : decode prog_12_method_67_code 25 = .ok (.aload_n 0, 1) := by decide +kernel
theorem d_R_set_26 : decode prog_12_method_67_code 26 = .ok (.getfield 25, 3) := by decide +kernel
theorem d_R_set_29 : decode prog_12_method_67_code 29 = .ok (.bipush 16, 2) := by decide +kernel
theorem d_R_set_31 : decode prog_12_method_67_code 31 = .ok (.iload_n 1, 1) := by decide +kernel
theorem d_R_set_32 : decode prog_12_method_67_code 32 = .ok (.iadd, 1) := by decide +kernel
theorem d_R_set_33 : decode prog_12_method_67_code 33 = .ok (.iload_n 2, 1) := by decide +kernel
theorem d_R_set_34 : decode prog_12_method_67_code 34 = .ok (.iastore, 1) := by decide +kernel
theorem d_R_set_35 : decode prog_12_method_67_code 35 = .ok (.iload_n 3, 1) := by decide +kernel
theorem d_R_set_36 : decode prog_12_method_67_code 36 = .ok (.ireturn, 1) := by decide +kernel
def B_R_set (_ : Nat × Nat) : PS :=
  (sSq (sIf (cN (e1 (fun x : Int32 => decide (¬ x = 0)) (eX .int (xS 2 X_R_maySet (aC .int (eI 1) (aC .int (eI 2) aN)))))) (sRt .int (eV (-2 : Int32))) sSk)
    (sSq (sX (xV 10 0 X_R_note (eR 0) aN))
    (sSq (sI 3 (eAI (eFR 10 7 (eR 0)) (e2 (fun x y : Int32 => x + y) (eV (16 : Int32)) (eI 1))))
    (sSq (sAI (eFR 10 7 (eR 0)) (e2 (fun x y : Int32 => x + y) (eV (16 : Int32)) (eI 1)) (eI 2))
    (sRt .int (eI 3))))))
def X_R_set : PM := fun vs h Q => (lx vs).length ≤ 4 ∧ B_R_set (h.length + 0, hsz h + 0) (fun _ _ => False) (fun _ _ => False) (fun _ _ => False) Q (lini 4 vs) h
theorem v_R_set (l : Launch) : Ctr l y_R_set prog_12_method_67_code 4 (some .int) rm_R_set X_R_set := by
  refine Ctr_of (own := "PackLanesModel") (B := B_R_set) (KR := fun _ Q => Q) (by decide) rfl (fun _ _ _ z => z) (fun _ _ _ _ z => ⟨Or.inl ⟨rfl, rfl⟩, z⟩) (Or.inr (Or.inl rfl)) (fun κ hl ho hR hrt hn0 => ?_)
  subst hl
  unfold B_R_set
  exact (S_sq (pc1 := 11) (S_if1 (pT := 8) (pF := 11) (C_not (T1_ne (pT := 11) (pc2 := 5) (E_x (O_S k_R_351 (v_R_maySet _) ⟨rfl, rfl⟩ ho (rk hR rfl) (by decide) (pc2 := 2) (A_c catI (pc1 := 1) (E_iln d_R_set_0 rfl) (A_c catI (pc1 := 2) (E_iln d_R_set_1 rfl) A_n)) d_R_set_2)) d_R_set_5 rfl)) (S_ri hrt (pc1 := 10) (E_bi d_R_set_8 rfl) d_R_set_10))
    (S_sq (pc1 := 15) (S_X (O_V k_R_348 (v_R_note _) ⟨rfl, rfl⟩ ho (rk hR rfl) (by decide) (T := KT10) (N := 50) rfl (by decide) (pc1 := 12) (pc2 := 12) (E_aln d_R_set_11 rfl) A_n d_R_set_12))
    (S_sq (pc1 := 25) (S_In (pc1 := 24) (E_aI (pc1 := 19) (pc2 := 23) (E_fR f_R_25 ho (pc1 := 16) (E_aln d_R_set_15 rfl) d_R_set_16) (E_iadd (pc1 := 21) (pc2 := 22) (E_bi d_R_set_19 rfl) (E_iln d_R_set_21 rfl) d_R_set_22) d_R_set_23) d_R_set_24 rfl)
    (S_sq (pc1 := 35) (S_AI (pc1 := 29) (pc2 := 33) (pc3 := 34) (E_fR f_R_25 ho (pc1 := 26) (E_aln d_R_set_25 rfl) d_R_set_26) (E_iadd (pc1 := 31) (pc2 := 32) (E_bi d_R_set_29 rfl) (E_iln d_R_set_31 rfl) d_R_set_32) (E_iln d_R_set_33 rfl) d_R_set_34)
    (S_ri hrt (pc1 := 36) (E_iln d_R_set_35 rfl) d_R_set_36)))))
theorem d_R_undo_0 : decode prog_12_method_68_code 0 = .ok (.aload_n 0, 1) := by decide +kernel
theorem d_R_undo_1 : decode prog_12_method_68_code 1 = .ok (.getfield 173, 3) := by decide +kernel
theorem d_R_undo_4 : decode prog_12_method_68_code 4 = .ok (.ifCond .ne 6, 3) := by decide +kernel
theorem d_R_undo_7 : decode prog_12_method_68_code 7 = .ok (.bipush (-3), 2) := by decide +kernel
theorem d_R_undo_9 : decode prog_12_method_68_code 9 = .ok (.ireturn, 1) := by decide +kernel
theorem d_R_undo_10 : decode prog_12_method_68_code 10 = .ok (.aload_n 0, 1) := by decide +kernel
theorem d_R_undo_11 : decode prog_12_method_68_code 11 = .ok (.dup, 1) := by decide +kernel
theorem d_R_undo_12 : decode prog_12_method_68_code 12 = .ok (.getfield 173, 3) := by decide +kernel
theorem d_R_undo_15 : decode prog_12_method_68_code 15 = .ok (.iconst 1, 1) := by decide +kernel
theorem d_R_undo_16 : decode prog_12_method_68_code 16 = .ok (.isub, 1) := by decide +kernel
theorem d_R_undo_17 : decode prog_12_method_68_code 17 = .ok (.putfield 173, 3) := by decide +kernel
theorem d_R_undo_20 : decode prog_12_method_68_code 20 = .ok (.aload_n 0, 1) := by decide +kernel
theorem d_R_undo_21 : decode prog_12_method_68_code 21 = .ok (.aload_n 0, 1) := by decide +kernel
theorem d_R_undo_22 : decode prog_12_method_68_code 22 = .ok (.getfield 341, 3) := by decide +kernel
theorem d_R_undo_25 : decode prog_12_method_68_code 25 = .ok (.bipush 14, 2) := by decide +kernel
theorem d_R_undo_27 : decode prog_12_method_68_code 27 = .ok (.iadd, 1) := by decide +kernel
theorem d_R_undo_28 : decode prog_12_method_68_code 28 = .ok (.iconst 1, 1) := by decide +kernel
theorem d_R_undo_29 : decode prog_12_method_68_code 29 = .ok (.isub, 1) := by decide +kernel
theorem d_R_undo_30 : decode prog_12_method_68_code 30 = .ok (.bipush 14, 2) := by decide +kernel
theorem d_R_undo_32 : decode prog_12_method_68_code 32 = .ok (.irem, 1) := by decide +kernel
theorem d_R_undo_33 : decode prog_12_method_68_code 33 = .ok (.putfield 341, 3) := by decide +kernel
theorem d_R_undo_36 : decode prog_12_method_68_code 36 = .ok (.iconst 0, 1) := by decide +kernel
theorem d_R_undo_37 : decode prog_12_method_68_code 37 = .ok (.istore_n 1, 1) := by decide +kernel
theorem d_R_undo_38 : decode prog_12_method_68_code 38 = .ok (.iload_n 1, 1) := by decide +kernel
theorem d_R_undo_39 : decode prog_12_method_68_code 39 = .ok (.bipush 19, 2) := by decide +kernel
theorem d_R_undo_41 : decode prog_12_method_68_code 41 = .ok (.if_icmp .ge 29, 3) := by decide +kernel
theorem d_R_undo_44 : decode prog_12_method_68_code 44 = .ok (.aload_n 0, 1) := by decide +kernel
theorem d_R_undo_45 : decode prog_12_method_68_code 45 = .ok (.getfield 25, 3) := by decide +kernel
theorem d_R_undo_48 : decode prog_12_method_68_code 48 = .ok (.iload_n 1, 1) := by decide +kernel
theorem d_R_undo_49 : decode prog_12_method_68_code 49 = .ok (.aload_n 0, 1) := by decide +kernel
theorem d_R_undo_50 : decode prog_12_method_68_code 50 = .ok (.getfield 31, 3) := by decide +kernel
theorem d_R_undo_53 : decode prog_12_method_68_code 53 = .ok (.bipush 19, 2) := by decide +kernel
theorem d_R_undo_55 : decode prog_12_method_68_code 55 = .ok (.aload_n 0, 1) := by decide +kernel
theorem d_R_undo_56 : decode prog_12_method_68_code 56 = .ok (.getfield 341, 3) := by decide +kernel
theorem d_R_undo_59 : decode prog_12_method_68_code 59 = .ok (.imul, 1) := by decide +kernel
theorem d_R_undo_60 : decode prog_12_method_68_code 60 = .ok (.iload_n 1, 1) := by decide +kernel
theorem d_R_undo_61 : decode prog_12_method_68_code 61 = .ok (.iadd, 1) := by decide +kernel
theorem d_R_undo_62 : decode prog_12_method_68_code 62 = .ok (.iaload, 1) := by decide +kernel
theorem d_R_undo_63 : decode prog_12_method_68_code 63 = .ok (.iastore, 1) := by decide +kernel
theorem d_R_undo_64 : decode prog_12_method_68_code 64 = .ok (.iinc 1 1, 3) := by decide +kernel
theorem d_R_undo_67 : decode prog_12_method_68_code 67 = .ok (.goto (-29), 3) := by decide +kernel
theorem d_R_undo_70 : decode prog_12_method_68_code 70 = .ok (.aload_n 0, 1) := by decide +kernel
theorem d_R_undo_71 : decode prog_12_method_68_code 71 = .ok (.getfield 173, 3) := by decide +kernel
theorem d_R_undo_74 : decode prog_12_method_68_code 74 = .ok (.ireturn, 1) := by decide +kernel
def B_R_undo (_ : Nat × Nat) : PS :=
  (sSq (sIf (e1 (fun x : Int32 => decide (x = 0)) (eFI 10 10 (eR 0))) (sRt .int (eV (-3 : Int32))) sSk)
    (sSq (sFO 10 10 (fun x y : Int32 => x - y) (eR 0) (eV (1 : Int32)))
    (sSq (sF .int 10 11 (eR 0) (eDI (fun x y : Int32 => x - x / y * y) (e2 (fun x y : Int32 => x - y) (e2 (fun x y : Int32 => x + y) (eFI 10 11 (eR 0)) (eV (14 : Int32))) (eV (1 : Int32))) (eV (14 : Int32))))
    (sSq (sCut 1 (sSq (sI 1 (eV (0 : Int32)))
    (sLp 2 (e2 (fun x y : Int32 => decide (x < y)) (eI 1) (eV (19 : Int32)))
    (sAI (eFR 10 7 (eR 0)) (eI 1) (eAI (eFR 10 9 (eR 0)) (e2 (fun x y : Int32 => x + y) (e2 (fun x y : Int32 => x * y) (eV (19 : Int32)) (eFI 10 11 (eR 0))) (eI 1))))
    (sInc 1 (1)))))
    (sRt .int (eFI 10 10 (eR 0)))))))
def X_R_undo : PM := fun vs h Q => (lx vs).length ≤ 2 ∧ B_R_undo (h.length + 0, hsz h + 0) (fun _ _ => False) (fun _ _ => False) (fun _ _ => False) Q (lini 2 vs) h
theorem v_R_undo (l : Launch) : Ctr l y_R_undo prog_12_method_68_code 2 (some .int) rm_R_undo X_R_undo := by
  refine Ctr_of (own := "PackLanesModel") (B := B_R_undo) (KR := fun _ Q => Q) (by decide) rfl (fun _ _ _ z => z) (fun _ _ _ _ z => ⟨Or.inl ⟨rfl, rfl⟩, z⟩) (Or.inr (Or.inl rfl)) (fun κ hl ho hR hrt hn0 => ?_)
  subst hl
  unfold B_R_undo
  exact (S_sq (pc1 := 10) (S_if1 (pT := 7) (pF := 10) (J1_eq (pF := 10) (pc2 := 4) (E_fI f_R_173 ho (pc1 := 1) (E_aln d_R_undo_0 rfl) d_R_undo_1) d_R_undo_4 rfl) (S_ri hrt (pc1 := 9) (E_bi d_R_undo_7 rfl) d_R_undo_9))
    (S_sq (pc1 := 20) (S_FO f_R_173 f_R_173 ho (pc1 := 11) (pc2 := 16) (E_aln d_R_undo_10 rfl) d_R_undo_11 d_R_undo_12 (E_ic d_R_undo_15 rfl) (fun _ _ _ _ _ k => r_isub d_R_undo_16 k) d_R_undo_17)
    (S_sq (pc1 := 36) (S_FI f_R_341 ho (pc1 := 21) (pc2 := 33) (E_aln d_R_undo_20 rfl) (E_irem (pc1 := 30) (pc2 := 32) (E_isub (pc1 := 28) (pc2 := 29) (E_iadd (pc1 := 25) (pc2 := 27) (E_fI f_R_341 ho (pc1 := 22) (E_aln d_R_undo_21 rfl) d_R_undo_22) (E_bi d_R_undo_25 rfl) d_R_undo_27) (E_ic d_R_undo_28 rfl) d_R_undo_29) (E_bi d_R_undo_30 rfl) d_R_undo_32) d_R_undo_33)
    (S_sq (pc1 := 70) (S_cut (S_sq (pc1 := 38) (S_In (pc1 := 37) (E_ic d_R_undo_36 rfl) d_R_undo_37 rfl)
    (S_lp (pT := 44) (pF := 70) (pS := 64) (pG := 67) (J2_lt (pF := 70) (pc1 := 39) (pc2 := 41) (E_iln d_R_undo_38 rfl) (E_bi d_R_undo_39 rfl) d_R_undo_41 rfl)
    (S_AI (pc1 := 48) (pc2 := 49) (pc3 := 63) (E_fR f_R_25 ho (pc1 := 45) (E_aln d_R_undo_44 rfl) d_R_undo_45) (E_iln d_R_undo_48 rfl) (E_aI (pc1 := 53) (pc2 := 62) (E_fR f_R_31 ho (pc1 := 50) (E_aln d_R_undo_49 rfl) d_R_undo_50) (E_iadd (pc1 := 60) (pc2 := 61) (E_imul (pc1 := 55) (pc2 := 59) (E_bi d_R_undo_53 rfl) (E_fI f_R_341 ho (pc1 := 56) (E_aln d_R_undo_55 rfl) d_R_undo_56) d_R_undo_59) (E_iln d_R_undo_60 rfl) d_R_undo_61) d_R_undo_62) d_R_undo_63)
    (S_Inc d_R_undo_64 rfl) d_R_undo_67 rfl)))
    (S_ri hrt (pc1 := 74) (E_fI f_R_173 ho (pc1 := 71) (E_aln d_R_undo_70 rfl) d_R_undo_71) d_R_undo_74)))))
theorem d_R_tried_0 : decode prog_12_method_69_code 0 = .ok (.iload_n 1, 1) := by decide +kernel
theorem d_R_tried_1 : decode prog_12_method_69_code 1 = .ok (.i2l, 1) := by decide +kernel
theorem d_R_tried_2 : decode prog_12_method_69_code 2 = .ok (.lconst 0, 1) := by decide +kernel
theorem d_R_tried_3 : decode prog_12_method_69_code 3 = .ok (.lconst 1, 1) := by decide +kernel
theorem d_R_tried_4 : decode prog_12_method_69_code 4 = .ok (.invokestatic 103, 3) := by decide +kernel
theorem d_R_tried_7 : decode prog_12_method_69_code 7 = .ok (.ifCond .eq 23, 3) := by decide +kernel
theorem d_R_tried_10 : decode prog_12_method_69_code 10 = .ok (.iload_n 2, 1) := by decide +kernel
theorem d_R_tried_11 : decode prog_12_method_69_code 11 = .ok (.i2l, 1) := by decide +kernel
theorem d_R_tried_12 : decode prog_12_method_69_code 12 = .ok (.lconst 0, 1) := by decide +kernel
theorem d_R_tried_13 : decode prog_12_method_69_code 13 = .ok (.bipush 8, 2) := by decide +kernel
theorem d_R_tried_15 : decode prog_12_method_69_code 15 = .ok (.aload_n 0, 1) := by decide +kernel
theorem d_R_tried_16 : decode prog_12_method_69_code 16 = .ok (.getfield 25, 3) := by decide +kernel
theorem d_R_tried_19 : decode prog_12_method_69_code 19 = .ok (.bipush 18, 2) := by decide +kernel
theorem d_R_tried_21 : decode prog_12_method_69_code 21 = .ok (.iaload, 1) := by decide +kernel
theorem d_R_tried_22 : decode prog_12_method_69_code 22 = .ok (.isub, 1) := by decide +kernel
theorem d_R_tried_23 : decode prog_12_method_69_code 23 = .ok (.i2l, 1) := by decide +kernel
theorem d_R_tried_24 : decode prog_12_method_69_code 24 = .ok (.invokestatic 103, 3) := by decide +kernel
theorem d_R_tried_27 : decode prog_12_method_69_code 27 = .ok (.ifCond .ne 6, 3) := by decide +kernel
theorem d_R_tried_30 : decode prog_12_method_69_code 30 = .ok (.bipush (-2), 2) := by decide +kernel
theorem d_R_tried_32 : decode prog_12_method_69_code 32 = .ok (.ireturn, 1) := by decide +kernel
theorem d_R_tried_33 : decode prog_12_method_69_code 33 = .ok (.aload_n 0, 1) := by decide +kernel
theorem d_R_tried_34 : decode prog_12_method_69_code 34 = .ok (.aload_n 0, 1) := by decide +kernel
theorem d_R_tried_35 : decode prog_12_method_69_code 35 = .ok (.getfield 25, 3) := by decide +kernel
theorem d_R_tried_38 : decode prog_12_method_69_code 38 = .ok (.iconst 0, 1) := by decide +kernel
theorem d_R_tried_39 : decode prog_12_method_69_code 39 = .ok (.invokevirtual 265, 3) := by decide +kernel
theorem d_R_tried_42 : decode prog_12_method_69_code 42 = .ok (.aload_n 0, 1) := by decide +kernel
theorem d_R_tried_43 : decode prog_12_method_69_code 43 = .ok (.iload_n 1, 1) := by decide +kernel
theorem d_R_tried_44 : decode prog_12_method_69_code 44 = .ok (.iload_n 2, 1) := by decide +kernel
theorem d_R_tried_45 : decode prog_12_method_69_code 45 = .ok (.invokevirtual 269, 3) := by decide +kernel
theorem d_R_tried_48 : decode prog_12_method_69_code 48 = .ok (.ifCond .ne 6, 3) := by decide +kernel
theorem d_R_tried_51 : decode prog_12_method_69_code 51 = .ok (.bipush (-9), 2) := by decide +kernel
theorem d_R_tried_53 : decode prog_12_method_69_code 53 = .ok (.ireturn, 1) := by decide +kernel
theorem d_R_tried_54 : decode prog_12_method_69_code 54 = .ok (.aload_n 0, 1) := by decide +kernel
theorem d_R_tried_55 : decode prog_12_method_69_code 55 = .ok (.invokevirtual 272, 3) := by decide +kernel
theorem d_R_tried_58 : decode prog_12_method_69_code 58 = .ok (.aload_n 0, 1) := by decide +kernel
theorem d_R_tried_59 : decode prog_12_method_69_code 59 = .ok (.invokevirtual 275, 3) := by decide +kernel
theorem d_R_tried_62 : decode prog_12_method_69_code 62 = .ok (.bipush 100, 2) := by decide +kernel
theorem d_R_tried_64 : decode prog_12_method_69_code 64 = .ok (.iadd, 1) := by decide +kernel
theorem d_R_tried_65 : decode prog_12_method_69_code 65 = .ok (.ireturn, 1) := by decide +kernel
def B_R_tried (_ : Nat × Nat) : PS :=
  (sSq (sIf (cO (cN (e1 (fun x : Int32 => decide (¬ x = 0)) (eX .int (xS 3 X_R_in (aC .long (e1 (fun x : Int32 => x.toInt64) (eI 1)) (aC .long (eV (0 : Int64)) (aC .long (eV (1 : Int64)) aN))))))) (cN (e1 (fun x : Int32 => decide (¬ x = 0)) (eX .int (xS 3 X_R_in (aC .long (e1 (fun x : Int32 => x.toInt64) (eI 2)) (aC .long (eV (0 : Int64)) (aC .long (e1 (fun x : Int32 => x.toInt64) (e2 (fun x y : Int32 => x - y) (eV (8 : Int32)) (eAI (eFR 10 7 (eR 0)) (eV (18 : Int32))))) aN)))))))) (sRt .int (eV (-2 : Int32))) sSk)
    (sSq (sX (xV 10 2 X_R_nothingKept (eR 0) (aC .ref (eFR 10 7 (eR 0)) (aC .int (eV (0 : Int32)) aN))))
    (sSq (sIf (cN (e1 (fun x : Int32 => decide (¬ x = 0)) (eX .int (xV 10 2 X_R_laySeed (eR 0) (aC .int (eI 1) (aC .int (eI 2) aN)))))) (sRt .int (eV (-9 : Int32))) sSk)
    (sSq (sX (xV 10 0 X_R_grow (eR 0) aN))
    (sRt .int (e2 (fun x y : Int32 => x + y) (eX .int (xV 10 0 X_R_gainOfTree (eR 0) aN)) (eV (100 : Int32))))))))
def X_R_tried : PM := fun vs h Q => (lx vs).length ≤ 3 ∧ B_R_tried (h.length + 0, hsz h + 0) (fun _ _ => False) (fun _ _ => False) (fun _ _ => False) Q (lini 3 vs) h
theorem v_R_tried (l : Launch) : Ctr l y_R_tried prog_12_method_69_code 3 (some .int) rm_R_tried X_R_tried := by
  refine Ctr_of (own := "PackLanesModel") (B := B_R_tried) (KR := fun _ Q => Q) (by decide) rfl (fun _ _ _ z => z) (fun _ _ _ _ z => ⟨Or.inl ⟨rfl, rfl⟩, z⟩) (Or.inr (Or.inl rfl)) (fun κ hl ho hR hrt hn0 => ?_)
  subst hl
  unfold B_R_tried
  exact (S_sq (pc1 := 33) (S_if1 (pT := 30) (pF := 33) (C_or (pc1 := 10) (C_not (J1_ne (pF := 30) (pc2 := 7) (E_x (O_S k_R_103 (v_R_in _) ⟨rfl, rfl⟩ ho (rk hR rfl) (by decide) (pc2 := 4) (A_c catL (pc1 := 2) (E_i2l (pc1 := 1) (E_iln d_R_tried_0 rfl) d_R_tried_1) (A_c catL (pc1 := 3) (E_lc d_R_tried_2 rfl) (A_c catL (pc1 := 4) (E_lc d_R_tried_3 rfl) A_n))) d_R_tried_4)) d_R_tried_7 rfl)) (C_not (T1_ne (pT := 33) (pc2 := 27) (E_x (O_S k_R_103 (v_R_in _) ⟨rfl, rfl⟩ ho (rk hR rfl) (by decide) (pc2 := 24) (A_c catL (pc1 := 12) (E_i2l (pc1 := 11) (E_iln d_R_tried_10 rfl) d_R_tried_11) (A_c catL (pc1 := 13) (E_lc d_R_tried_12 rfl) (A_c catL (pc1 := 24) (E_i2l (pc1 := 23) (E_isub (pc1 := 15) (pc2 := 22) (E_bi d_R_tried_13 rfl) (E_aI (pc1 := 19) (pc2 := 21) (E_fR f_R_25 ho (pc1 := 16) (E_aln d_R_tried_15 rfl) d_R_tried_16) (E_bi d_R_tried_19 rfl) d_R_tried_21) d_R_tried_22) d_R_tried_23) A_n))) d_R_tried_24)) d_R_tried_27 rfl))) (S_ri hrt (pc1 := 32) (E_bi d_R_tried_30 rfl) d_R_tried_32))
    (S_sq (pc1 := 42) (S_X (O_V k_R_265 (v_R_nothingKept _) ⟨rfl, rfl⟩ ho (rk hR rfl) (by decide) (T := KT10) (N := 50) rfl (by decide) (pc1 := 34) (pc2 := 39) (E_aln d_R_tried_33 rfl) (A_c catR (pc1 := 38) (E_fR f_R_25 ho (pc1 := 35) (E_aln d_R_tried_34 rfl) d_R_tried_35) (A_c catI (pc1 := 39) (E_ic d_R_tried_38 rfl) A_n)) d_R_tried_39))
    (S_sq (pc1 := 54) (S_if1 (pT := 51) (pF := 54) (C_not (T1_ne (pT := 54) (pc2 := 48) (E_x (O_V k_R_269 (v_R_laySeed _) ⟨rfl, rfl⟩ ho (rk hR rfl) (by decide) (T := KT10) (N := 50) rfl (by decide) (pc1 := 43) (pc2 := 45) (E_aln d_R_tried_42 rfl) (A_c catI (pc1 := 44) (E_iln d_R_tried_43 rfl) (A_c catI (pc1 := 45) (E_iln d_R_tried_44 rfl) A_n)) d_R_tried_45)) d_R_tried_48 rfl)) (S_ri hrt (pc1 := 53) (E_bi d_R_tried_51 rfl) d_R_tried_53))
    (S_sq (pc1 := 58) (S_X (O_V k_R_272 (v_R_grow _) ⟨rfl, rfl⟩ ho (rk hR rfl) (by decide) (T := KT10) (N := 50) rfl (by decide) (pc1 := 55) (pc2 := 55) (E_aln d_R_tried_54 rfl) A_n d_R_tried_55))
    (S_ri hrt (pc1 := 65) (E_iadd (pc1 := 62) (pc2 := 64) (E_x (O_V k_R_275 (v_R_gainOfTree _) ⟨rfl, rfl⟩ ho (rk hR rfl) (by decide) (T := KT10) (N := 50) rfl (by decide) (pc1 := 59) (pc2 := 59) (E_aln d_R_tried_58 rfl) A_n d_R_tried_59)) (E_bi d_R_tried_62 rfl) d_R_tried_64) d_R_tried_65)))))
theorem d_R_isDependent_0 : decode prog_12_method_70_code 0 = .ok (.aload_n 0, 1) := by decide +kernel
theorem d_R_isDependent_1 : decode prog_12_method_70_code 1 = .ok (.iload_n 1, 1) := by decide +kernel
theorem d_R_isDependent_2 : decode prog_12_method_70_code 2 = .ok (.invokevirtual 332, 3) := by decide +kernel
theorem d_R_isDependent_5 : decode prog_12_method_70_code 5 = .ok (.ifCond .eq 11, 3) := by decide +kernel
theorem d_R_isDependent_8 : decode prog_12_method_70_code 8 = .ok (.aload_n 0, 1) := by decide +kernel
theorem d_R_isDependent_9 : decode prog_12_method_70_code 9 = .ok (.iload_n 2, 1) := by decide +kernel
theorem d_R_isDependent_10 : decode prog_12_method_70_code 10 = .ok (.invokevirtual 332, 3) := by decide +kernel
theorem d_R_isDependent_13 : decode prog_12_method_70_code 13 = .ok (.ifCond .ne 5, 3) := by decide +kernel
theorem d_R_isDependent_16 : decode prog_12_method_70_code 16 = .ok (.iconst 0, 1) := by decide +kernel
theorem d_R_isDependent_17 : decode prog_12_method_70_code 17 = .ok (.ireturn, 1) := by decide +kernel
theorem d_R_isDependent_18 : decode prog_12_method_70_code 18 = .ok (.aload_n 0, 1) := by decide +kernel
theorem d_R_isDependent_19 : decode prog_12_method_70_code 19 = .ok (.aload_n 0, 1) := by decide +kernel
theorem d_R_isDependent_20 : decode prog_12_method_70_code 20 = .ok (.getfield 28, 3) := by decide +kernel
theorem d_R_isDependent_23 : decode prog_12_method_70_code 23 = .ok (.iconst 0, 1) := by decide +kernel
theorem d_R_isDependent_24 : decode prog_12_method_70_code 24 = .ok (.invokevirtual 265, 3) := by decide +kernel
theorem d_R_isDependent_27 : decode prog_12_method_70_code 27 = .ok (.aload_n 0, 1) := by decide +kernel
theorem d_R_isDependent_28 : decode prog_12_method_70_code 28 = .ok (.getfield 50, 3) := by decide +kernel
theorem d_R_isDependent_31 : decode prog_12_method_70_code 31 = .ok (.iload_n 2, 1) := by decide +kernel
theorem d_R_isDependent_32 : decode prog_12_method_70_code 32 = .ok (.iaload, 1) := by decide +kernel
theorem d_R_isDependent_33 : decode prog_12_method_70_code 33 = .ok (.iload_n 1, 1) := by decide +kernel
theorem d_R_isDependent_34 : decode prog_12_method_70_code 34 = .ok (.invokestatic 190, 3) := by decide +kernel
theorem d_R_isDependent_37 : decode prog_12_method_70_code 37 = .ok (.ireturn, 1) := by decide +kernel
def B_R_isDependent (_ : Nat × Nat) : PS :=
  (sSq (sIf (cO (cN (e1 (fun x : Int32 => decide (¬ x = 0)) (eX .int (xV 10 1 X_R_isThere (eR 0) (aC .int (eI 1) aN))))) (cN (e1 (fun x : Int32 => decide (¬ x = 0)) (eX .int (xV 10 1 X_R_isThere (eR 0) (aC .int (eI 2) aN)))))) (sRz (eV (0 : Int32))) sSk)
    (sSq (sX (xV 10 2 X_R_nothingKept (eR 0) (aC .ref (eFR 10 8 (eR 0)) (aC .int (eV (0 : Int32)) aN))))
    (sRz (eX .int (xS 2 X_R_has (aC .int (eAI (eFR 10 21 (eR 0)) (eI 2)) (aC .int (eI 1) aN)))))))
def X_R_isDependent : PM := fun vs h Q => (lx vs).length ≤ 3 ∧ B_R_isDependent (h.length + 0, hsz h + 0) (fun _ _ => False) (fun _ _ => False) (fun _ _ => False) Q (lini 3 vs) h
theorem v_R_isDependent (l : Launch) : Ctr l y_R_isDependent prog_12_method_70_code 3 (some .boolean) rm_R_isDependent X_R_isDependent := by
  refine Ctr_of (own := "PackLanesModel") (B := B_R_isDependent) (KR := fun _ Q => Q) (by decide) rfl (fun _ _ _ z => z) (fun _ _ _ _ z => ⟨Or.inl ⟨rfl, rfl⟩, z⟩) (Or.inr (Or.inr (Or.inl rfl))) (fun κ hl ho hR hrt hn0 => ?_)
  subst hl
  unfold B_R_isDependent
  exact (S_sq (pc1 := 18) (S_if1 (pT := 16) (pF := 18) (C_or (pc1 := 8) (C_not (J1_ne (pF := 16) (pc2 := 5) (E_x (O_V k_R_332 (v_R_isThere _) ⟨rfl, rfl⟩ ho (rk hR rfl) (by decide) (T := KT10) (N := 50) rfl (by decide) (pc1 := 1) (pc2 := 2) (E_aln d_R_isDependent_0 rfl) (A_c catI (pc1 := 2) (E_iln d_R_isDependent_1 rfl) A_n) d_R_isDependent_2)) d_R_isDependent_5 rfl)) (C_not (T1_ne (pT := 18) (pc2 := 13) (E_x (O_V k_R_332 (v_R_isThere _) ⟨rfl, rfl⟩ ho (rk hR rfl) (by decide) (T := KT10) (N := 50) rfl (by decide) (pc1 := 9) (pc2 := 10) (E_aln d_R_isDependent_8 rfl) (A_c catI (pc1 := 10) (E_iln d_R_isDependent_9 rfl) A_n) d_R_isDependent_10)) d_R_isDependent_13 rfl))) (S_rz hrt (pc1 := 17) (E_ic d_R_isDependent_16 rfl) d_R_isDependent_17))
    (S_sq (pc1 := 27) (S_X (O_V k_R_265 (v_R_nothingKept _) ⟨rfl, rfl⟩ ho (rk hR rfl) (by decide) (T := KT10) (N := 50) rfl (by decide) (pc1 := 19) (pc2 := 24) (E_aln d_R_isDependent_18 rfl) (A_c catR (pc1 := 23) (E_fR f_R_28 ho (pc1 := 20) (E_aln d_R_isDependent_19 rfl) d_R_isDependent_20) (A_c catI (pc1 := 24) (E_ic d_R_isDependent_23 rfl) A_n)) d_R_isDependent_24))
    (S_rz hrt (pc1 := 37) (E_x (O_S k_R_190 (v_R_has _) ⟨rfl, rfl⟩ ho (rk hR rfl) (by decide) (pc2 := 34) (A_c catI (pc1 := 33) (E_aI (pc1 := 31) (pc2 := 32) (E_fR f_R_50 ho (pc1 := 28) (E_aln d_R_isDependent_27 rfl) d_R_isDependent_28) (E_iln d_R_isDependent_31 rfl) d_R_isDependent_32) (A_c catI (pc1 := 34) (E_iln d_R_isDependent_33 rfl) A_n)) d_R_isDependent_34)) d_R_isDependent_37)))
theorem d_R_isPackedAs_0 : decode prog_12_method_71_code 0 = .ok (.aload_n 0, 1) := by decide +kernel
theorem d_R_isPackedAs_1 : decode prog_12_method_71_code 1 = .ok (.iload_n 1, 1) := by decide +kernel
theorem d_R_isPackedAs_2 : decode prog_12_method_71_code 2 = .ok (.invokevirtual 332, 3) := by decide +kernel
theorem d_R_isPackedAs_5 : decode prog_12_method_71_code 5 = .ok (.ifCond .eq 8, 3) := by decide +kernel
theorem d_R_isPackedAs_8 : decode prog_12_method_71_code 8 = .ok (.iload_n 2, 1) := by decide +kernel
theorem d_R_isPackedAs_9 : decode prog_12_method_71_code 9 = .ok (.iconst 1, 1) := by decide +kernel
theorem d_R_isPackedAs_10 : decode prog_12_method_71_code 10 = .ok (.if_icmp .le 5, 3) := by decide +kernel
theorem d_R_isPackedAs_13 : decode prog_12_method_71_code 13 = .ok (.iconst 0, 1) := by decide +kernel
theorem d_R_isPackedAs_14 : decode prog_12_method_71_code 14 = .ok (.ireturn, 1) := by decide +kernel
theorem d_R_isPackedAs_15 : decode prog_12_method_71_code 15 = .ok (.aload_n 0, 1) := by decide +kernel
theorem d_R_isPackedAs_16 : decode prog_12_method_71_code 16 = .ok (.aload_n 0, 1) := by decide +kernel
theorem d_R_isPackedAs_17 : decode prog_12_method_71_code 17 = .ok (.getfield 28, 3) := by decide +kernel
theorem d_R_isPackedAs_20 : decode prog_12_method_71_code 20 = .ok (.iconst 0, 1) := by decide +kernel
theorem d_R_isPackedAs_21 : decode prog_12_method_71_code 21 = .ok (.invokevirtual 287, 3) := by decide +kernel
theorem d_R_isPackedAs_24 : decode prog_12_method_71_code 24 = .ok (.aload_n 0, 1) := by decide +kernel
theorem d_R_isPackedAs_25 : decode prog_12_method_71_code 25 = .ok (.getfield 53, 3) := by decide +kernel
theorem d_R_isPackedAs_28 : decode prog_12_method_71_code 28 = .ok (.iload_n 1, 1) := by decide +kernel
theorem d_R_isPackedAs_29 : decode prog_12_method_71_code 29 = .ok (.iaload, 1) := by decide +kernel
theorem d_R_isPackedAs_30 : decode prog_12_method_71_code 30 = .ok (.bipush (-9), 2) := by decide +kernel
theorem d_R_isPackedAs_32 : decode prog_12_method_71_code 32 = .ok (.if_icmp .eq 7, 3) := by decide +kernel
theorem d_R_isPackedAs_35 : decode prog_12_method_71_code 35 = .ok (.iconst 1, 1) := by decide +kernel
theorem d_R_isPackedAs_36 : decode prog_12_method_71_code 36 = .ok (.goto 4, 3) := by decide +kernel
theorem d_R_isPackedAs_39 : decode prog_12_method_71_code 39 = .ok (.iconst 0, 1) := by decide +kernel
theorem d_R_isPackedAs_40 : decode prog_12_method_71_code 40 = .ok (.iload_n 2, 1) := by decide +kernel
theorem d_R_isPackedAs_41 : decode prog_12_method_71_code 41 = .ok (.iconst 1, 1) := by decide +kernel
theorem d_R_isPackedAs_42 : decode prog_12_method_71_code 42 = .ok (.if_icmp .ne 7, 3) := by decide +kernel
theorem d_R_isPackedAs_45 : decode prog_12_method_71_code 45 = .ok (.iconst 1, 1) := by decide +kernel
theorem d_R_isPackedAs_46 : decode prog_12_method_71_code 46 = .ok (.goto 4, 3) := by decide +kernel
theorem d_R_isPackedAs_49 : decode prog_12_method_71_code 49 = .ok (.iconst 0, 1) := by decide +kernel
theorem d_R_isPackedAs_50 : decode prog_12_method_71_code 50 = .ok (.if_icmp .ne 7, 3) := by decide +kernel
theorem d_R_isPackedAs_53 : decode prog_12_method_71_code 53 = .ok (.iconst 1, 1) := by decide +kernel
theorem d_R_isPackedAs_54 : decode prog_12_method_71_code 54 = .ok (.goto 4, 3) := by decide +kernel
theorem d_R_isPackedAs_57 : decode prog_12_method_71_code 57 = .ok (.iconst 0, 1) := by decide +kernel
theorem d_R_isPackedAs_58 : decode prog_12_method_71_code 58 = .ok (.ireturn, 1) := by decide +kernel
def B_R_isPackedAs (_ : Nat × Nat) : PS :=
  (sSq (sIf (cO (cN (e1 (fun x : Int32 => decide (¬ x = 0)) (eX .int (xV 10 1 X_R_isThere (eR 0) (aC .int (eI 1) aN))))) (e2 (fun x y : Int32 => decide (y < x)) (eI 2) (eV (1 : Int32)))) (sRz (eV (0 : Int32))) sSk)
    (sSq (sX (xV 10 2 X_R_pack (eR 0) (aC .ref (eFR 10 8 (eR 0)) (aC .int (eV (0 : Int32)) aN))))
    (sRz (eC (e2 (fun x y : Int32 => decide (x = y)) (eC (e2 (fun x y : Int32 => decide (¬ x = y)) (eAI (eFR 10 22 (eR 0)) (eI 1)) (eV (-9 : Int32)))) (eC (e2 (fun x y : Int32 => decide (x = y)) (eI 2) (eV (1 : Int32)))))))))
def X_R_isPackedAs : PM := fun vs h Q => (lx vs).length ≤ 3 ∧ B_R_isPackedAs (h.length + 0, hsz h + 0) (fun _ _ => False) (fun _ _ => False) (fun _ _ => False) Q (lini 3 vs) h
theorem v_R_isPackedAs (l : Launch) : Ctr l y_R_isPackedAs prog_12_method_71_code 3 (some .boolean) rm_R_isPackedAs X_R_isPackedAs := by
  refine Ctr_of (own := "PackLanesModel") (B := B_R_isPackedAs) (KR := fun _ Q => Q) (by decide) rfl (fun _ _ _ z => z) (fun _ _ _ _ z => ⟨Or.inl ⟨rfl, rfl⟩, z⟩) (Or.inr (Or.inr (Or.inl rfl))) (fun κ hl ho hR hrt hn0 => ?_)
  subst hl
  unfold B_R_isPackedAs
  exact (S_sq (pc1 := 15) (S_if1 (pT := 13) (pF := 15) (C_or (pc1 := 8) (C_not (J1_ne (pF := 13) (pc2 := 5) (E_x (O_V k_R_332 (v_R_isThere _) ⟨rfl, rfl⟩ ho (rk hR rfl) (by decide) (T := KT10) (N := 50) rfl (by decide) (pc1 := 1) (pc2 := 2) (E_aln d_R_isPackedAs_0 rfl) (A_c catI (pc1 := 2) (E_iln d_R_isPackedAs_1 rfl) A_n) d_R_isPackedAs_2)) d_R_isPackedAs_5 rfl)) (J2_gt (pF := 15) (pc1 := 9) (pc2 := 10) (E_iln d_R_isPackedAs_8 rfl) (E_ic d_R_isPackedAs_9 rfl) d_R_isPackedAs_10 rfl)) (S_rz hrt (pc1 := 14) (E_ic d_R_isPackedAs_13 rfl) d_R_isPackedAs_14))
    (S_sq (pc1 := 24) (S_X (O_V k_R_287 (v_R_pack _) ⟨rfl, rfl⟩ ho (rk hR rfl) (by decide) (T := KT10) (N := 50) rfl (by decide) (pc1 := 16) (pc2 := 21) (E_aln d_R_isPackedAs_15 rfl) (A_c catR (pc1 := 20) (E_fR f_R_28 ho (pc1 := 17) (E_aln d_R_isPackedAs_16 rfl) d_R_isPackedAs_17) (A_c catI (pc1 := 21) (E_ic d_R_isPackedAs_20 rfl) A_n)) d_R_isPackedAs_21))
    (S_rz hrt (pc1 := 58) (E_C (pT := 53) (pF := 57) (pc2 := 58) (J2_eq (pF := 57) (pc1 := 40) (pc2 := 50) (E_C (pT := 35) (pF := 39) (pc2 := 40) (J2_ne (pF := 39) (pc1 := 30) (pc2 := 32) (E_aI (pc1 := 28) (pc2 := 29) (E_fR f_R_53 ho (pc1 := 25) (E_aln d_R_isPackedAs_24 rfl) d_R_isPackedAs_25) (E_iln d_R_isPackedAs_28 rfl) d_R_isPackedAs_29) (E_bi d_R_isPackedAs_30 rfl) d_R_isPackedAs_32 rfl) d_R_isPackedAs_35 d_R_isPackedAs_36 rfl d_R_isPackedAs_39 rfl) (E_C (pT := 45) (pF := 49) (pc2 := 50) (J2_eq (pF := 49) (pc1 := 41) (pc2 := 42) (E_iln d_R_isPackedAs_40 rfl) (E_ic d_R_isPackedAs_41 rfl) d_R_isPackedAs_42 rfl) d_R_isPackedAs_45 d_R_isPackedAs_46 rfl d_R_isPackedAs_49 rfl) d_R_isPackedAs_50 rfl) d_R_isPackedAs_53 d_R_isPackedAs_54 rfl d_R_isPackedAs_57 rfl) d_R_isPackedAs_58)))
theorem d_R_judged_0 : decode prog_12_method_72_code 0 = .ok (.iload_n 1, 1) := by decide +kernel
theorem d_R_judged_1 : decode prog_12_method_72_code 1 = .ok (.tableswitch 149 1 6 #[39, 59, 79, 99, 112, 125], 39) := by decide +kernel
theorem d_R_judged_40 : decode prog_12_method_72_code 40 = .ok (.iconst 2, 1) := by decide +kernel
theorem d_R_judged_41 : decode prog_12_method_72_code 41 = .ok (.iload_n 2, 1) := by decide +kernel
theorem d_R_judged_42 : decode prog_12_method_72_code 42 = .ok (.invokestatic 351, 3) := by decide +kernel
theorem d_R_judged_45 : decode prog_12_method_72_code 45 = .ok (.ifCond .ne 5, 3) := by decide +kernel
theorem d_R_judged_48 : decode prog_12_method_72_code 48 = .ok (.iconst 0, 1) := by decide +kernel
theorem d_R_judged_49 : decode prog_12_method_72_code 49 = .ok (.ireturn, 1) := by decide +kernel
theorem d_R_judged_50 : decode prog_12_method_72_code 50 = .ok (.aload_n 0, 1) := by decide +kernel
theorem d_R_judged_51 : decode prog_12_method_72_code 51 = .ok (.getfield 28, 3) := by decide +kernel
theorem d_R_judged_54 : decode prog_12_method_72_code 54 = .ok (.bipush 18, 2) := by decide +kernel
theorem d_R_judged_56 : decode prog_12_method_72_code 56 = .ok (.iload_n 2, 1) := by decide +kernel
theorem d_R_judged_57 : decode prog_12_method_72_code 57 = .ok (.iastore, 1) := by decide +kernel
theorem d_R_judged_58 : decode prog_12_method_72_code 58 = .ok (.iconst 1, 1) := by decide +kernel
theorem d_R_judged_59 : decode prog_12_method_72_code 59 = .ok (.ireturn, 1) := by decide +kernel
theorem d_R_judged_60 : decode prog_12_method_72_code 60 = .ok (.iconst 1, 1) := by decide +kernel
theorem d_R_judged_61 : decode prog_12_method_72_code 61 = .ok (.iload_n 2, 1) := by decide +kernel
theorem d_R_judged_62 : decode prog_12_method_72_code 62 = .ok (.invokestatic 351, 3) := by decide +kernel
theorem d_R_judged_65 : decode prog_12_method_72_code 65 = .ok (.ifCond .ne 5, 3) := by decide +kernel
theorem d_R_judged_68 : decode prog_12_method_72_code 68 = .ok (.iconst 0, 1) := by decide +kernel
theorem d_R_judged_69 : decode prog_12_method_72_code 69 = .ok (.ireturn, 1) := by decide +kernel
theorem d_R_judged_70 : decode prog_12_method_72_code 70 = .ok (.aload_n 0, 1) := by decide +kernel
theorem d_R_judged_71 : decode prog_12_method_72_code 71 = .ok (.getfield 28, 3) := by decide +kernel
theorem d_R_judged_74 : decode prog_12_method_72_code 74 = .ok (.bipush 17, 2) := by decide +kernel
theorem d_R_judged_76 : decode prog_12_method_72_code 76 = .ok (.iload_n 2, 1) := by decide +kernel
theorem d_R_judged_77 : decode prog_12_method_72_code 77 = .ok (.iastore, 1) := by decide +kernel
theorem d_R_judged_78 : decode prog_12_method_72_code 78 = .ok (.iconst 1, 1) := by decide +kernel
theorem d_R_judged_79 : decode prog_12_method_72_code 79 = .ok (.ireturn, 1) := by decide +kernel
theorem d_R_judged_80 : decode prog_12_method_72_code 80 = .ok (.iconst 0, 1) := by decide +kernel
theorem d_R_judged_81 : decode prog_12_method_72_code 81 = .ok (.iload_n 2, 1) := by decide +kernel
theorem d_R_judged_82 : decode prog_12_method_72_code 82 = .ok (.invokestatic 351, 3) := by decide +kernel
theorem d_R_judged_85 : decode prog_12_method_72_code 85 = .ok (.ifCond .ne 5, 3) := by decide +kernel
theorem d_R_judged_88 : decode prog_12_method_72_code 88 = .ok (.iconst 0, 1) := by decide +kernel
theorem d_R_judged_89 : decode prog_12_method_72_code 89 = .ok (.ireturn, 1) := by decide +kernel
theorem d_R_judged_90 : decode prog_12_method_72_code 90 = .ok (.aload_n 0, 1) := by decide +kernel
theorem d_R_judged_91 : decode prog_12_method_72_code 91 = .ok (.getfield 28, 3) := by decide +kernel
theorem d_R_judged_94 : decode prog_12_method_72_code 94 = .ok (.bipush 16, 2) := by decide +kernel
theorem d_R_judged_96 : decode prog_12_method_72_code 96 = .ok (.iload_n 2, 1) := by decide +kernel
theorem d_R_judged_97 : decode prog_12_method_72_code 97 = .ok (.iastore, 1) := by decide +kernel
theorem d_R_judged_98 : decode prog_12_method_72_code 98 = .ok (.iconst 1, 1) := by decide +kernel
theorem d_R_judged_99 : decode prog_12_method_72_code 99 = .ok (.ireturn, 1) := by decide +kernel
theorem d_R_judged_100 : decode prog_12_method_72_code 100 = .ok (.aload_n 0, 1) := by decide +kernel
theorem d_R_judged_101 : decode prog_12_method_72_code 101 = .ok (.iload_n 2, 1) := by decide +kernel
theorem d_R_judged_102 : decode prog_12_method_72_code 102 = .ok (.bipush 100, 2) := by decide +kernel
theorem d_R_judged_104 : decode prog_12_method_72_code 104 = .ok (.idiv, 1) := by decide +kernel
theorem d_R_judged_105 : decode prog_12_method_72_code 105 = .ok (.iload_n 2, 1) := by decide +kernel
theorem d_R_judged_106 : decode prog_12_method_72_code 106 = .ok (.bipush 100, 2) := by decide +kernel
theorem d_R_judged_108 : decode prog_12_method_72_code 108 = .ok (.irem, 1) := by decide +kernel
theorem d_R_judged_109 : decode prog_12_method_72_code 109 = .ok (.invokevirtual 354, 3) := by decide +kernel
theorem d_R_judged_112 : decode prog_12_method_72_code 112 = .ok (.ireturn, 1) := by decide +kernel
theorem d_R_judged_113 : decode prog_12_method_72_code 113 = .ok (.aload_n 0, 1) := by decide +kernel
theorem d_R_judged_114 : decode prog_12_method_72_code 114 = .ok (.iload_n 2, 1) := by decide +kernel
theorem d_R_judged_115 : decode prog_12_method_72_code 115 = .ok (.bipush 100, 2) := by decide +kernel
theorem d_R_judged_117 : decode prog_12_method_72_code 117 = .ok (.idiv, 1) := by decide +kernel
theorem d_R_judged_118 : decode prog_12_method_72_code 118 = .ok (.iload_n 2, 1) := by decide +kernel
theorem d_R_judged_119 : decode prog_12_method_72_code 119 = .ok (.bipush 100, 2) := by decide +kernel
theorem d_R_judged_121 : decode prog_12_method_72_code 121 = .ok (.irem, 1) := by decide +kernel
theorem d_R_judged_122 : decode prog_12_method_72_code 122 = .ok (.invokevirtual 357, 3) := by decide +kernel
theorem d_R_judged_125 : decode prog_12_method_72_code 125 = .ok (.ireturn, 1) := by decide +kernel
theorem d_R_judged_126 : decode prog_12_method_72_code 126 = .ok (.iload_n 2, 1) := by decide +kernel
theorem d_R_judged_127 : decode prog_12_method_72_code 127 = .ok (.bipush 100, 2) := by decide +kernel
theorem d_R_judged_129 : decode prog_12_method_72_code 129 = .ok (.if_icmp .ge 19, 3) := by decide +kernel
theorem d_R_judged_132 : decode prog_12_method_72_code 132 = .ok (.aload_n 0, 1) := by decide +kernel
theorem d_R_judged_133 : decode prog_12_method_72_code 133 = .ok (.aload_n 0, 1) := by decide +kernel
theorem d_R_judged_134 : decode prog_12_method_72_code 134 = .ok (.getfield 28, 3) := by decide +kernel
theorem d_R_judged_137 : decode prog_12_method_72_code 137 = .ok (.invokevirtual 306, 3) := by decide +kernel
theorem d_R_judged_140 : decode prog_12_method_72_code 140 = .ok (.iload_n 2, 1) := by decide +kernel
theorem d_R_judged_141 : decode prog_12_method_72_code 141 = .ok (.if_icmp .ne 7, 3) := by decide +kernel
theorem d_R_judged_144 : decode prog_12_method_72_code 144 = .ok (.iconst 1, 1) := by decide +kernel
theorem d_R_judged_145 : decode prog_12_method_72_code 145 = .ok (.goto 4, 3) := by decide +kernel
theorem d_R_judged_148 : decode prog_12_method_72_code 148 = .ok (.iconst 0, 1) := by decide +kernel
theorem d_R_judged_149 : decode prog_12_method_72_code 149 = .ok (.ireturn, 1) := by decide +kernel
theorem d_R_judged_150 : decode prog_12_method_72_code 150 = .ok (.iconst 0, 1) := by decide +kernel
theorem d_R_judged_151 : decode prog_12_method_72_code 151 = .ok (.ireturn, 1) := by decide +kernel
def B_R_judged (_ : Nat × Nat) : PS :=
  (sSw 3 (eI 1) [(1, 0), (2, 1), (3, 2), (4, 3), (5, 4), (6, 5)] 6 [(sSq (sIf (cN (e1 (fun x : Int32 => decide (¬ x = 0)) (eX .int (xS 2 X_R_maySet (aC .int (eV (2 : Int32)) (aC .int (eI 2) aN)))))) (sRz (eV (0 : Int32))) sSk)
    (sSq (sAI (eFR 10 8 (eR 0)) (eV (18 : Int32)) (eI 2))
    (sRz (eV (1 : Int32))))),
    (sSq (sIf (cN (e1 (fun x : Int32 => decide (¬ x = 0)) (eX .int (xS 2 X_R_maySet (aC .int (eV (1 : Int32)) (aC .int (eI 2) aN)))))) (sRz (eV (0 : Int32))) sSk)
    (sSq (sAI (eFR 10 8 (eR 0)) (eV (17 : Int32)) (eI 2))
    (sRz (eV (1 : Int32))))),
    (sSq (sIf (cN (e1 (fun x : Int32 => decide (¬ x = 0)) (eX .int (xS 2 X_R_maySet (aC .int (eV (0 : Int32)) (aC .int (eI 2) aN)))))) (sRz (eV (0 : Int32))) sSk)
    (sSq (sAI (eFR 10 8 (eR 0)) (eV (16 : Int32)) (eI 2))
    (sRz (eV (1 : Int32))))),
    (sRz (eX .int (xV 10 2 X_R_isDependent (eR 0) (aC .int (eDI (fun x y : Int32 => x / y) (eI 2) (eV (100 : Int32))) (aC .int (eDI (fun x y : Int32 => x - x / y * y) (eI 2) (eV (100 : Int32))) aN))))),
    (sRz (eX .int (xV 10 2 X_R_isPackedAs (eR 0) (aC .int (eDI (fun x y : Int32 => x / y) (eI 2) (eV (100 : Int32))) (aC .int (eDI (fun x y : Int32 => x - x / y * y) (eI 2) (eV (100 : Int32))) aN))))),
    (sRz (eC (cA (e2 (fun x y : Int32 => decide (x < y)) (eI 2) (eV (100 : Int32))) (e2 (fun x y : Int32 => decide (x = y)) (eX .int (xV 10 1 X_R_packedCost (eR 0) (aC .ref (eFR 10 8 (eR 0)) aN))) (eI 2))))),
    (sRz (eV (0 : Int32)))])
def X_R_judged : PM := fun vs h Q => (lx vs).length ≤ 3 ∧ B_R_judged (h.length + 0, hsz h + 0) (fun _ _ => False) (fun _ _ => False) (fun _ _ => False) Q (lini 3 vs) h
theorem v_R_judged (l : Launch) : Ctr l y_R_judged prog_12_method_72_code 3 (some .boolean) rm_R_judged X_R_judged := by
  refine Ctr_of (own := "PackLanesModel") (B := B_R_judged) (KR := fun _ Q => Q) (by decide) rfl (fun _ _ _ z => z) (fun _ _ _ _ z => ⟨Or.inl ⟨rfl, rfl⟩, z⟩) (Or.inr (Or.inr (Or.inl rfl))) (fun κ hl ho hR hrt hn0 => ?_)
  subst hl
  unfold B_R_judged
  exact (S_sw (pcs := [40, 60, 80, 100, 113, 126, 150, _]) (pc1 := 1)  (E_iln d_R_judged_0 rfl) (fun _ _ _ k => r_tsw d_R_judged_1 (by decide +kernel) k) (And.intro (S_sq (pc1 := 50) (S_if1 (pT := 48) (pF := 50) (C_not (T1_ne (pT := 50) (pc2 := 45) (E_x (O_S k_R_351 (v_R_maySet _) ⟨rfl, rfl⟩ ho (rk hR rfl) (by decide) (pc2 := 42) (A_c catI (pc1 := 41) (E_ic d_R_judged_40 rfl) (A_c catI (pc1 := 42) (E_iln d_R_judged_41 rfl) A_n)) d_R_judged_42)) d_R_judged_45 rfl)) (S_rz hrt (pc1 := 49) (E_ic d_R_judged_48 rfl) d_R_judged_49))
    (S_sq (pc1 := 58) (S_AI (pc1 := 54) (pc2 := 56) (pc3 := 57) (E_fR f_R_28 ho (pc1 := 51) (E_aln d_R_judged_50 rfl) d_R_judged_51) (E_bi d_R_judged_54 rfl) (E_iln d_R_judged_56 rfl) d_R_judged_57)
    (S_rz hrt (pc1 := 59) (E_ic d_R_judged_58 rfl) d_R_judged_59)))
    (And.intro (S_sq (pc1 := 70) (S_if1 (pT := 68) (pF := 70) (C_not (T1_ne (pT := 70) (pc2 := 65) (E_x (O_S k_R_351 (v_R_maySet _) ⟨rfl, rfl⟩ ho (rk hR rfl) (by decide) (pc2 := 62) (A_c catI (pc1 := 61) (E_ic d_R_judged_60 rfl) (A_c catI (pc1 := 62) (E_iln d_R_judged_61 rfl) A_n)) d_R_judged_62)) d_R_judged_65 rfl)) (S_rz hrt (pc1 := 69) (E_ic d_R_judged_68 rfl) d_R_judged_69))
    (S_sq (pc1 := 78) (S_AI (pc1 := 74) (pc2 := 76) (pc3 := 77) (E_fR f_R_28 ho (pc1 := 71) (E_aln d_R_judged_70 rfl) d_R_judged_71) (E_bi d_R_judged_74 rfl) (E_iln d_R_judged_76 rfl) d_R_judged_77)
    (S_rz hrt (pc1 := 79) (E_ic d_R_judged_78 rfl) d_R_judged_79)))
    (And.intro (S_sq (pc1 := 90) (S_if1 (pT := 88) (pF := 90) (C_not (T1_ne (pT := 90) (pc2 := 85) (E_x (O_S k_R_351 (v_R_maySet _) ⟨rfl, rfl⟩ ho (rk hR rfl) (by decide) (pc2 := 82) (A_c catI (pc1 := 81) (E_ic d_R_judged_80 rfl) (A_c catI (pc1 := 82) (E_iln d_R_judged_81 rfl) A_n)) d_R_judged_82)) d_R_judged_85 rfl)) (S_rz hrt (pc1 := 89) (E_ic d_R_judged_88 rfl) d_R_judged_89))
    (S_sq (pc1 := 98) (S_AI (pc1 := 94) (pc2 := 96) (pc3 := 97) (E_fR f_R_28 ho (pc1 := 91) (E_aln d_R_judged_90 rfl) d_R_judged_91) (E_bi d_R_judged_94 rfl) (E_iln d_R_judged_96 rfl) d_R_judged_97)
    (S_rz hrt (pc1 := 99) (E_ic d_R_judged_98 rfl) d_R_judged_99)))
    (And.intro (S_rz hrt (pc1 := 112) (E_x (O_V k_R_354 (v_R_isDependent _) ⟨rfl, rfl⟩ ho (rk hR rfl) (by decide) (T := KT10) (N := 50) rfl (by decide) (pc1 := 101) (pc2 := 109) (E_aln d_R_judged_100 rfl) (A_c catI (pc1 := 105) (E_idiv (pc1 := 102) (pc2 := 104) (E_iln d_R_judged_101 rfl) (E_bi d_R_judged_102 rfl) d_R_judged_104) (A_c catI (pc1 := 109) (E_irem (pc1 := 106) (pc2 := 108) (E_iln d_R_judged_105 rfl) (E_bi d_R_judged_106 rfl) d_R_judged_108) A_n)) d_R_judged_109)) d_R_judged_112)
    (And.intro (S_rz hrt (pc1 := 125) (E_x (O_V k_R_357 (v_R_isPackedAs _) ⟨rfl, rfl⟩ ho (rk hR rfl) (by decide) (T := KT10) (N := 50) rfl (by decide) (pc1 := 114) (pc2 := 122) (E_aln d_R_judged_113 rfl) (A_c catI (pc1 := 118) (E_idiv (pc1 := 115) (pc2 := 117) (E_iln d_R_judged_114 rfl) (E_bi d_R_judged_115 rfl) d_R_judged_117) (A_c catI (pc1 := 122) (E_irem (pc1 := 119) (pc2 := 121) (E_iln d_R_judged_118 rfl) (E_bi d_R_judged_119 rfl) d_R_judged_121) A_n)) d_R_judged_122)) d_R_judged_125)
    (And.intro (S_rz hrt (pc1 := 149) (E_C (pT := 144) (pF := 148) (pc2 := 149) (C_and (pc1 := 132) (J2_lt (pF := 148) (pc1 := 127) (pc2 := 129) (E_iln d_R_judged_126 rfl) (E_bi d_R_judged_127 rfl) d_R_judged_129 rfl) (J2_eq (pF := 148) (pc1 := 140) (pc2 := 141) (E_x (O_V k_R_306 (v_R_packedCost _) ⟨rfl, rfl⟩ ho (rk hR rfl) (by decide) (T := KT10) (N := 50) rfl (by decide) (pc1 := 133) (pc2 := 137) (E_aln d_R_judged_132 rfl) (A_c catR (pc1 := 137) (E_fR f_R_28 ho (pc1 := 134) (E_aln d_R_judged_133 rfl) d_R_judged_134) A_n) d_R_judged_137)) (E_iln d_R_judged_140 rfl) d_R_judged_141 rfl)) d_R_judged_144 d_R_judged_145 rfl d_R_judged_148 rfl) d_R_judged_149)
    (And.intro (S_rz hrt (pc1 := 151) (E_ic d_R_judged_150 rfl) d_R_judged_151)
    rfl))))))) (by decide))
theorem d_R_hundredThousands_0 : decode prog_12_method_73_code 0 = .ok (.lconst 1, 1) := by decide +kernel
theorem d_R_hundredThousands_1 : decode prog_12_method_73_code 1 = .ok (.lstore_n 1, 1) := by decide +kernel
theorem d_R_hundredThousands_2 : decode prog_12_method_73_code 2 = .ok (.iconst 0, 1) := by decide +kernel
theorem d_R_hundredThousands_3 : decode prog_12_method_73_code 3 = .ok (.istore_n 3, 1) := by decide +kernel
theorem d_R_hundredThousands_4 : decode prog_12_method_73_code 4 = .ok (.iload_n 3, 1) := by decide +kernel
theorem d_R_hundredThousands_5 : decode prog_12_method_73_code 5 = .ok (.iload_n 0, 1) := by decide +kernel
theorem d_R_hundredThousands_6 : decode prog_12_method_73_code 6 = .ok (.if_icmp .ge 15, 3) := by decide +kernel
theorem d_R_hundredThousands_9 : decode prog_12_method_73_code 9 = .ok (.lload_n 1, 1) := by decide +kernel
theorem d_R_hundredThousands_10 : decode prog_12_method_73_code 10 = .ok (.ldc2_w 360, 3) := by decide +kernel
theorem d_R_hundredThousands_13 : decode prog_12_method_73_code 13 = .ok (.lmul, 1) := by decide +kernel
theorem d_R_hundredThousands_14 : decode prog_12_method_73_code 14 = .ok (.lstore_n 1, 1) := by decide +kernel
theorem d_R_hundredThousands_15 : decode prog_12_method_73_code 15 = .ok (.iinc 3 1, 3) := by decide +kernel
theorem d_R_hundredThousands_18 : decode prog_12_method_73_code 18 = .ok (.goto (-14), 3) := by decide +kernel
theorem d_R_hundredThousands_21 : decode prog_12_method_73_code 21 = .ok (.lload_n 1, 1) := by decide +kernel
theorem d_R_hundredThousands_22 : decode prog_12_method_73_code 22 = .ok (.lreturn, 1) := by decide +kernel
def B_R_hundredThousands (_ : Nat × Nat) : PS :=
  (sSq (sL 1 (eV (1 : Int64)))
    (sSq (sCut 3 (sSq (sI 3 (eV (0 : Int32)))
    (sLp 4 (e2 (fun x y : Int32 => decide (x < y)) (eI 3) (eI 0))
    (sL 1 (e2 (fun x y : Int64 => x * y) (eL 1) (eV (100000 : Int64))))
    (sInc 3 (1)))))
    (sRt .long (eL 1))))
def X_R_hundredThousands : PM := fun vs h Q => (lx vs).length ≤ 4 ∧ B_R_hundredThousands (h.length + 0, hsz h + 0) (fun _ _ => False) (fun _ _ => False) (fun _ _ => False) Q (lini 4 vs) h
theorem v_R_hundredThousands (l : Launch) : Ctr l y_R_hundredThousands prog_12_method_73_code 4 (some .long) rm_R_hundredThousands X_R_hundredThousands := by
  refine Ctr_of (own := "PackLanesModel") (B := B_R_hundredThousands) (KR := fun _ Q => Q) (by decide) rfl (fun _ _ _ z => z) (fun _ _ _ _ z => ⟨Or.inl ⟨rfl, rfl⟩, z⟩) (Or.inr (Or.inr (Or.inr rfl))) (fun κ hl ho hR hrt hn0 => ?_)
  subst hl
  unfold B_R_hundredThousands
  exact (S_sq (pc1 := 2) (S_Ln (pc1 := 1) (E_lc d_R_hundredThousands_0 rfl) d_R_hundredThousands_1 rfl)
    (S_sq (pc1 := 21) (S_cut (S_sq (pc1 := 4) (S_In (pc1 := 3) (E_ic d_R_hundredThousands_2 rfl) d_R_hundredThousands_3 rfl)
    (S_lp (pT := 9) (pF := 21) (pS := 15) (pG := 18) (J2_lt (pF := 21) (pc1 := 5) (pc2 := 6) (E_iln d_R_hundredThousands_4 rfl) (E_iln d_R_hundredThousands_5 rfl) d_R_hundredThousands_6 rfl)
    (S_Ln (pc1 := 14) (E_lmul (pc1 := 10) (pc2 := 13) (E_lln d_R_hundredThousands_9 rfl) (E_ldc2 ho w_cl_R_360 d_R_hundredThousands_10) d_R_hundredThousands_13) d_R_hundredThousands_14 rfl)
    (S_Inc d_R_hundredThousands_15 rfl) d_R_hundredThousands_18 rfl)))
    (S_rl hrt (pc1 := 22) (E_lln d_R_hundredThousands_21 rfl) d_R_hundredThousands_22)))
theorem d_R_judge_0 : decode prog_12_method_74_code 0 = .ok (.iload_n 1, 1) := by decide +kernel
theorem d_R_judge_1 : decode prog_12_method_74_code 1 = .ok (.i2l, 1) := by decide +kernel
theorem d_R_judge_2 : decode prog_12_method_74_code 2 = .ok (.lconst 1, 1) := by decide +kernel
theorem d_R_judge_3 : decode prog_12_method_74_code 3 = .ok (.ldc2_w 362, 3) := by decide +kernel
theorem d_R_judge_6 : decode prog_12_method_74_code 6 = .ok (.invokestatic 103, 3) := by decide +kernel
theorem d_R_judge_9 : decode prog_12_method_74_code 9 = .ok (.ifCond .eq 17, 3) := by decide +kernel
theorem d_R_judge_12 : decode prog_12_method_74_code 12 = .ok (.lload_n 2, 1) := by decide +kernel
theorem d_R_judge_13 : decode prog_12_method_74_code 13 = .ok (.lconst 0, 1) := by decide +kernel
theorem d_R_judge_14 : decode prog_12_method_74_code 14 = .ok (.iload_n 1, 1) := by decide +kernel
theorem d_R_judge_15 : decode prog_12_method_74_code 15 = .ok (.invokestatic 364, 3) := by decide +kernel
theorem d_R_judge_18 : decode prog_12_method_74_code 18 = .ok (.lconst 1, 1) := by decide +kernel
theorem d_R_judge_19 : decode prog_12_method_74_code 19 = .ok (.lsub, 1) := by decide +kernel
theorem d_R_judge_20 : decode prog_12_method_74_code 20 = .ok (.invokestatic 103, 3) := by decide +kernel
theorem d_R_judge_23 : decode prog_12_method_74_code 23 = .ok (.ifCond .ne 6, 3) := by decide +kernel
theorem d_R_judge_26 : decode prog_12_method_74_code 26 = .ok (.bipush (-2), 2) := by decide +kernel
theorem d_R_judge_28 : decode prog_12_method_74_code 28 = .ok (.ireturn, 1) := by decide +kernel
theorem d_R_judge_29 : decode prog_12_method_74_code 29 = .ok (.aload_n 0, 1) := by decide +kernel
theorem d_R_judge_30 : decode prog_12_method_74_code 30 = .ok (.getfield 25, 3) := by decide +kernel
theorem d_R_judge_33 : decode prog_12_method_74_code 33 = .ok (.aload_n 0, 1) := by decide +kernel
theorem d_R_judge_34 : decode prog_12_method_74_code 34 = .ok (.getfield 28, 3) := by decide +kernel
theorem d_R_judge_37 : decode prog_12_method_74_code 37 = .ok (.invokestatic 302, 3) := by decide +kernel
theorem d_R_judge_40 : decode prog_12_method_74_code 40 = .ok (.iconst 0, 1) := by decide +kernel
theorem d_R_judge_41 : decode prog_12_method_74_code 41 = .ok (.istore 4, 2) := by decide +kernel
theorem d_R_judge_43 : decode prog_12_method_74_code 43 = .ok (.iload 4, 2) := by decide +kernel
theorem d_R_judge_45 : decode prog_12_method_74_code 45 = .ok (.iload_n 1, 1) := by decide +kernel
theorem d_R_judge_46 : decode prog_12_method_74_code 46 = .ok (.if_icmp .ge 49, 3) := by decide +kernel
theorem d_R_judge_49 : decode prog_12_method_74_code 49 = .ok (.lload_n 2, 1) := by decide +kernel
theorem d_R_judge_50 : decode prog_12_method_74_code 50 = .ok (.iload_n 1, 1) := by decide +kernel
theorem d_R_judge_51 : decode prog_12_method_74_code 51 = .ok (.iconst 1, 1) := by decide +kernel
theorem d_R_judge_52 : decode prog_12_method_74_code 52 = .ok (.isub, 1) := by decide +kernel
theorem d_R_judge_53 : decode prog_12_method_74_code 53 = .ok (.iload 4, 2) := by decide +kernel
theorem d_R_judge_55 : decode prog_12_method_74_code 55 = .ok (.isub, 1) := by decide +kernel
theorem d_R_judge_56 : decode prog_12_method_74_code 56 = .ok (.invokestatic 364, 3) := by decide +kernel
theorem d_R_judge_59 : decode prog_12_method_74_code 59 = .ok (.ldiv, 1) := by decide +kernel
theorem d_R_judge_60 : decode prog_12_method_74_code 60 = .ok (.ldc2_w 360, 3) := by decide +kernel
theorem d_R_judge_63 : decode prog_12_method_74_code 63 = .ok (.lrem, 1) := by decide +kernel
theorem d_R_judge_64 : decode prog_12_method_74_code 64 = .ok (.l2i, 1) := by decide +kernel
theorem d_R_judge_65 : decode prog_12_method_74_code 65 = .ok (.istore 5, 2) := by decide +kernel
theorem d_R_judge_67 : decode prog_12_method_74_code 67 = .ok (.aload_n 0, 1) := by decide +kernel
theorem d_R_judge_68 : decode prog_12_method_74_code 68 = .ok (.iload 5, 2) := by decide +kernel
theorem d_R_judge_70 : decode prog_12_method_74_code 70 = .ok (.sipush 10000, 3) := by decide +kernel
theorem d_R_judge_73 : decode prog_12_method_74_code 73 = .ok (.idiv, 1) := by decide +kernel
theorem d_R_judge_74 : decode prog_12_method_74_code 74 = .ok (.iload 5, 2) := by decide +kernel
theorem d_R_judge_76 : decode prog_12_method_74_code 76 = .ok (.sipush 10000, 3) := by decide +kernel
theorem d_R_judge_79 : decode prog_12_method_74_code 79 = .ok (.irem, 1) := by decide +kernel
theorem d_R_judge_80 : decode prog_12_method_74_code 80 = .ok (.invokevirtual 368, 3) := by decide +kernel
theorem d_R_judge_83 : decode prog_12_method_74_code 83 = .ok (.ifCond .ne 6, 3) := by decide +kernel
theorem d_R_judge_86 : decode prog_12_method_74_code 86 = .ok (.iload 4, 2) := by decide +kernel
theorem d_R_judge_88 : decode prog_12_method_74_code 88 = .ok (.ireturn, 1) := by decide +kernel
theorem d_R_judge_89 : decode prog_12_method_74_code 89 = .ok (.iinc 4 1, 3) := by decide +kernel
theorem d_R_judge_92 : decode prog_12_method_74_code 92 = .ok (.goto (-49), 3) := by decide +kernel
theorem d_R_judge_95 : decode prog_12_method_74_code 95 = .ok (.bipush (-9), 2) := by decide +kernel
theorem d_R_judge_97 : decode prog_12_method_74_code 97 = .ok (.ireturn, 1) := by decide +kernel
def B_R_judge (_ : Nat × Nat) : PS :=
  (sSq (sIf (cO (cN (e1 (fun x : Int32 => decide (¬ x = 0)) (eX .int (xS 3 X_R_in (aC .long (e1 (fun x : Int32 => x.toInt64) (eI 1)) (aC .long (eV (1 : Int64)) (aC .long (eV (3 : Int64)) aN))))))) (cN (e1 (fun x : Int32 => decide (¬ x = 0)) (eX .int (xS 3 X_R_in (aC .long (eL 2) (aC .long (eV (0 : Int64)) (aC .long (e2 (fun x y : Int64 => x - y) (eX .long (xS 1 X_R_hundredThousands (aC .int (eI 1) aN))) (eV (1 : Int64))) aN)))))))) (sRt .int (eV (-2 : Int32))) sSk)
    (sSq (sX (xS 2 X_R_copy (aC .ref (eFR 10 7 (eR 0)) (aC .ref (eFR 10 8 (eR 0)) aN))))
    (sSq (sCut 4 (sSq (sI 4 (eV (0 : Int32)))
    (sLp 5 (e2 (fun x y : Int32 => decide (x < y)) (eI 4) (eI 1))
    (sCut 5 (sSq (sI 5 (e1 (fun x : Int64 => x.toInt32) (eDL (fun x y : Int64 => x - x / y * y) (eDL (fun x y : Int64 => x / y) (eL 2) (eX .long (xS 1 X_R_hundredThousands (aC .int (e2 (fun x y : Int32 => x - y) (e2 (fun x y : Int32 => x - y) (eI 1) (eV (1 : Int32))) (eI 4)) aN)))) (eV (100000 : Int64)))))
    (sIf (cN (e1 (fun x : Int32 => decide (¬ x = 0)) (eX .int (xV 10 2 X_R_judged (eR 0) (aC .int (eDI (fun x y : Int32 => x / y) (eI 5) (eV (10000 : Int32))) (aC .int (eDI (fun x y : Int32 => x - x / y * y) (eI 5) (eV (10000 : Int32))) aN)))))) (sRt .int (eI 4)) sSk)))
    (sInc 4 (1)))))
    (sRt .int (eV (-9 : Int32))))))
def X_R_judge : PM := fun vs h Q => (lx vs).length ≤ 6 ∧ B_R_judge (h.length + 0, hsz h + 0) (fun _ _ => False) (fun _ _ => False) (fun _ _ => False) Q (lini 6 vs) h
theorem v_R_judge (l : Launch) : Ctr l y_R_judge prog_12_method_74_code 6 (some .int) rm_R_judge X_R_judge := by
  refine Ctr_of (own := "PackLanesModel") (B := B_R_judge) (KR := fun _ Q => Q) (by decide) rfl (fun _ _ _ z => z) (fun _ _ _ _ z => ⟨Or.inl ⟨rfl, rfl⟩, z⟩) (Or.inr (Or.inl rfl)) (fun κ hl ho hR hrt hn0 => ?_)
  subst hl
  unfold B_R_judge
  exact (S_sq (pc1 := 29) (S_if1 (pT := 26) (pF := 29) (C_or (pc1 := 12) (C_not (J1_ne (pF := 26) (pc2 := 9) (E_x (O_S k_R_103 (v_R_in _) ⟨rfl, rfl⟩ ho (rk hR rfl) (by decide) (pc2 := 6) (A_c catL (pc1 := 2) (E_i2l (pc1 := 1) (E_iln d_R_judge_0 rfl) d_R_judge_1) (A_c catL (pc1 := 3) (E_lc d_R_judge_2 rfl) (A_c catL (pc1 := 6) (E_ldc2 ho w_cl_R_362 d_R_judge_3) A_n))) d_R_judge_6)) d_R_judge_9 rfl)) (C_not (T1_ne (pT := 29) (pc2 := 23) (E_x (O_S k_R_103 (v_R_in _) ⟨rfl, rfl⟩ ho (rk hR rfl) (by decide) (pc2 := 20) (A_c catL (pc1 := 13) (E_lln d_R_judge_12 rfl) (A_c catL (pc1 := 14) (E_lc d_R_judge_13 rfl) (A_c catL (pc1 := 20) (E_lsub (pc1 := 18) (pc2 := 19) (E_x (O_S k_R_364 (v_R_hundredThousands _) ⟨rfl, rfl⟩ ho (rk hR rfl) (by decide) (pc2 := 15) (A_c catI (pc1 := 15) (E_iln d_R_judge_14 rfl) A_n) d_R_judge_15)) (E_lc d_R_judge_18 rfl) d_R_judge_19) A_n))) d_R_judge_20)) d_R_judge_23 rfl))) (S_ri hrt (pc1 := 28) (E_bi d_R_judge_26 rfl) d_R_judge_28))
    (S_sq (pc1 := 40) (S_X (O_S k_R_302 (v_R_copy _) ⟨rfl, rfl⟩ ho (rk hR rfl) (by decide) (pc2 := 37) (A_c catR (pc1 := 33) (E_fR f_R_25 ho (pc1 := 30) (E_aln d_R_judge_29 rfl) d_R_judge_30) (A_c catR (pc1 := 37) (E_fR f_R_28 ho (pc1 := 34) (E_aln d_R_judge_33 rfl) d_R_judge_34) A_n)) d_R_judge_37))
    (S_sq (pc1 := 95) (S_cut (S_sq (pc1 := 43) (S_I (pc1 := 41) (E_ic d_R_judge_40 rfl) d_R_judge_41)
    (S_lp (pT := 49) (pF := 95) (pS := 89) (pG := 92) (J2_lt (pF := 95) (pc1 := 45) (pc2 := 46) (E_il d_R_judge_43) (E_iln d_R_judge_45 rfl) d_R_judge_46 rfl)
    (S_cut (S_sq (pc1 := 67) (S_I (pc1 := 65) (E_l2i (pc1 := 64) (E_lrem (pc1 := 60) (pc2 := 63) (E_ldiv (pc1 := 50) (pc2 := 59) (E_lln d_R_judge_49 rfl) (E_x (O_S k_R_364 (v_R_hundredThousands _) ⟨rfl, rfl⟩ ho (rk hR rfl) (by decide) (pc2 := 56) (A_c catI (pc1 := 56) (E_isub (pc1 := 53) (pc2 := 55) (E_isub (pc1 := 51) (pc2 := 52) (E_iln d_R_judge_50 rfl) (E_ic d_R_judge_51 rfl) d_R_judge_52) (E_il d_R_judge_53) d_R_judge_55) A_n) d_R_judge_56)) d_R_judge_59) (E_ldc2 ho w_cl_R_360 d_R_judge_60) d_R_judge_63) d_R_judge_64) d_R_judge_65)
    (S_if1 (pT := 86) (pF := 89) (C_not (T1_ne (pT := 89) (pc2 := 83) (E_x (O_V k_R_368 (v_R_judged _) ⟨rfl, rfl⟩ ho (rk hR rfl) (by decide) (T := KT10) (N := 50) rfl (by decide) (pc1 := 68) (pc2 := 80) (E_aln d_R_judge_67 rfl) (A_c catI (pc1 := 74) (E_idiv (pc1 := 70) (pc2 := 73) (E_il d_R_judge_68) (E_si d_R_judge_70 rfl) d_R_judge_73) (A_c catI (pc1 := 80) (E_irem (pc1 := 76) (pc2 := 79) (E_il d_R_judge_74) (E_si d_R_judge_76 rfl) d_R_judge_79) A_n)) d_R_judge_80)) d_R_judge_83 rfl)) (S_ri hrt (pc1 := 88) (E_il d_R_judge_86) d_R_judge_88))))
    (S_Inc d_R_judge_89 rfl) d_R_judge_92 rfl)))
    (S_ri hrt (pc1 := 97) (E_bi d_R_judge_95 rfl) d_R_judge_97))))
