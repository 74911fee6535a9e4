/-! methods: the decoded rows, the meaning (B, X), the contract (v) -/
theorem d_PL_undo_0 : decode prog_1_method_12_code 0 = .ok (.aload_n 0, 1) := by decide +kernel
theorem d_PL_undo_1 : decode prog_1_method_12_code 1 = .ok (.getfield 42, 3) := by decide +kernel
theorem d_PL_undo_4 : decode prog_1_method_12_code 4 = .ok (.getfield 141, 3) := by decide +kernel
theorem d_PL_undo_7 : decode prog_1_method_12_code 7 = .ok (.ifCond .ne 6, 3) := by decide +kernel
theorem d_PL_undo_10 : decode prog_1_method_12_code 10 = .ok (.bipush (-3), 2) := by decide +kernel
theorem d_PL_undo_12 : decode prog_1_method_12_code 12 = .ok (.ireturn, 1) := by decide +kernel
theorem d_PL_undo_13 : decode prog_1_method_12_code 13 = .ok (.aload_n 0, 1) := by decide +kernel
theorem d_PL_undo_14 : decode prog_1_method_12_code 14 = .ok (.getfield 42, 3) := by decide +kernel
theorem d_PL_undo_17 : decode prog_1_method_12_code 17 = .ok (.aload_n 0, 1) := by decide +kernel
theorem d_PL_undo_18 : decode prog_1_method_12_code 18 = .ok (.getfield 26, 3) := by decide +kernel
theorem d_PL_undo_21 : decode prog_1_method_12_code 21 = .ok (.invokevirtual 193, 3) := by decide +kernel
theorem d_PL_undo_24 : decode prog_1_method_12_code 24 = .ok (.aload_n 0, 1) := by decide +kernel
theorem d_PL_undo_25 : decode prog_1_method_12_code 25 = .ok (.getfield 65, 3) := by decide +kernel
theorem d_PL_undo_28 : decode prog_1_method_12_code 28 = .ok (.aload_n 0, 1) := by decide +kernel
theorem d_PL_undo_29 : decode prog_1_method_12_code 29 = .ok (.getfield 26, 3) := by decide +kernel
theorem d_PL_undo_32 : decode prog_1_method_12_code 32 = .ok (.iconst 0, 1) := by decide +kernel
theorem d_PL_undo_33 : decode prog_1_method_12_code 33 = .ok (.invokevirtual 90, 3) := by decide +kernel
theorem d_PL_undo_36 : decode prog_1_method_12_code 36 = .ok (.aload_n 0, 1) := by decide +kernel
theorem d_PL_undo_37 : decode prog_1_method_12_code 37 = .ok (.getfield 42, 3) := by decide +kernel
theorem d_PL_undo_40 : decode prog_1_method_12_code 40 = .ok (.getfield 141, 3) := by decide +kernel
theorem d_PL_undo_43 : decode prog_1_method_12_code 43 = .ok (.ireturn, 1) := by decide +kernel
def B_PL_undo (_ : Nat × Nat) : PS :=
  (sSq (sIf (e1 (fun x : Int32 => decide (x = 0)) (eFI 0 2 (eFR 9 7 (eR 0)))) (sRt .int (eV (-3 : Int32))) sSk)
    (sSq (sX (xV 0 1 X_Acts_takeBack (eFR 9 7 (eR 0)) (aC .ref (eFR 9 3 (eR 0)) aN)))
    (sSq (sX (xV 4 2 X_Pack_choosePacks (eFR 9 10 (eR 0)) (aC .ref (eFR 9 3 (eR 0)) (aC .int (eV (0 : Int32)) aN))))
    (sRt .int (eFI 0 2 (eFR 9 7 (eR 0)))))))
def X_PL_undo : PM := fun vs h Q => (lx vs).length ≤ 1 ∧ B_PL_undo (h.length + 0, hsz h + 0) (fun _ _ => False) (fun _ _ => False) (fun _ _ => False) Q (lini 1 vs) h
theorem v_PL_undo (l : Launch) : Ctr l y_PL_undo prog_1_method_12_code 1 (some .int) rm_PL_undo X_PL_undo := by
  refine Ctr_of (own := "PackLanes") (B := B_PL_undo) (KR := fun _ Q => Q) (by decide) rfl (fun _ _ _ z => z) (fun _ _ _ _ z => ⟨Or.inl ⟨rfl, rfl⟩, z⟩) (Or.inr (Or.inl rfl)) (fun κ hl ho hR hrt hn0 => ?_)
  subst hl
  unfold B_PL_undo
  exact (S_sq (pc1 := 13) (S_if1 (pT := 10) (pF := 13) (J1_eq (pF := 13) (pc2 := 7) (E_fI f_PL_141 ho (pc1 := 4) (E_fR f_PL_42 ho (pc1 := 1) (E_aln d_PL_undo_0 rfl) d_PL_undo_1) d_PL_undo_4) d_PL_undo_7 rfl) (S_ri hrt (pc1 := 12) (E_bi d_PL_undo_10 rfl) d_PL_undo_12))
    (S_sq (pc1 := 24) (S_X (O_V k_PL_193 (v_Acts_takeBack _) ⟨rfl, rfl⟩ ho (rk hR rfl) (by decide) (T := KT0) (N := 3) rfl (by decide) (pc1 := 17) (pc2 := 21) (E_fR f_PL_42 ho (pc1 := 14) (E_aln d_PL_undo_13 rfl) d_PL_undo_14) (A_c catR (pc1 := 21) (E_fR f_PL_26 ho (pc1 := 18) (E_aln d_PL_undo_17 rfl) d_PL_undo_18) A_n) d_PL_undo_21))
    (S_sq (pc1 := 36) (S_X (O_V k_PL_90 (v_Pack_choosePacks _) ⟨rfl, rfl⟩ ho (rk hR rfl) (by decide) (T := KT4) (N := 14) rfl (by decide) (pc1 := 28) (pc2 := 33) (E_fR f_PL_65 ho (pc1 := 25) (E_aln d_PL_undo_24 rfl) d_PL_undo_25) (A_c catR (pc1 := 32) (E_fR f_PL_26 ho (pc1 := 29) (E_aln d_PL_undo_28 rfl) d_PL_undo_29) (A_c catI (pc1 := 33) (E_ic d_PL_undo_32 rfl) A_n)) d_PL_undo_33))
    (S_ri hrt (pc1 := 43) (E_fI f_PL_141 ho (pc1 := 40) (E_fR f_PL_42 ho (pc1 := 37) (E_aln d_PL_undo_36 rfl) d_PL_undo_37) d_PL_undo_40) d_PL_undo_43))))
theorem d_Pack_gainOfTree_0 : decode prog_6_method_5_code 0 = .ok (.aload_n 0, 1) := by decide +kernel
theorem d_Pack_gainOfTree_1 : decode prog_6_method_5_code 1 = .ok (.getfield 64, 3) := by decide +kernel
theorem d_Pack_gainOfTree_4 : decode prog_6_method_5_code 4 = .ok (.iload_n 1, 1) := by decide +kernel
theorem d_Pack_gainOfTree_5 : decode prog_6_method_5_code 5 = .ok (.aload_n 0, 1) := by decide +kernel
theorem d_Pack_gainOfTree_6 : decode prog_6_method_5_code 6 = .ok (.getfield 9, 3) := by decide +kernel
theorem d_Pack_gainOfTree_9 : decode prog_6_method_5_code 9 = .ok (.aload_n 0, 1) := by decide +kernel
theorem d_Pack_gainOfTree_10 : decode prog_6_method_5_code 10 = .ok (.getfield 37, 3) := by decide +kernel
theorem d_Pack_gainOfTree_13 : decode prog_6_method_5_code 13 = .ok (.invokevirtual 99, 3) := by decide +kernel
theorem d_Pack_gainOfTree_16 : decode prog_6_method_5_code 16 = .ok (.aload_n 0, 1) := by decide +kernel
theorem d_Pack_gainOfTree_17 : decode prog_6_method_5_code 17 = .ok (.getfield 64, 3) := by decide +kernel
theorem d_Pack_gainOfTree_20 : decode prog_6_method_5_code 20 = .ok (.invokevirtual 102, 3) := by decide +kernel
theorem d_Pack_gainOfTree_23 : decode prog_6_method_5_code 23 = .ok (.ireturn, 1) := by decide +kernel
def B_Pack_gainOfTree (_ : Nat × Nat) : PS :=
  (sSq (sX (xV 8 3 X_Tree_grow (eFR 4 2 (eR 0)) (aC .int (eI 1) (aC .int (eFI 4 3 (eR 0)) (aC .int (eFI 4 11 (eR 0)) aN)))))
    (sRt .int (eX .int (xV 8 0 X_Tree_gain (eFR 4 2 (eR 0)) aN))))
def X_Pack_gainOfTree : PM := fun vs h Q => (lx vs).length ≤ 2 ∧ B_Pack_gainOfTree (h.length + 0, hsz h + 0) (fun _ _ => False) (fun _ _ => False) (fun _ _ => False) Q (lini 2 vs) h
theorem v_Pack_gainOfTree (l : Launch) : Ctr l y_Pack_gainOfTree prog_6_method_5_code 2 (some .int) rm_Pack_gainOfTree X_Pack_gainOfTree := by
  refine Ctr_of (own := "PackLanes$Packer") (B := B_Pack_gainOfTree) (KR := fun _ Q => Q) (by decide) rfl (fun _ _ _ z => z) (fun _ _ _ _ z => ⟨Or.inl ⟨rfl, rfl⟩, z⟩) (Or.inr (Or.inl rfl)) (fun κ hl ho hR hrt hn0 => ?_)
  subst hl
  unfold B_Pack_gainOfTree
  exact (S_sq (pc1 := 16) (S_X (O_V k_Pack_99 (v_Tree_grow _) ⟨rfl, rfl⟩ ho (rk hR rfl) (by decide) (T := KT8) (N := 11) rfl (by decide) (pc1 := 4) (pc2 := 13) (E_fR f_Pack_64 ho (pc1 := 1) (E_aln d_Pack_gainOfTree_0 rfl) d_Pack_gainOfTree_1) (A_c catI (pc1 := 5) (E_iln d_Pack_gainOfTree_4 rfl) (A_c catI (pc1 := 9) (E_fI f_Pack_9 ho (pc1 := 6) (E_aln d_Pack_gainOfTree_5 rfl) d_Pack_gainOfTree_6) (A_c catI (pc1 := 13) (E_fI f_Pack_37 ho (pc1 := 10) (E_aln d_Pack_gainOfTree_9 rfl) d_Pack_gainOfTree_10) A_n))) d_Pack_gainOfTree_13))
    (S_ri hrt (pc1 := 23) (E_x (O_V k_Pack_102 (v_Tree_gain _) ⟨rfl, rfl⟩ ho (rk hR rfl) (by decide) (T := KT8) (N := 11) rfl (by decide) (pc1 := 20) (pc2 := 20) (E_fR f_Pack_64 ho (pc1 := 17) (E_aln d_Pack_gainOfTree_16 rfl) d_Pack_gainOfTree_17) A_n d_Pack_gainOfTree_20)) d_Pack_gainOfTree_23))
theorem d_PL_tried_0 : decode prog_1_method_13_code 0 = .ok (.iload_n 1, 1) := by decide +kernel
theorem d_PL_tried_1 : decode prog_1_method_13_code 1 = .ok (.ifCond .lt 26, 3) := by decide +kernel
theorem d_PL_tried_4 : decode prog_1_method_13_code 4 = .ok (.iload_n 1, 1) := by decide +kernel
theorem d_PL_tried_5 : decode prog_1_method_13_code 5 = .ok (.iconst 1, 1) := by decide +kernel
theorem d_PL_tried_6 : decode prog_1_method_13_code 6 = .ok (.if_icmp .gt 21, 3) := by decide +kernel
theorem d_PL_tried_9 : decode prog_1_method_13_code 9 = .ok (.iload_n 2, 1) := by decide +kernel
theorem d_PL_tried_10 : decode prog_1_method_13_code 10 = .ok (.ifCond .lt 17, 3) := by decide +kernel
theorem d_PL_tried_13 : decode prog_1_method_13_code 13 = .ok (.iload_n 2, 1) := by decide +kernel
theorem d_PL_tried_14 : decode prog_1_method_13_code 14 = .ok (.bipush 8, 2) := by decide +kernel
theorem d_PL_tried_16 : decode prog_1_method_13_code 16 = .ok (.aload_n 0, 1) := by decide +kernel
theorem d_PL_tried_17 : decode prog_1_method_13_code 17 = .ok (.getfield 26, 3) := by decide +kernel
theorem d_PL_tried_20 : decode prog_1_method_13_code 20 = .ok (.bipush 18, 2) := by decide +kernel
theorem d_PL_tried_22 : decode prog_1_method_13_code 22 = .ok (.iaload, 1) := by decide +kernel
theorem d_PL_tried_23 : decode prog_1_method_13_code 23 = .ok (.isub, 1) := by decide +kernel
theorem d_PL_tried_24 : decode prog_1_method_13_code 24 = .ok (.if_icmp .le 6, 3) := by decide +kernel
theorem d_PL_tried_27 : decode prog_1_method_13_code 27 = .ok (.bipush (-2), 2) := by decide +kernel
theorem d_PL_tried_29 : decode prog_1_method_13_code 29 = .ok (.ireturn, 1) := by decide +kernel
theorem d_PL_tried_30 : decode prog_1_method_13_code 30 = .ok (.aload_n 0, 1) := by decide +kernel
theorem d_PL_tried_31 : decode prog_1_method_13_code 31 = .ok (.getfield 69, 3) := by decide +kernel
theorem d_PL_tried_34 : decode prog_1_method_13_code 34 = .ok (.aload_n 0, 1) := by decide +kernel
theorem d_PL_tried_35 : decode prog_1_method_13_code 35 = .ok (.getfield 26, 3) := by decide +kernel
theorem d_PL_tried_38 : decode prog_1_method_13_code 38 = .ok (.iconst 0, 1) := by decide +kernel
theorem d_PL_tried_39 : decode prog_1_method_13_code 39 = .ok (.invokevirtual 197, 3) := by decide +kernel
theorem d_PL_tried_42 : decode prog_1_method_13_code 42 = .ok (.aload_n 0, 1) := by decide +kernel
theorem d_PL_tried_43 : decode prog_1_method_13_code 43 = .ok (.getfield 69, 3) := by decide +kernel
theorem d_PL_tried_46 : decode prog_1_method_13_code 46 = .ok (.iload_n 1, 1) := by decide +kernel
theorem d_PL_tried_47 : decode prog_1_method_13_code 47 = .ok (.iload_n 2, 1) := by decide +kernel
theorem d_PL_tried_48 : decode prog_1_method_13_code 48 = .ok (.invokevirtual 200, 3) := by decide +kernel
theorem d_PL_tried_51 : decode prog_1_method_13_code 51 = .ok (.istore_n 3, 1) := by decide +kernel
theorem d_PL_tried_52 : decode prog_1_method_13_code 52 = .ok (.iload_n 3, 1) := by decide +kernel
theorem d_PL_tried_53 : decode prog_1_method_13_code 53 = .ok (.ifCond .ge 8, 3) := by decide +kernel
theorem d_PL_tried_56 : decode prog_1_method_13_code 56 = .ok (.bipush (-9), 2) := by decide +kernel
theorem d_PL_tried_58 : decode prog_1_method_13_code 58 = .ok (.goto 14, 3) := by decide +kernel
theorem d_PL_tried_61 : decode prog_1_method_13_code 61 = .ok (.aload_n 0, 1) := by decide +kernel
theorem d_PL_tried_62 : decode prog_1_method_13_code 62 = .ok (.getfield 69, 3) := by decide +kernel
theorem d_PL_tried_65 : decode prog_1_method_13_code 65 = .ok (.iload_n 3, 1) := by decide +kernel
theorem d_PL_tried_66 : decode prog_1_method_13_code 66 = .ok (.invokevirtual 204, 3) := by decide +kernel
theorem d_PL_tried_69 : decode prog_1_method_13_code 69 = .ok (.bipush 100, 2) := by decide +kernel
theorem d_PL_tried_71 : decode prog_1_method_13_code 71 = .ok (.iadd, 1) := by decide +kernel
theorem d_PL_tried_72 : decode prog_1_method_13_code 72 = .ok (.ireturn, 1) := by decide +kernel
def B_PL_tried (_ : Nat × Nat) : PS :=
  (sSq (sIf (cO (cO (cO (e1 (fun x : Int32 => decide (x < 0)) (eI 1)) (e2 (fun x y : Int32 => decide (y < x)) (eI 1) (eV (1 : Int32)))) (e1 (fun x : Int32 => decide (x < 0)) (eI 2))) (e2 (fun x y : Int32 => decide (y < x)) (eI 2) (e2 (fun x y : Int32 => x - y) (eV (8 : Int32)) (eAI (eFR 9 3 (eR 0)) (eV (18 : Int32)))))) (sRt .int (eV (-2 : Int32))) sSk)
    (sSq (sX (xV 4 2 X_Pack_keepNothing (eFR 9 11 (eR 0)) (aC .ref (eFR 9 3 (eR 0)) (aC .int (eV (0 : Int32)) aN))))
    (sSq (sI 3 (eX .int (xV 4 2 X_Pack_rootAt (eFR 9 11 (eR 0)) (aC .int (eI 1) (aC .int (eI 2) aN)))))
    (sRt .int (eIf (e1 (fun x : Int32 => decide (x < 0)) (eI 3)) (eV (-9 : Int32)) (e2 (fun x y : Int32 => x + y) (eX .int (xV 4 1 X_Pack_gainOfTree (eFR 9 11 (eR 0)) (aC .int (eI 3) aN))) (eV (100 : Int32))))))))
def X_PL_tried : PM := fun vs h Q => (lx vs).length ≤ 4 ∧ B_PL_tried (h.length + 0, hsz h + 0) (fun _ _ => False) (fun _ _ => False) (fun _ _ => False) Q (lini 4 vs) h
theorem v_PL_tried (l : Launch) : Ctr l y_PL_tried prog_1_method_13_code 4 (some .int) rm_PL_tried X_PL_tried := by
  refine Ctr_of (own := "PackLanes") (B := B_PL_tried) (KR := fun _ Q => Q) (by decide) rfl (fun _ _ _ z => z) (fun _ _ _ _ z => ⟨Or.inl ⟨rfl, rfl⟩, z⟩) (Or.inr (Or.inl rfl)) (fun κ hl ho hR hrt hn0 => ?_)
  subst hl
  unfold B_PL_tried
  exact (S_sq (pc1 := 30) (S_if1 (pT := 27) (pF := 30) (C_or (pc1 := 13) (C_or (pc1 := 9) (C_or (pc1 := 4) (T1_lt (pT := 27) (pc2 := 1) (E_iln d_PL_tried_0 rfl) d_PL_tried_1 rfl) (T2_gt (pT := 27) (pc1 := 5) (pc2 := 6) (E_iln d_PL_tried_4 rfl) (E_ic d_PL_tried_5 rfl) d_PL_tried_6 rfl)) (T1_lt (pT := 27) (pc2 := 10) (E_iln d_PL_tried_9 rfl) d_PL_tried_10 rfl)) (J2_gt (pF := 30) (pc1 := 14) (pc2 := 24) (E_iln d_PL_tried_13 rfl) (E_isub (pc1 := 16) (pc2 := 23) (E_bi d_PL_tried_14 rfl) (E_aI (pc1 := 20) (pc2 := 22) (E_fR f_PL_26 ho (pc1 := 17) (E_aln d_PL_tried_16 rfl) d_PL_tried_17) (E_bi d_PL_tried_20 rfl) d_PL_tried_22) d_PL_tried_23) d_PL_tried_24 rfl)) (S_ri hrt (pc1 := 29) (E_bi d_PL_tried_27 rfl) d_PL_tried_29))
    (S_sq (pc1 := 42) (S_X (O_V k_PL_197 (v_Pack_keepNothing _) ⟨rfl, rfl⟩ ho (rk hR rfl) (by decide) (T := KT4) (N := 14) rfl (by decide) (pc1 := 34) (pc2 := 39) (E_fR f_PL_69 ho (pc1 := 31) (E_aln d_PL_tried_30 rfl) d_PL_tried_31) (A_c catR (pc1 := 38) (E_fR f_PL_26 ho (pc1 := 35) (E_aln d_PL_tried_34 rfl) d_PL_tried_35) (A_c catI (pc1 := 39) (E_ic d_PL_tried_38 rfl) A_n)) d_PL_tried_39))
    (S_sq (pc1 := 52) (S_In (pc1 := 51) (E_x (O_V k_PL_200 (v_Pack_rootAt _) ⟨rfl, rfl⟩ ho (rk hR rfl) (by decide) (T := KT4) (N := 14) rfl (by decide) (pc1 := 46) (pc2 := 48) (E_fR f_PL_69 ho (pc1 := 43) (E_aln d_PL_tried_42 rfl) d_PL_tried_43) (A_c catI (pc1 := 47) (E_iln d_PL_tried_46 rfl) (A_c catI (pc1 := 48) (E_iln d_PL_tried_47 rfl) A_n)) d_PL_tried_48)) d_PL_tried_51 rfl)
    (S_ri hrt (pc1 := 72) (E_if (pT := 56) (pF := 61) (pc1 := 58) (pc2 := 72) (J1_lt (pF := 61) (pc2 := 53) (E_iln d_PL_tried_52 rfl) d_PL_tried_53 rfl) (E_bi d_PL_tried_56 rfl) d_PL_tried_58 rfl (E_iadd (pc1 := 69) (pc2 := 71) (E_x (O_V k_PL_204 (v_Pack_gainOfTree _) ⟨rfl, rfl⟩ ho (rk hR rfl) (by decide) (T := KT4) (N := 14) rfl (by decide) (pc1 := 65) (pc2 := 66) (E_fR f_PL_69 ho (pc1 := 62) (E_aln d_PL_tried_61 rfl) d_PL_tried_62) (A_c catI (pc1 := 66) (E_iln d_PL_tried_65 rfl) A_n) d_PL_tried_66)) (E_bi d_PL_tried_69 rfl) d_PL_tried_71)) d_PL_tried_72))))
theorem d_PL_isRight_0 : decode prog_1_method_26_code 0 = .ok (.iload_n 1, 1) := by decide +kernel
theorem d_PL_isRight_1 : decode prog_1_method_26_code 1 = .ok (.sipush 10000, 3) := by decide +kernel
theorem d_PL_isRight_4 : decode prog_1_method_26_code 4 = .ok (.idiv, 1) := by decide +kernel
theorem d_PL_isRight_5 : decode prog_1_method_26_code 5 = .ok (.istore_n 2, 1) := by decide +kernel
theorem d_PL_isRight_6 : decode prog_1_method_26_code 6 = .ok (.iload_n 1, 1) := by decide +kernel
theorem d_PL_isRight_7 : decode prog_1_method_26_code 7 = .ok (.bipush 100, 2) := by decide +kernel
theorem d_PL_isRight_9 : decode prog_1_method_26_code 9 = .ok (.idiv, 1) := by decide +kernel
theorem d_PL_isRight_10 : decode prog_1_method_26_code 10 = .ok (.bipush 100, 2) := by decide +kernel
theorem d_PL_isRight_12 : decode prog_1_method_26_code 12 = .ok (.irem, 1) := by decide +kernel
theorem d_PL_isRight_13 : decode prog_1_method_26_code 13 = .ok (.istore_n 3, 1) := by decide +kernel
theorem d_PL_isRight_14 : decode prog_1_method_26_code 14 = .ok (.iload_n 1, 1) := by decide +kernel
theorem d_PL_isRight_15 : decode prog_1_method_26_code 15 = .ok (.bipush 100, 2) := by decide +kernel
theorem d_PL_isRight_17 : decode prog_1_method_26_code 17 = .ok (.irem, 1) := by decide +kernel
theorem d_PL_isRight_18 : decode prog_1_method_26_code 18 = .ok (.istore 4, 2) := by decide +kernel
theorem d_PL_isRight_20 : decode prog_1_method_26_code 20 = .ok (.iload_n 2, 1) := by decide +kernel
theorem d_PL_isRight_21 : decode prog_1_method_26_code 21 = .ok (.iconst 1, 1) := by decide +kernel
theorem d_PL_isRight_22 : decode prog_1_method_26_code 22 = .ok (.if_icmp .lt 59, 3) := by decide +kernel
theorem d_PL_isRight_25 : decode prog_1_method_26_code 25 = .ok (.iload_n 2, 1) := by decide +kernel
theorem d_PL_isRight_26 : decode prog_1_method_26_code 26 = .ok (.iconst 3, 1) := by decide +kernel
theorem d_PL_isRight_27 : decode prog_1_method_26_code 27 = .ok (.if_icmp .gt 54, 3) := by decide +kernel
theorem d_PL_isRight_30 : decode prog_1_method_26_code 30 = .ok (.iload_n 2, 1) := by decide +kernel
theorem d_PL_isRight_31 : decode prog_1_method_26_code 31 = .ok (.iconst 1, 1) := by decide +kernel
theorem d_PL_isRight_32 : decode prog_1_method_26_code 32 = .ok (.if_icmp .ne 8, 3) := by decide +kernel
theorem d_PL_isRight_35 : decode prog_1_method_26_code 35 = .ok (.bipush 18, 2) := by decide +kernel
theorem d_PL_isRight_37 : decode prog_1_method_26_code 37 = .ok (.goto 15, 3) := by decide +kernel
theorem d_PL_isRight_40 : decode prog_1_method_26_code 40 = .ok (.iload_n 2, 1) := by decide +kernel
theorem d_PL_isRight_41 : decode prog_1_method_26_code 41 = .ok (.iconst 2, 1) := by decide +kernel
theorem d_PL_isRight_42 : decode prog_1_method_26_code 42 = .ok (.if_icmp .ne 8, 3) := by decide +kernel
theorem d_PL_isRight_45 : decode prog_1_method_26_code 45 = .ok (.bipush 17, 2) := by decide +kernel
theorem d_PL_isRight_47 : decode prog_1_method_26_code 47 = .ok (.goto 5, 3) := by decide +kernel
theorem d_PL_isRight_50 : decode prog_1_method_26_code 50 = .ok (.bipush 16, 2) := by decide +kernel
theorem d_PL_isRight_52 : decode prog_1_method_26_code 52 = .ok (.istore 5, 2) := by decide +kernel
theorem d_PL_isRight_54 : decode prog_1_method_26_code 54 = .ok (.iload_n 3, 1) := by decide +kernel
theorem d_PL_isRight_55 : decode prog_1_method_26_code 55 = .ok (.ifCond .ne 13, 3) := by decide +kernel
theorem d_PL_isRight_58 : decode prog_1_method_26_code 58 = .ok (.iload 5, 2) := by decide +kernel
theorem d_PL_isRight_60 : decode prog_1_method_26_code 60 = .ok (.iload 4, 2) := by decide +kernel
theorem d_PL_isRight_62 : decode prog_1_method_26_code 62 = .ok (.invokestatic 190, 3) := by decide +kernel
theorem d_PL_isRight_65 : decode prog_1_method_26_code 65 = .ok (.ifCond .ne 5, 3) := by decide +kernel
theorem d_PL_isRight_68 : decode prog_1_method_26_code 68 = .ok (.iconst 0, 1) := by decide +kernel
theorem d_PL_isRight_69 : decode prog_1_method_26_code 69 = .ok (.ireturn, 1) := by decide +kernel
theorem d_PL_isRight_70 : decode prog_1_method_26_code 70 = .ok (.aload_n 0, 1) := by decide +kernel
theorem d_PL_isRight_71 : decode prog_1_method_26_code 71 = .ok (.getfield 33, 3) := by decide +kernel
theorem d_PL_isRight_74 : decode prog_1_method_26_code 74 = .ok (.iload 5, 2) := by decide +kernel
theorem d_PL_isRight_76 : decode prog_1_method_26_code 76 = .ok (.iload 4, 2) := by decide +kernel
theorem d_PL_isRight_78 : decode prog_1_method_26_code 78 = .ok (.iastore, 1) := by decide +kernel
theorem d_PL_isRight_79 : decode prog_1_method_26_code 79 = .ok (.iconst 1, 1) := by decide +kernel
theorem d_PL_isRight_80 : decode prog_1_method_26_code 80 = .ok (.ireturn, 1) := by decide +kernel
theorem d_PL_isRight_81 : decode prog_1_method_26_code 81 = .ok (.aload_n 0, 1) := by decide +kernel
theorem d_PL_isRight_82 : decode prog_1_method_26_code 82 = .ok (.getfield 69, 3) := by decide +kernel
theorem d_PL_isRight_85 : decode prog_1_method_26_code 85 = .ok (.aload_n 0, 1) := by decide +kernel
theorem d_PL_isRight_86 : decode prog_1_method_26_code 86 = .ok (.getfield 33, 3) := by decide +kernel
theorem d_PL_isRight_89 : decode prog_1_method_26_code 89 = .ok (.iconst 0, 1) := by decide +kernel
theorem d_PL_isRight_90 : decode prog_1_method_26_code 90 = .ok (.invokevirtual 90, 3) := by decide +kernel
theorem d_PL_isRight_93 : decode prog_1_method_26_code 93 = .ok (.iload_n 2, 1) := by decide +kernel
theorem d_PL_isRight_94 : decode prog_1_method_26_code 94 = .ok (.tableswitch 146 4 6 #[26, 75, 116], 26) := by decide +kernel
theorem d_PL_isRight_120 : decode prog_1_method_26_code 120 = .ok (.aload_n 0, 1) := by decide +kernel
theorem d_PL_isRight_121 : decode prog_1_method_26_code 121 = .ok (.getfield 19, 3) := by decide +kernel
theorem d_PL_isRight_124 : decode prog_1_method_26_code 124 = .ok (.iload_n 3, 1) := by decide +kernel
theorem d_PL_isRight_125 : decode prog_1_method_26_code 125 = .ok (.invokevirtual 146, 3) := by decide +kernel
theorem d_PL_isRight_128 : decode prog_1_method_26_code 128 = .ok (.ifCond .eq 39, 3) := by decide +kernel
theorem d_PL_isRight_131 : decode prog_1_method_26_code 131 = .ok (.aload_n 0, 1) := by decide +kernel
theorem d_PL_isRight_132 : decode prog_1_method_26_code 132 = .ok (.getfield 19, 3) := by decide +kernel
theorem d_PL_isRight_135 : decode prog_1_method_26_code 135 = .ok (.iload 4, 2) := by decide +kernel
theorem d_PL_isRight_137 : decode prog_1_method_26_code 137 = .ok (.invokevirtual 146, 3) := by decide +kernel
theorem d_PL_isRight_140 : decode prog_1_method_26_code 140 = .ok (.ifCond .eq 27, 3) := by decide +kernel
theorem d_PL_isRight_143 : decode prog_1_method_26_code 143 = .ok (.aload_n 0, 1) := by decide +kernel
theorem d_PL_isRight_144 : decode prog_1_method_26_code 144 = .ok (.getfield 69, 3) := by decide +kernel
theorem d_PL_isRight_147 : decode prog_1_method_26_code 147 = .ok (.getfield 162, 3) := by decide +kernel
theorem d_PL_isRight_150 : decode prog_1_method_26_code 150 = .ok (.getfield 166, 3) := by decide +kernel
theorem d_PL_isRight_153 : decode prog_1_method_26_code 153 = .ok (.iload 4, 2) := by decide +kernel
theorem d_PL_isRight_155 : decode prog_1_method_26_code 155 = .ok (.iaload, 1) := by decide +kernel
theorem d_PL_isRight_156 : decode prog_1_method_26_code 156 = .ok (.iload_n 3, 1) := by decide +kernel
theorem d_PL_isRight_157 : decode prog_1_method_26_code 157 = .ok (.invokestatic 182, 3) := by decide +kernel
theorem d_PL_isRight_160 : decode prog_1_method_26_code 160 = .ok (.ifCond .eq 7, 3) := by decide +kernel
theorem d_PL_isRight_163 : decode prog_1_method_26_code 163 = .ok (.iconst 1, 1) := by decide +kernel
theorem d_PL_isRight_164 : decode prog_1_method_26_code 164 = .ok (.goto 4, 3) := by decide +kernel
theorem d_PL_isRight_167 : decode prog_1_method_26_code 167 = .ok (.iconst 0, 1) := by decide +kernel
theorem d_PL_isRight_168 : decode prog_1_method_26_code 168 = .ok (.ireturn, 1) := by decide +kernel
theorem d_PL_isRight_169 : decode prog_1_method_26_code 169 = .ok (.aload_n 0, 1) := by decide +kernel
theorem d_PL_isRight_170 : decode prog_1_method_26_code 170 = .ok (.getfield 19, 3) := by decide +kernel
theorem d_PL_isRight_173 : decode prog_1_method_26_code 173 = .ok (.iload_n 3, 1) := by decide +kernel
theorem d_PL_isRight_174 : decode prog_1_method_26_code 174 = .ok (.invokevirtual 146, 3) := by decide +kernel
theorem d_PL_isRight_177 : decode prog_1_method_26_code 177 = .ok (.ifCond .eq 31, 3) := by decide +kernel
theorem d_PL_isRight_180 : decode prog_1_method_26_code 180 = .ok (.iload 4, 2) := by decide +kernel
theorem d_PL_isRight_182 : decode prog_1_method_26_code 182 = .ok (.aload_n 0, 1) := by decide +kernel
theorem d_PL_isRight_183 : decode prog_1_method_26_code 183 = .ok (.getfield 69, 3) := by decide +kernel
theorem d_PL_isRight_186 : decode prog_1_method_26_code 186 = .ok (.getfield 122, 3) := by decide +kernel
theorem d_PL_isRight_189 : decode prog_1_method_26_code 189 = .ok (.iload_n 3, 1) := by decide +kernel
theorem d_PL_isRight_190 : decode prog_1_method_26_code 190 = .ok (.invokestatic 182, 3) := by decide +kernel
theorem d_PL_isRight_193 : decode prog_1_method_26_code 193 = .ok (.ifCond .eq 7, 3) := by decide +kernel
theorem d_PL_isRight_196 : decode prog_1_method_26_code 196 = .ok (.iconst 1, 1) := by decide +kernel
theorem d_PL_isRight_197 : decode prog_1_method_26_code 197 = .ok (.goto 4, 3) := by decide +kernel
theorem d_PL_isRight_200 : decode prog_1_method_26_code 200 = .ok (.iconst 0, 1) := by decide +kernel
theorem d_PL_isRight_201 : decode prog_1_method_26_code 201 = .ok (.if_icmp .ne 7, 3) := by decide +kernel
theorem d_PL_isRight_204 : decode prog_1_method_26_code 204 = .ok (.iconst 1, 1) := by decide +kernel
theorem d_PL_isRight_205 : decode prog_1_method_26_code 205 = .ok (.goto 4, 3) := by decide +kernel
theorem d_PL_isRight_208 : decode prog_1_method_26_code 208 = .ok (.iconst 0, 1) := by decide +kernel
theorem d_PL_isRight_209 : decode prog_1_method_26_code 209 = .ok (.ireturn, 1) := by decide +kernel
theorem d_PL_isRight_210 : decode prog_1_method_26_code 210 = .ok (.iload_n 3, 1) := by decide +kernel
theorem d_PL_isRight_211 : decode prog_1_method_26_code 211 = .ok (.ifCond .ne 27, 3) := by decide +kernel
theorem d_PL_isRight_214 : decode prog_1_method_26_code 214 = .ok (.iload 4, 2) := by decide +kernel
theorem d_PL_isRight_216 : decode prog_1_method_26_code 216 = .ok (.aload_n 0, 1) := by decide +kernel
theorem d_PL_isRight_217 : decode prog_1_method_26_code 217 = .ok (.getfield 19, 3) := by decide +kernel
theorem d_PL_isRight_220 : decode prog_1_method_26_code 220 = .ok (.invokevirtual 113, 3) := by decide +kernel
theorem d_PL_isRight_223 : decode prog_1_method_26_code 223 = .ok (.aload_n 0, 1) := by decide +kernel
theorem d_PL_isRight_224 : decode prog_1_method_26_code 224 = .ok (.getfield 69, 3) := by decide +kernel
theorem d_PL_isRight_227 : decode prog_1_method_26_code 227 = .ok (.getfield 116, 3) := by decide +kernel
theorem d_PL_isRight_230 : decode prog_1_method_26_code 230 = .ok (.isub, 1) := by decide +kernel
theorem d_PL_isRight_231 : decode prog_1_method_26_code 231 = .ok (.if_icmp .ne 7, 3) := by decide +kernel
theorem d_PL_isRight_234 : decode prog_1_method_26_code 234 = .ok (.iconst 1, 1) := by decide +kernel
theorem d_PL_isRight_235 : decode prog_1_method_26_code 235 = .ok (.goto 4, 3) := by decide +kernel
theorem d_PL_isRight_238 : decode prog_1_method_26_code 238 = .ok (.iconst 0, 1) := by decide +kernel
theorem d_PL_isRight_239 : decode prog_1_method_26_code 239 = .ok (.ireturn, 1) := by decide +kernel
theorem d_PL_isRight_240 : decode prog_1_method_26_code 240 = .ok (.iconst 0, 1) := by decide +kernel
theorem d_PL_isRight_241 : decode prog_1_method_26_code 241 = .ok (.ireturn, 1) := by decide +kernel
def B_PL_isRight (_ : Nat × Nat) : PS :=
  (sSq (sI 2 (eDI (fun x y : Int32 => x / y) (eI 1) (eV (10000 : Int32))))
    (sSq (sI 3 (eDI (fun x y : Int32 => x - x / y * y) (eDI (fun x y : Int32 => x / y) (eI 1) (eV (100 : Int32))) (eV (100 : Int32))))
    (sSq (sI 4 (eDI (fun x y : Int32 => x - x / y * y) (eI 1) (eV (100 : Int32))))
    (sSq (sIf (cA (e2 (fun x y : Int32 => decide (y ≤ x)) (eI 2) (eV (1 : Int32))) (e2 (fun x y : Int32 => decide (x ≤ y)) (eI 2) (eV (3 : Int32)))) (sSq (sI 5 (eIf (e2 (fun x y : Int32 => decide (x = y)) (eI 2) (eV (1 : Int32))) (eV (18 : Int32)) (eIf (e2 (fun x y : Int32 => decide (x = y)) (eI 2) (eV (2 : Int32))) (eV (17 : Int32)) (eV (16 : Int32)))))
    (sSq (sIf (cO (e1 (fun x : Int32 => decide (¬ x = 0)) (eI 3)) (cN (e1 (fun x : Int32 => decide (¬ x = 0)) (eX .int (xS 2 X_PL_settingAllows (aC .int (eI 5) (aC .int (eI 4) aN))))))) (sRz (eV (0 : Int32))) sSk)
    (sSq (sAI (eFR 9 5 (eR 0)) (eI 5) (eI 4))
    (sRz (eV (1 : Int32)))))) sSk)
    (sSq (sX (xV 4 2 X_Pack_choosePacks (eFR 9 11 (eR 0)) (aC .ref (eFR 9 5 (eR 0)) (aC .int (eV (0 : Int32)) aN))))
    (sSw 5 (eI 2) [(4, 0), (5, 1), (6, 2)] 3 [(sRz (eC (cA (cA (e1 (fun x : Int32 => decide (¬ x = 0)) (eX .int (xV 1 1 X_Code_has (eFR 9 1 (eR 0)) (aC .int (eI 3) aN)))) (e1 (fun x : Int32 => decide (¬ x = 0)) (eX .int (xV 1 1 X_Code_has (eFR 9 1 (eR 0)) (aC .int (eI 4) aN))))) (e1 (fun x : Int32 => decide (¬ x = 0)) (eX .int (xS 2 X_PL_holds (aC .int (eAI (eFR 2 2 (eFR 4 1 (eFR 9 11 (eR 0)))) (eI 4)) (aC .int (eI 3) aN)))))))),
    (sRz (eC (cA (e1 (fun x : Int32 => decide (¬ x = 0)) (eX .int (xV 1 1 X_Code_has (eFR 9 1 (eR 0)) (aC .int (eI 3) aN)))) (e2 (fun x y : Int32 => decide (x = y)) (eI 4) (eIf (e1 (fun x : Int32 => decide (¬ x = 0)) (eX .int (xS 2 X_PL_holds (aC .int (eFI 4 11 (eFR 9 11 (eR 0))) (aC .int (eI 3) aN))))) (eV (1 : Int32)) (eV (0 : Int32))))))),
    (sRz (eC (cA (e1 (fun x : Int32 => decide (x = 0)) (eI 3)) (e2 (fun x y : Int32 => decide (x = y)) (eI 4) (e2 (fun x y : Int32 => x - y) (eX .int (xV 1 0 X_Code_cost (eFR 9 1 (eR 0)) aN)) (eFI 4 13 (eFR 9 11 (eR 0)))))))),
    (sRz (eV (0 : Int32)))]))))))
def X_PL_isRight : PM := fun vs h Q => (lx vs).length ≤ 6 ∧ B_PL_isRight (h.length + 0, hsz h + 0) (fun _ _ => False) (fun _ _ => False) (fun _ _ => False) Q (lini 6 vs) h
theorem v_PL_isRight (l : Launch) : Ctr l y_PL_isRight prog_1_method_26_code 6 (some .boolean) rm_PL_isRight X_PL_isRight := by
  refine Ctr_of (own := "PackLanes") (B := B_PL_isRight) (KR := fun _ Q => Q) (by decide) rfl (fun _ _ _ z => z) (fun _ _ _ _ z => ⟨Or.inl ⟨rfl, rfl⟩, z⟩) (Or.inr (Or.inr (Or.inl rfl))) (fun κ hl ho hR hrt hn0 => ?_)
  subst hl
  unfold B_PL_isRight
  exact (S_sq (pc1 := 6) (S_In (pc1 := 5) (E_idiv (pc1 := 1) (pc2 := 4) (E_iln d_PL_isRight_0 rfl) (E_si d_PL_isRight_1 rfl) d_PL_isRight_4) d_PL_isRight_5 rfl)
    (S_sq (pc1 := 14) (S_In (pc1 := 13) (E_irem (pc1 := 10) (pc2 := 12) (E_idiv (pc1 := 7) (pc2 := 9) (E_iln d_PL_isRight_6 rfl) (E_bi d_PL_isRight_7 rfl) d_PL_isRight_9) (E_bi d_PL_isRight_10 rfl) d_PL_isRight_12) d_PL_isRight_13 rfl)
    (S_sq (pc1 := 20) (S_I (pc1 := 18) (E_irem (pc1 := 15) (pc2 := 17) (E_iln d_PL_isRight_14 rfl) (E_bi d_PL_isRight_15 rfl) d_PL_isRight_17) d_PL_isRight_18)
    (S_sq (pc1 := 81) (S_if1 (pT := 30) (pF := 81) (C_and (pc1 := 25) (J2_ge (pF := 81) (pc1 := 21) (pc2 := 22) (E_iln d_PL_isRight_20 rfl) (E_ic d_PL_isRight_21 rfl) d_PL_isRight_22 rfl) (J2_le (pF := 81) (pc1 := 26) (pc2 := 27) (E_iln d_PL_isRight_25 rfl) (E_ic d_PL_isRight_26 rfl) d_PL_isRight_27 rfl)) (S_sq (pc1 := 54) (S_I (pc1 := 52) (E_if (pT := 35) (pF := 40) (pc1 := 37) (pc2 := 52) (J2_eq (pF := 40) (pc1 := 31) (pc2 := 32) (E_iln d_PL_isRight_30 rfl) (E_ic d_PL_isRight_31 rfl) d_PL_isRight_32 rfl) (E_bi d_PL_isRight_35 rfl) d_PL_isRight_37 rfl (E_if (pT := 45) (pF := 50) (pc1 := 47) (pc2 := 52) (J2_eq (pF := 50) (pc1 := 41) (pc2 := 42) (E_iln d_PL_isRight_40 rfl) (E_ic d_PL_isRight_41 rfl) d_PL_isRight_42 rfl) (E_bi d_PL_isRight_45 rfl) d_PL_isRight_47 rfl (E_bi d_PL_isRight_50 rfl))) d_PL_isRight_52)
    (S_sq (pc1 := 70) (S_if1 (pT := 68) (pF := 70) (C_or (pc1 := 58) (T1_ne (pT := 68) (pc2 := 55) (E_iln d_PL_isRight_54 rfl) d_PL_isRight_55 rfl) (C_not (T1_ne (pT := 70) (pc2 := 65) (E_x (O_S k_PL_190 (v_PL_settingAllows _) ⟨rfl, rfl⟩ ho (rk hR rfl) (by decide) (pc2 := 62) (A_c catI (pc1 := 60) (E_il d_PL_isRight_58) (A_c catI (pc1 := 62) (E_il d_PL_isRight_60) A_n)) d_PL_isRight_62)) d_PL_isRight_65 rfl))) (S_rz hrt (pc1 := 69) (E_ic d_PL_isRight_68 rfl) d_PL_isRight_69))
    (S_sq (pc1 := 79) (S_AI (pc1 := 74) (pc2 := 76) (pc3 := 78) (E_fR f_PL_33 ho (pc1 := 71) (E_aln d_PL_isRight_70 rfl) d_PL_isRight_71) (E_il d_PL_isRight_74) (E_il d_PL_isRight_76) d_PL_isRight_78)
    (S_rz hrt (pc1 := 80) (E_ic d_PL_isRight_79 rfl) d_PL_isRight_80)))))
    (S_sq (pc1 := 93) (S_X (O_V k_PL_90 (v_Pack_choosePacks _) ⟨rfl, rfl⟩ ho (rk hR rfl) (by decide) (T := KT4) (N := 14) rfl (by decide) (pc1 := 85) (pc2 := 90) (E_fR f_PL_69 ho (pc1 := 82) (E_aln d_PL_isRight_81 rfl) d_PL_isRight_82) (A_c catR (pc1 := 89) (E_fR f_PL_33 ho (pc1 := 86) (E_aln d_PL_isRight_85 rfl) d_PL_isRight_86) (A_c catI (pc1 := 90) (E_ic d_PL_isRight_89 rfl) A_n)) d_PL_isRight_90))
    (S_sw (pcs := [120, 169, 210, 240, _]) (pc1 := 94)  (E_iln d_PL_isRight_93 rfl) (fun _ _ _ k => r_tsw d_PL_isRight_94 (by decide +kernel) k) (And.intro (S_rz hrt (pc1 := 168) (E_C (pT := 163) (pF := 167) (pc2 := 168) (C_and (pc1 := 143) (C_and (pc1 := 131) (J1_ne (pF := 167) (pc2 := 128) (E_x (O_V k_PL_146 (v_Code_has _) ⟨rfl, rfl⟩ ho (rk hR rfl) (by decide) (T := KT1) (N := 7) rfl (by decide) (pc1 := 124) (pc2 := 125) (E_fR f_PL_19 ho (pc1 := 121) (E_aln d_PL_isRight_120 rfl) d_PL_isRight_121) (A_c catI (pc1 := 125) (E_iln d_PL_isRight_124 rfl) A_n) d_PL_isRight_125)) d_PL_isRight_128 rfl) (J1_ne (pF := 167) (pc2 := 140) (E_x (O_V k_PL_146 (v_Code_has _) ⟨rfl, rfl⟩ ho (rk hR rfl) (by decide) (T := KT1) (N := 7) rfl (by decide) (pc1 := 135) (pc2 := 137) (E_fR f_PL_19 ho (pc1 := 132) (E_aln d_PL_isRight_131 rfl) d_PL_isRight_132) (A_c catI (pc1 := 137) (E_il d_PL_isRight_135) A_n) d_PL_isRight_137)) d_PL_isRight_140 rfl)) (J1_ne (pF := 167) (pc2 := 160) (E_x (O_S k_PL_182 (v_PL_holds _) ⟨rfl, rfl⟩ ho (rk hR rfl) (by decide) (pc2 := 157) (A_c catI (pc1 := 156) (E_aI (pc1 := 153) (pc2 := 155) (E_fR f_PL_166 ho (pc1 := 150) (E_fR f_PL_162 ho (pc1 := 147) (E_fR f_PL_69 ho (pc1 := 144) (E_aln d_PL_isRight_143 rfl) d_PL_isRight_144) d_PL_isRight_147) d_PL_isRight_150) (E_il d_PL_isRight_153) d_PL_isRight_155) (A_c catI (pc1 := 157) (E_iln d_PL_isRight_156 rfl) A_n)) d_PL_isRight_157)) d_PL_isRight_160 rfl)) d_PL_isRight_163 d_PL_isRight_164 rfl d_PL_isRight_167 rfl) d_PL_isRight_168)
    (And.intro (S_rz hrt (pc1 := 209) (E_C (pT := 204) (pF := 208) (pc2 := 209) (C_and (pc1 := 180) (J1_ne (pF := 208) (pc2 := 177) (E_x (O_V k_PL_146 (v_Code_has _) ⟨rfl, rfl⟩ ho (rk hR rfl) (by decide) (T := KT1) (N := 7) rfl (by decide) (pc1 := 173) (pc2 := 174) (E_fR f_PL_19 ho (pc1 := 170) (E_aln d_PL_isRight_169 rfl) d_PL_isRight_170) (A_c catI (pc1 := 174) (E_iln d_PL_isRight_173 rfl) A_n) d_PL_isRight_174)) d_PL_isRight_177 rfl) (J2_eq (pF := 208) (pc1 := 182) (pc2 := 201) (E_il d_PL_isRight_180) (E_if (pT := 196) (pF := 200) (pc1 := 197) (pc2 := 201) (J1_ne (pF := 200) (pc2 := 193) (E_x (O_S k_PL_182 (v_PL_holds _) ⟨rfl, rfl⟩ ho (rk hR rfl) (by decide) (pc2 := 190) (A_c catI (pc1 := 189) (E_fI f_PL_122 ho (pc1 := 186) (E_fR f_PL_69 ho (pc1 := 183) (E_aln d_PL_isRight_182 rfl) d_PL_isRight_183) d_PL_isRight_186) (A_c catI (pc1 := 190) (E_iln d_PL_isRight_189 rfl) A_n)) d_PL_isRight_190)) d_PL_isRight_193 rfl) (E_ic d_PL_isRight_196 rfl) d_PL_isRight_197 rfl (E_ic d_PL_isRight_200 rfl)) d_PL_isRight_201 rfl)) d_PL_isRight_204 d_PL_isRight_205 rfl d_PL_isRight_208 rfl) d_PL_isRight_209)
    (And.intro (S_rz hrt (pc1 := 239) (E_C (pT := 234) (pF := 238) (pc2 := 239) (C_and (pc1 := 214) (J1_eq (pF := 238) (pc2 := 211) (E_iln d_PL_isRight_210 rfl) d_PL_isRight_211 rfl) (J2_eq (pF := 238) (pc1 := 216) (pc2 := 231) (E_il d_PL_isRight_214) (E_isub (pc1 := 223) (pc2 := 230) (E_x (O_V k_PL_113 (v_Code_cost _) ⟨rfl, rfl⟩ ho (rk hR rfl) (by decide) (T := KT1) (N := 7) rfl (by decide) (pc1 := 220) (pc2 := 220) (E_fR f_PL_19 ho (pc1 := 217) (E_aln d_PL_isRight_216 rfl) d_PL_isRight_217) A_n d_PL_isRight_220)) (E_fI f_PL_116 ho (pc1 := 227) (E_fR f_PL_69 ho (pc1 := 224) (E_aln d_PL_isRight_223 rfl) d_PL_isRight_224) d_PL_isRight_227) d_PL_isRight_230) d_PL_isRight_231 rfl)) d_PL_isRight_234 d_PL_isRight_235 rfl d_PL_isRight_238 rfl) d_PL_isRight_239)
    (And.intro (S_rz hrt (pc1 := 241) (E_ic d_PL_isRight_240 rfl) d_PL_isRight_241)
    rfl)))) (by decide)))))))
theorem d_PL_judge_0 : decode prog_1_method_14_code 0 = .ok (.iload_n 1, 1) := by decide +kernel
theorem d_PL_judge_1 : decode prog_1_method_14_code 1 = .ok (.iconst 1, 1) := by decide +kernel
theorem d_PL_judge_2 : decode prog_1_method_14_code 2 = .ok (.if_icmp .lt 14, 3) := by decide +kernel
theorem d_PL_judge_5 : decode prog_1_method_14_code 5 = .ok (.iload_n 1, 1) := by decide +kernel
theorem d_PL_judge_6 : decode prog_1_method_14_code 6 = .ok (.iconst 3, 1) := by decide +kernel
theorem d_PL_judge_7 : decode prog_1_method_14_code 7 = .ok (.if_icmp .gt 9, 3) := by decide +kernel
theorem d_PL_judge_10 : decode prog_1_method_14_code 10 = .ok (.lload_n 2, 1) := by decide +kernel
theorem d_PL_judge_11 : decode prog_1_method_14_code 11 = .ok (.lconst 0, 1) := by decide +kernel
theorem d_PL_judge_12 : decode prog_1_method_14_code 12 = .ok (.lcmp, 1) := by decide +kernel
theorem d_PL_judge_13 : decode prog_1_method_14_code 13 = .ok (.ifCond .ge 6, 3) := by decide +kernel
theorem d_PL_judge_16 : decode prog_1_method_14_code 16 = .ok (.bipush (-2), 2) := by decide +kernel
theorem d_PL_judge_18 : decode prog_1_method_14_code 18 = .ok (.ireturn, 1) := by decide +kernel
theorem d_PL_judge_19 : decode prog_1_method_14_code 19 = .ok (.lload_n 2, 1) := by decide +kernel
theorem d_PL_judge_20 : decode prog_1_method_14_code 20 = .ok (.lstore 4, 2) := by decide +kernel
theorem d_PL_judge_22 : decode prog_1_method_14_code 22 = .ok (.iload_n 1, 1) := by decide +kernel
theorem d_PL_judge_23 : decode prog_1_method_14_code 23 = .ok (.iconst 1, 1) := by decide +kernel
theorem d_PL_judge_24 : decode prog_1_method_14_code 24 = .ok (.isub, 1) := by decide +kernel
theorem d_PL_judge_25 : decode prog_1_method_14_code 25 = .ok (.istore 6, 2) := by decide +kernel
theorem d_PL_judge_27 : decode prog_1_method_14_code 27 = .ok (.iload 6, 2) := by decide +kernel
theorem d_PL_judge_29 : decode prog_1_method_14_code 29 = .ok (.ifCond .lt 31, 3) := by decide +kernel
theorem d_PL_judge_32 : decode prog_1_method_14_code 32 = .ok (.aload_n 0, 1) := by decide +kernel
theorem d_PL_judge_33 : decode prog_1_method_14_code 33 = .ok (.getfield 36, 3) := by decide +kernel
theorem d_PL_judge_36 : decode prog_1_method_14_code 36 = .ok (.iload 6, 2) := by decide +kernel
theorem d_PL_judge_38 : decode prog_1_method_14_code 38 = .ok (.lload 4, 2) := by decide +kernel
theorem d_PL_judge_40 : decode prog_1_method_14_code 40 = .ok (.ldc2_w 207, 3) := by decide +kernel
theorem d_PL_judge_43 : decode prog_1_method_14_code 43 = .ok (.lrem, 1) := by decide +kernel
theorem d_PL_judge_44 : decode prog_1_method_14_code 44 = .ok (.l2i, 1) := by decide +kernel
theorem d_PL_judge_45 : decode prog_1_method_14_code 45 = .ok (.iastore, 1) := by decide +kernel
theorem d_PL_judge_46 : decode prog_1_method_14_code 46 = .ok (.lload 4, 2) := by decide +kernel
theorem d_PL_judge_48 : decode prog_1_method_14_code 48 = .ok (.ldc2_w 207, 3) := by decide +kernel
theorem d_PL_judge_51 : decode prog_1_method_14_code 51 = .ok (.ldiv, 1) := by decide +kernel
theorem d_PL_judge_52 : decode prog_1_method_14_code 52 = .ok (.lstore 4, 2) := by decide +kernel
theorem d_PL_judge_54 : decode prog_1_method_14_code 54 = .ok (.iinc 6 (-1), 3) := by decide +kernel
theorem d_PL_judge_57 : decode prog_1_method_14_code 57 = .ok (.goto (-30), 3) := by decide +kernel
theorem d_PL_judge_60 : decode prog_1_method_14_code 60 = .ok (.lload 4, 2) := by decide +kernel
theorem d_PL_judge_62 : decode prog_1_method_14_code 62 = .ok (.lconst 0, 1) := by decide +kernel
theorem d_PL_judge_63 : decode prog_1_method_14_code 63 = .ok (.lcmp, 1) := by decide +kernel
theorem d_PL_judge_64 : decode prog_1_method_14_code 64 = .ok (.ifCond .eq 6, 3) := by decide +kernel
theorem d_PL_judge_67 : decode prog_1_method_14_code 67 = .ok (.bipush (-2), 2) := by decide +kernel
theorem d_PL_judge_69 : decode prog_1_method_14_code 69 = .ok (.ireturn, 1) := by decide +kernel
theorem d_PL_judge_70 : decode prog_1_method_14_code 70 = .ok (.aload_n 0, 1) := by decide +kernel
theorem d_PL_judge_71 : decode prog_1_method_14_code 71 = .ok (.getfield 26, 3) := by decide +kernel
theorem d_PL_judge_74 : decode prog_1_method_14_code 74 = .ok (.iconst 0, 1) := by decide +kernel
theorem d_PL_judge_75 : decode prog_1_method_14_code 75 = .ok (.aload_n 0, 1) := by decide +kernel
theorem d_PL_judge_76 : decode prog_1_method_14_code 76 = .ok (.getfield 33, 3) := by decide +kernel
theorem d_PL_judge_79 : decode prog_1_method_14_code 79 = .ok (.iconst 0, 1) := by decide +kernel
theorem d_PL_judge_80 : decode prog_1_method_14_code 80 = .ok (.bipush 19, 2) := by decide +kernel
theorem d_PL_judge_82 : decode prog_1_method_14_code 82 = .ok (.invokestatic 209, 3) := by decide +kernel
theorem d_PL_judge_85 : decode prog_1_method_14_code 85 = .ok (.iconst 0, 1) := by decide +kernel
theorem d_PL_judge_86 : decode prog_1_method_14_code 86 = .ok (.istore 6, 2) := by decide +kernel
theorem d_PL_judge_88 : decode prog_1_method_14_code 88 = .ok (.iload 6, 2) := by decide +kernel
theorem d_PL_judge_90 : decode prog_1_method_14_code 90 = .ok (.iload_n 1, 1) := by decide +kernel
theorem d_PL_judge_91 : decode prog_1_method_14_code 91 = .ok (.if_icmp .ge 26, 3) := by decide +kernel
theorem d_PL_judge_94 : decode prog_1_method_14_code 94 = .ok (.aload_n 0, 1) := by decide +kernel
theorem d_PL_judge_95 : decode prog_1_method_14_code 95 = .ok (.aload_n 0, 1) := by decide +kernel
theorem d_PL_judge_96 : decode prog_1_method_14_code 96 = .ok (.getfield 36, 3) := by decide +kernel
theorem d_PL_judge_99 : decode prog_1_method_14_code 99 = .ok (.iload 6, 2) := by decide +kernel
theorem d_PL_judge_101 : decode prog_1_method_14_code 101 = .ok (.iaload, 1) := by decide +kernel
theorem d_PL_judge_102 : decode prog_1_method_14_code 102 = .ok (.invokevirtual 215, 3) := by decide +kernel
theorem d_PL_judge_105 : decode prog_1_method_14_code 105 = .ok (.ifCond .ne 6, 3) := by decide +kernel
theorem d_PL_judge_108 : decode prog_1_method_14_code 108 = .ok (.iload 6, 2) := by decide +kernel
theorem d_PL_judge_110 : decode prog_1_method_14_code 110 = .ok (.ireturn, 1) := by decide +kernel
theorem d_PL_judge_111 : decode prog_1_method_14_code 111 = .ok (.iinc 6 1, 3) := by decide +kernel
theorem d_PL_judge_114 : decode prog_1_method_14_code 114 = .ok (.goto (-26), 3) := by decide +kernel
theorem d_PL_judge_117 : decode prog_1_method_14_code 117 = .ok (.bipush (-9), 2) := by decide +kernel
theorem d_PL_judge_119 : decode prog_1_method_14_code 119 = .ok (.ireturn, 1) := by decide +kernel
def B_PL_judge (_ : Nat × Nat) : PS :=
  (sSq (sIf (cO (cO (e2 (fun x y : Int32 => decide (x < y)) (eI 1) (eV (1 : Int32))) (e2 (fun x y : Int32 => decide (y < x)) (eI 1) (eV (3 : Int32)))) (e2 (fun x y : Int64 => decide (x < y)) (eL 2) (eV (0 : Int64)))) (sRt .int (eV (-2 : Int32))) sSk)
    (sSq (sL 4 (eL 2))
    (sSq (sCut 6 (sSq (sI 6 (e2 (fun x y : Int32 => x - y) (eI 1) (eV (1 : Int32))))
    (sLp 7 (e1 (fun x : Int32 => decide (0 ≤ x)) (eI 6))
    (sSq (sAI (eFR 9 6 (eR 0)) (eI 6) (e1 (fun x : Int64 => x.toInt32) (eDL (fun x y : Int64 => x - x / y * y) (eL 4) (eV (100000 : Int64)))))
    (sL 4 (eDL (fun x y : Int64 => x / y) (eL 4) (eV (100000 : Int64)))))
    (sInc 6 (-1)))))
    (sSq (sIf (e2 (fun x y : Int64 => decide (¬ x = y)) (eL 4) (eV (0 : Int64))) (sRt .int (eV (-2 : Int32))) sSk)
    (sSq (sCp (eFR 9 3 (eR 0)) (eV (0 : Int32)) (eFR 9 5 (eR 0)) (eV (0 : Int32)) (eV (19 : Int32)))
    (sSq (sCut 6 (sSq (sI 6 (eV (0 : Int32)))
    (sLp 7 (e2 (fun x y : Int32 => decide (x < y)) (eI 6) (eI 1))
    (sIf (cN (e1 (fun x : Int32 => decide (¬ x = 0)) (eX .int (xV 9 1 X_PL_isRight (eR 0) (aC .int (eAI (eFR 9 6 (eR 0)) (eI 6)) aN))))) (sRt .int (eI 6)) sSk)
    (sInc 6 (1)))))
    (sRt .int (eV (-9 : Int32)))))))))
def X_PL_judge : PM := fun vs h Q => (lx vs).length ≤ 7 ∧ B_PL_judge (h.length + 0, hsz h + 0) (fun _ _ => False) (fun _ _ => False) (fun _ _ => False) Q (lini 7 vs) h
theorem v_PL_judge (l : Launch) : Ctr l y_PL_judge prog_1_method_14_code 7 (some .int) rm_PL_judge X_PL_judge := by
  refine Ctr_of (own := "PackLanes") (B := B_PL_judge) (KR := fun _ Q => Q) (by decide) rfl (fun _ _ _ z => z) (fun _ _ _ _ z => ⟨Or.inl ⟨rfl, rfl⟩, z⟩) (Or.inr (Or.inl rfl)) (fun κ hl ho hR hrt hn0 => ?_)
  subst hl
  unfold B_PL_judge
  exact (S_sq (pc1 := 19) (S_if1 (pT := 16) (pF := 19) (C_or (pc1 := 10) (C_or (pc1 := 5) (T2_lt (pT := 16) (pc1 := 1) (pc2 := 2) (E_iln d_PL_judge_0 rfl) (E_ic d_PL_judge_1 rfl) d_PL_judge_2 rfl) (T2_gt (pT := 16) (pc1 := 6) (pc2 := 7) (E_iln d_PL_judge_5 rfl) (E_ic d_PL_judge_6 rfl) d_PL_judge_7 rfl)) (JL_lt (pF := 19) (pc1 := 11) (pc2 := 12) (E_lln d_PL_judge_10 rfl) (E_lc d_PL_judge_11 rfl) d_PL_judge_12 d_PL_judge_13 rfl)) (S_ri hrt (pc1 := 18) (E_bi d_PL_judge_16 rfl) d_PL_judge_18))
    (S_sq (pc1 := 22) (S_L (pc1 := 20) (E_lln d_PL_judge_19 rfl) d_PL_judge_20)
    (S_sq (pc1 := 60) (S_cut (S_sq (pc1 := 27) (S_I (pc1 := 25) (E_isub (pc1 := 23) (pc2 := 24) (E_iln d_PL_judge_22 rfl) (E_ic d_PL_judge_23 rfl) d_PL_judge_24) d_PL_judge_25)
    (S_lp (pT := 32) (pF := 60) (pS := 54) (pG := 57) (J1_ge (pF := 60) (pc2 := 29) (E_il d_PL_judge_27) d_PL_judge_29 rfl)
    (S_sq (pc1 := 46) (S_AI (pc1 := 36) (pc2 := 38) (pc3 := 45) (E_fR f_PL_36 ho (pc1 := 33) (E_aln d_PL_judge_32 rfl) d_PL_judge_33) (E_il d_PL_judge_36) (E_l2i (pc1 := 44) (E_lrem (pc1 := 40) (pc2 := 43) (E_ll d_PL_judge_38) (E_ldc2 ho w_cl_PL_207 d_PL_judge_40) d_PL_judge_43) d_PL_judge_44) d_PL_judge_45)
    (S_L (pc1 := 52) (E_ldiv (pc1 := 48) (pc2 := 51) (E_ll d_PL_judge_46) (E_ldc2 ho w_cl_PL_207 d_PL_judge_48) d_PL_judge_51) d_PL_judge_52))
    (S_Inc d_PL_judge_54 rfl) d_PL_judge_57 rfl)))
    (S_sq (pc1 := 70) (S_if1 (pT := 67) (pF := 70) (JL_ne (pF := 70) (pc1 := 62) (pc2 := 63) (E_ll d_PL_judge_60) (E_lc d_PL_judge_62 rfl) d_PL_judge_63 d_PL_judge_64 rfl) (S_ri hrt (pc1 := 69) (E_bi d_PL_judge_67 rfl) d_PL_judge_69))
    (S_sq (pc1 := 85) (S_cp w_ac_PL_209 w_acn w_acs w_aci ho (rk1 hR rfl) (pc1 := 74) (pc2 := 75) (pc3 := 79) (pc4 := 80) (pS := 82) (E_fR f_PL_26 ho (pc1 := 71) (E_aln d_PL_judge_70 rfl) d_PL_judge_71) (E_ic d_PL_judge_74 rfl) (E_fR f_PL_33 ho (pc1 := 76) (E_aln d_PL_judge_75 rfl) d_PL_judge_76) (E_ic d_PL_judge_79 rfl) (E_bi d_PL_judge_80 rfl) d_PL_judge_82)
    (S_sq (pc1 := 117) (S_cut (S_sq (pc1 := 88) (S_I (pc1 := 86) (E_ic d_PL_judge_85 rfl) d_PL_judge_86)
    (S_lp (pT := 94) (pF := 117) (pS := 111) (pG := 114) (J2_lt (pF := 117) (pc1 := 90) (pc2 := 91) (E_il d_PL_judge_88) (E_iln d_PL_judge_90 rfl) d_PL_judge_91 rfl)
    (S_if1 (pT := 108) (pF := 111) (C_not (T1_ne (pT := 111) (pc2 := 105) (E_x (O_V k_PL_215 (v_PL_isRight _) ⟨rfl, rfl⟩ ho (rk hR rfl) (by decide) (T := KT9) (N := 15) rfl (by decide) (pc1 := 95) (pc2 := 102) (E_aln d_PL_judge_94 rfl) (A_c catI (pc1 := 102) (E_aI (pc1 := 99) (pc2 := 101) (E_fR f_PL_36 ho (pc1 := 96) (E_aln d_PL_judge_95 rfl) d_PL_judge_96) (E_il d_PL_judge_99) d_PL_judge_101) A_n) d_PL_judge_102)) d_PL_judge_105 rfl)) (S_ri hrt (pc1 := 110) (E_il d_PL_judge_108) d_PL_judge_110))
    (S_Inc d_PL_judge_111 rfl) d_PL_judge_114 rfl)))
    (S_ri hrt (pc1 := 119) (E_bi d_PL_judge_117 rfl) d_PL_judge_119)))))))
theorem d_Sights_add_0 : decode prog_7_method_2_code 0 = .ok (.aload_n 0, 1) := by decide +kernel
theorem d_Sights_add_1 : decode prog_7_method_2_code 1 = .ok (.getfield 18, 3) := by decide +kernel
theorem d_Sights_add_4 : decode prog_7_method_2_code 4 = .ok (.bipush 6, 2) := by decide +kernel
theorem d_Sights_add_6 : decode prog_7_method_2_code 6 = .ok (.if_icmp .lt 6, 3) := by decide +kernel
theorem d_Sights_add_9 : decode prog_7_method_2_code 9 = .ok (.bipush (-4), 2) := by decide +kernel
theorem d_Sights_add_11 : decode prog_7_method_2_code 11 = .ok (.ireturn, 1) := by decide +kernel
theorem d_Sights_add_12 : decode prog_7_method_2_code 12 = .ok (.aload_n 0, 1) := by decide +kernel
theorem d_Sights_add_13 : decode prog_7_method_2_code 13 = .ok (.getfield 9, 3) := by decide +kernel
theorem d_Sights_add_16 : decode prog_7_method_2_code 16 = .ok (.aload_n 0, 1) := by decide +kernel
theorem d_Sights_add_17 : decode prog_7_method_2_code 17 = .ok (.getfield 18, 3) := by decide +kernel
theorem d_Sights_add_20 : decode prog_7_method_2_code 20 = .ok (.iload_n 1, 1) := by decide +kernel
theorem d_Sights_add_21 : decode prog_7_method_2_code 21 = .ok (.iastore, 1) := by decide +kernel
theorem d_Sights_add_22 : decode prog_7_method_2_code 22 = .ok (.aload_n 0, 1) := by decide +kernel
theorem d_Sights_add_23 : decode prog_7_method_2_code 23 = .ok (.getfield 15, 3) := by decide +kernel
theorem d_Sights_add_26 : decode prog_7_method_2_code 26 = .ok (.aload_n 0, 1) := by decide +kernel
theorem d_Sights_add_27 : decode prog_7_method_2_code 27 = .ok (.getfield 18, 3) := by decide +kernel
theorem d_Sights_add_30 : decode prog_7_method_2_code 30 = .ok (.iload_n 2, 1) := by decide +kernel
theorem d_Sights_add_31 : decode prog_7_method_2_code 31 = .ok (.iastore, 1) := by decide +kernel
theorem d_Sights_add_32 : decode prog_7_method_2_code 32 = .ok (.aload_n 0, 1) := by decide +kernel
theorem d_Sights_add_33 : decode prog_7_method_2_code 33 = .ok (.dup, 1) := by decide +kernel
theorem d_Sights_add_34 : decode prog_7_method_2_code 34 = .ok (.getfield 18, 3) := by decide +kernel
theorem d_Sights_add_37 : decode prog_7_method_2_code 37 = .ok (.iconst 1, 1) := by decide +kernel
theorem d_Sights_add_38 : decode prog_7_method_2_code 38 = .ok (.iadd, 1) := by decide +kernel
theorem d_Sights_add_39 : decode prog_7_method_2_code 39 = .ok (.putfield 18, 3) := by decide +kernel
theorem d_Sights_add_42 : decode prog_7_method_2_code 42 = .ok (.aload_n 0, 1) := by decide +kernel
theorem d_Sights_add_43 : decode prog_7_method_2_code 43 = .ok (.getfield 18, 3) := by decide +kernel
theorem d_Sights_add_46 : decode prog_7_method_2_code 46 = .ok (.ireturn, 1) := by decide +kernel
def B_Sights_add (_ : Nat × Nat) : PS :=
  (sSq (sIf (e2 (fun x y : Int32 => decide (y ≤ x)) (eFI 5 2 (eR 0)) (eV (6 : Int32))) (sRt .int (eV (-4 : Int32))) sSk)
    (sSq (sAI (eFR 5 0 (eR 0)) (eFI 5 2 (eR 0)) (eI 1))
    (sSq (sAI (eFR 5 1 (eR 0)) (eFI 5 2 (eR 0)) (eI 2))
    (sSq (sFO 5 2 (fun x y : Int32 => x + y) (eR 0) (eV (1 : Int32)))
    (sRt .int (eFI 5 2 (eR 0)))))))
def X_Sights_add : PM := fun vs h Q => (lx vs).length ≤ 3 ∧ B_Sights_add (h.length + 0, hsz h + 0) (fun _ _ => False) (fun _ _ => False) (fun _ _ => False) Q (lini 3 vs) h
theorem v_Sights_add (l : Launch) : Ctr l y_Sights_add prog_7_method_2_code 3 (some .int) rm_Sights_add X_Sights_add := by
  refine Ctr_of (own := "PackLanes$Sights") (B := B_Sights_add) (KR := fun _ Q => Q) (by decide) rfl (fun _ _ _ z => z) (fun _ _ _ _ z => ⟨Or.inl ⟨rfl, rfl⟩, z⟩) (Or.inr (Or.inl rfl)) (fun κ hl ho hR hrt hn0 => ?_)
  subst hl
  unfold B_Sights_add
  exact (S_sq (pc1 := 12) (S_if1 (pT := 9) (pF := 12) (J2_ge (pF := 12) (pc1 := 4) (pc2 := 6) (E_fI f_Sights_18 ho (pc1 := 1) (E_aln d_Sights_add_0 rfl) d_Sights_add_1) (E_bi d_Sights_add_4 rfl) d_Sights_add_6 rfl) (S_ri hrt (pc1 := 11) (E_bi d_Sights_add_9 rfl) d_Sights_add_11))
    (S_sq (pc1 := 22) (S_AI (pc1 := 16) (pc2 := 20) (pc3 := 21) (E_fR f_Sights_9 ho (pc1 := 13) (E_aln d_Sights_add_12 rfl) d_Sights_add_13) (E_fI f_Sights_18 ho (pc1 := 17) (E_aln d_Sights_add_16 rfl) d_Sights_add_17) (E_iln d_Sights_add_20 rfl) d_Sights_add_21)
    (S_sq (pc1 := 32) (S_AI (pc1 := 26) (pc2 := 30) (pc3 := 31) (E_fR f_Sights_15 ho (pc1 := 23) (E_aln d_Sights_add_22 rfl) d_Sights_add_23) (E_fI f_Sights_18 ho (pc1 := 27) (E_aln d_Sights_add_26 rfl) d_Sights_add_27) (E_iln d_Sights_add_30 rfl) d_Sights_add_31)
    (S_sq (pc1 := 42) (S_FO f_Sights_18 f_Sights_18 ho (pc1 := 33) (pc2 := 38) (E_aln d_Sights_add_32 rfl) d_Sights_add_33 d_Sights_add_34 (E_ic d_Sights_add_37 rfl) (fun _ _ _ _ _ k => r_iadd d_Sights_add_38 k) d_Sights_add_39)
    (S_ri hrt (pc1 := 46) (E_fI f_Sights_18 ho (pc1 := 43) (E_aln d_Sights_add_42 rfl) d_Sights_add_43) d_Sights_add_46)))))
theorem d_PL_see_0 : decode prog_1_method_15_code 0 = .ok (.iload_n 1, 1) := by decide +kernel
theorem d_PL_see_1 : decode prog_1_method_15_code 1 = .ok (.ifCond .lt 9, 3) := by decide +kernel
theorem d_PL_see_4 : decode prog_1_method_15_code 4 = .ok (.iload_n 1, 1) := by decide +kernel
theorem d_PL_see_5 : decode prog_1_method_15_code 5 = .ok (.bipush 16, 2) := by decide +kernel
theorem d_PL_see_7 : decode prog_1_method_15_code 7 = .ok (.if_icmp .lt 5, 3) := by decide +kernel
theorem d_PL_see_10 : decode prog_1_method_15_code 10 = .ok (.iconst (-1), 1) := by decide +kernel
theorem d_PL_see_11 : decode prog_1_method_15_code 11 = .ok (.ireturn, 1) := by decide +kernel
theorem d_PL_see_12 : decode prog_1_method_15_code 12 = .ok (.aload_n 0, 1) := by decide +kernel
theorem d_PL_see_13 : decode prog_1_method_15_code 13 = .ok (.getfield 56, 3) := by decide +kernel
theorem d_PL_see_16 : decode prog_1_method_15_code 16 = .ok (.iload_n 1, 1) := by decide +kernel
theorem d_PL_see_17 : decode prog_1_method_15_code 17 = .ok (.iload_n 2, 1) := by decide +kernel
theorem d_PL_see_18 : decode prog_1_method_15_code 18 = .ok (.invokevirtual 218, 3) := by decide +kernel
theorem d_PL_see_21 : decode prog_1_method_15_code 21 = .ok (.ireturn, 1) := by decide +kernel
def B_PL_see (_ : Nat × Nat) : PS :=
  (sSq (sIf (cO (e1 (fun x : Int32 => decide (x < 0)) (eI 1)) (e2 (fun x y : Int32 => decide (y ≤ x)) (eI 1) (eV (16 : Int32)))) (sRt .int (eV (-1 : Int32))) sSk)
    (sRt .int (eX .int (xV 5 2 X_Sights_add (eFR 9 9 (eR 0)) (aC .int (eI 1) (aC .int (eI 2) aN))))))
def X_PL_see : PM := fun vs h Q => (lx vs).length ≤ 3 ∧ B_PL_see (h.length + 0, hsz h + 0) (fun _ _ => False) (fun _ _ => False) (fun _ _ => False) Q (lini 3 vs) h
theorem v_PL_see (l : Launch) : Ctr l y_PL_see prog_1_method_15_code 3 (some .int) rm_PL_see X_PL_see := by
  refine Ctr_of (own := "PackLanes") (B := B_PL_see) (KR := fun _ Q => Q) (by decide) rfl (fun _ _ _ z => z) (fun _ _ _ _ z => ⟨Or.inl ⟨rfl, rfl⟩, z⟩) (Or.inr (Or.inl rfl)) (fun κ hl ho hR hrt hn0 => ?_)
  subst hl
  unfold B_PL_see
  exact (S_sq (pc1 := 12) (S_if1 (pT := 10) (pF := 12) (C_or (pc1 := 4) (T1_lt (pT := 10) (pc2 := 1) (E_iln d_PL_see_0 rfl) d_PL_see_1 rfl) (J2_ge (pF := 12) (pc1 := 5) (pc2 := 7) (E_iln d_PL_see_4 rfl) (E_bi d_PL_see_5 rfl) d_PL_see_7 rfl)) (S_ri hrt (pc1 := 11) (E_ic d_PL_see_10 rfl) d_PL_see_11))
    (S_ri hrt (pc1 := 21) (E_x (O_V k_PL_218 (v_Sights_add _) ⟨rfl, rfl⟩ ho (rk hR rfl) (by decide) (T := KT5) (N := 3) rfl (by decide) (pc1 := 16) (pc2 := 18) (E_fR f_PL_56 ho (pc1 := 13) (E_aln d_PL_see_12 rfl) d_PL_see_13) (A_c catI (pc1 := 17) (E_iln d_PL_see_16 rfl) (A_c catI (pc1 := 18) (E_iln d_PL_see_17 rfl) A_n)) d_PL_see_18)) d_PL_see_21))
theorem d_Sights_clear_0 : decode prog_7_method_3_code 0 = .ok (.aload_n 0, 1) := by decide +kernel
theorem d_Sights_clear_1 : decode prog_7_method_3_code 1 = .ok (.getfield 18, 3) := by decide +kernel
theorem d_Sights_clear_4 : decode prog_7_method_3_code 4 = .ok (.istore_n 1, 1) := by decide +kernel
theorem d_Sights_clear_5 : decode prog_7_method_3_code 5 = .ok (.aload_n 0, 1) := by decide +kernel
theorem d_Sights_clear_6 : decode prog_7_method_3_code 6 = .ok (.iconst 0, 1) := by decide +kernel
theorem d_Sights_clear_7 : decode prog_7_method_3_code 7 = .ok (.putfield 18, 3) := by decide +kernel
theorem d_Sights_clear_10 : decode prog_7_method_3_code 10 = .ok (.iload_n 1, 1) := by decide +kernel
theorem d_Sights_clear_11 : decode prog_7_method_3_code 11 = .ok (.ireturn, 1) := by decide +kernel
def B_Sights_clear (_ : Nat × Nat) : PS :=
  (sSq (sI 1 (eFI 5 2 (eR 0)))
    (sSq (sF .int 5 2 (eR 0) (eV (0 : Int32)))
    (sRt .int (eI 1))))
def X_Sights_clear : PM := fun vs h Q => (lx vs).length ≤ 2 ∧ B_Sights_clear (h.length + 0, hsz h + 0) (fun _ _ => False) (fun _ _ => False) (fun _ _ => False) Q (lini 2 vs) h
theorem v_Sights_clear (l : Launch) : Ctr l y_Sights_clear prog_7_method_3_code 2 (some .int) rm_Sights_clear X_Sights_clear := by
  refine Ctr_of (own := "PackLanes$Sights") (B := B_Sights_clear) (KR := fun _ Q => Q) (by decide) rfl (fun _ _ _ z => z) (fun _ _ _ _ z => ⟨Or.inl ⟨rfl, rfl⟩, z⟩) (Or.inr (Or.inl rfl)) (fun κ hl ho hR hrt hn0 => ?_)
  subst hl
  unfold B_Sights_clear
  exact (S_sq (pc1 := 5) (S_In (pc1 := 4) (E_fI f_Sights_18 ho (pc1 := 1) (E_aln d_Sights_clear_0 rfl) d_Sights_clear_1) d_Sights_clear_4 rfl)
    (S_sq (pc1 := 10) (S_FI f_Sights_18 ho (pc1 := 6) (pc2 := 7) (E_aln d_Sights_clear_5 rfl) (E_ic d_Sights_clear_6 rfl) d_Sights_clear_7)
    (S_ri hrt (pc1 := 11) (E_iln d_Sights_clear_10 rfl) d_Sights_clear_11)))
theorem d_PL_unsee_0 : decode prog_1_method_16_code 0 = .ok (.aload_n 0, 1) := by decide +kernel
theorem d_PL_unsee_1 : decode prog_1_method_16_code 1 = .ok (.getfield 56, 3) := by decide +kernel
theorem d_PL_unsee_4 : decode prog_1_method_16_code 4 = .ok (.invokevirtual 221, 3) := by decide +kernel
theorem d_PL_unsee_7 : decode prog_1_method_16_code 7 = .ok (.ireturn, 1) := by decide +kernel
def B_PL_unsee (_ : Nat × Nat) : PS :=
  (sRt .int (eX .int (xV 5 0 X_Sights_clear (eFR 9 9 (eR 0)) aN)))
def X_PL_unsee : PM := fun vs h Q => (lx vs).length ≤ 1 ∧ B_PL_unsee (h.length + 0, hsz h + 0) (fun _ _ => False) (fun _ _ => False) (fun _ _ => False) Q (lini 1 vs) h
theorem v_PL_unsee (l : Launch) : Ctr l y_PL_unsee prog_1_method_16_code 1 (some .int) rm_PL_unsee X_PL_unsee := by
  refine Ctr_of (own := "PackLanes") (B := B_PL_unsee) (KR := fun _ Q => Q) (by decide) rfl (fun _ _ _ z => z) (fun _ _ _ _ z => ⟨Or.inl ⟨rfl, rfl⟩, z⟩) (Or.inr (Or.inl rfl)) (fun κ hl ho hR hrt hn0 => ?_)
  subst hl
  unfold B_PL_unsee
  exact (S_ri hrt (pc1 := 7) (E_x (O_V k_PL_221 (v_Sights_clear _) ⟨rfl, rfl⟩ ho (rk hR rfl) (by decide) (T := KT5) (N := 3) rfl (by decide) (pc1 := 4) (pc2 := 4) (E_fR f_PL_56 ho (pc1 := 1) (E_aln d_PL_unsee_0 rfl) d_PL_unsee_1) A_n d_PL_unsee_4)) d_PL_unsee_7)
theorem d_Sights_agreeWith_0 : decode prog_7_method_4_code 0 = .ok (.iconst 0, 1) := by decide +kernel
theorem d_Sights_agreeWith_1 : decode prog_7_method_4_code 1 = .ok (.istore_n 2, 1) := by decide +kernel
theorem d_Sights_agreeWith_2 : decode prog_7_method_4_code 2 = .ok (.iload_n 2, 1) := by decide +kernel
theorem d_Sights_agreeWith_3 : decode prog_7_method_4_code 3 = .ok (.aload_n 0, 1) := by decide +kernel
theorem d_Sights_agreeWith_4 : decode prog_7_method_4_code 4 = .ok (.getfield 18, 3) := by decide +kernel
theorem d_Sights_agreeWith_7 : decode prog_7_method_4_code 7 = .ok (.if_icmp .ge 31, 3) := by decide +kernel
theorem d_Sights_agreeWith_10 : decode prog_7_method_4_code 10 = .ok (.aload_n 1, 1) := by decide +kernel
theorem d_Sights_agreeWith_11 : decode prog_7_method_4_code 11 = .ok (.aload_n 0, 1) := by decide +kernel
theorem d_Sights_agreeWith_12 : decode prog_7_method_4_code 12 = .ok (.getfield 9, 3) := by decide +kernel
theorem d_Sights_agreeWith_15 : decode prog_7_method_4_code 15 = .ok (.iload_n 2, 1) := by decide +kernel
theorem d_Sights_agreeWith_16 : decode prog_7_method_4_code 16 = .ok (.iaload, 1) := by decide +kernel
theorem d_Sights_agreeWith_17 : decode prog_7_method_4_code 17 = .ok (.bipush 15, 2) := by decide +kernel
theorem d_Sights_agreeWith_19 : decode prog_7_method_4_code 19 = .ok (.iand, 1) := by decide +kernel
theorem d_Sights_agreeWith_20 : decode prog_7_method_4_code 20 = .ok (.iaload, 1) := by decide +kernel
theorem d_Sights_agreeWith_21 : decode prog_7_method_4_code 21 = .ok (.aload_n 0, 1) := by decide +kernel
theorem d_Sights_agreeWith_22 : decode prog_7_method_4_code 22 = .ok (.getfield 15, 3) := by decide +kernel
theorem d_Sights_agreeWith_25 : decode prog_7_method_4_code 25 = .ok (.iload_n 2, 1) := by decide +kernel
theorem d_Sights_agreeWith_26 : decode prog_7_method_4_code 26 = .ok (.iaload, 1) := by decide +kernel
theorem d_Sights_agreeWith_27 : decode prog_7_method_4_code 27 = .ok (.if_icmp .eq 5, 3) := by decide +kernel
theorem d_Sights_agreeWith_30 : decode prog_7_method_4_code 30 = .ok (.iconst 0, 1) := by decide +kernel
theorem d_Sights_agreeWith_31 : decode prog_7_method_4_code 31 = .ok (.ireturn, 1) := by decide +kernel
theorem d_Sights_agreeWith_32 : decode prog_7_method_4_code 32 = .ok (.iinc 2 1, 3) := by decide +kernel
theorem d_Sights_agreeWith_35 : decode prog_7_method_4_code 35 = .ok (.goto (-33), 3) := by decide +kernel
theorem d_Sights_agreeWith_38 : decode prog_7_method_4_code 38 = .ok (.iconst 1, 1) := by decide +kernel
theorem d_Sights_agreeWith_39 : decode prog_7_method_4_code 39 = .ok (.ireturn, 1) := by decide +kernel
def B_Sights_agreeWith (_ : Nat × Nat) : PS :=
  (sSq (sCut 2 (sSq (sI 2 (eV (0 : Int32)))
    (sLp 3 (e2 (fun x y : Int32 => decide (x < y)) (eI 2) (eFI 5 2 (eR 0)))
    (sIf (e2 (fun x y : Int32 => decide (¬ x = y)) (eAI (eR 1) (e2 (fun x y : Int32 => x &&& y) (eAI (eFR 5 0 (eR 0)) (eI 2)) (eV (15 : Int32)))) (eAI (eFR 5 1 (eR 0)) (eI 2))) (sRz (eV (0 : Int32))) sSk)
    (sInc 2 (1)))))
    (sRz (eV (1 : Int32))))
def X_Sights_agreeWith : PM := fun vs h Q => (lx vs).length ≤ 3 ∧ B_Sights_agreeWith (h.length + 0, hsz h + 0) (fun _ _ => False) (fun _ _ => False) (fun _ _ => False) Q (lini 3 vs) h
theorem v_Sights_agreeWith (l : Launch) : Ctr l y_Sights_agreeWith prog_7_method_4_code 3 (some .boolean) rm_Sights_agreeWith X_Sights_agreeWith := by
  refine Ctr_of (own := "PackLanes$Sights") (B := B_Sights_agreeWith) (KR := fun _ Q => Q) (by decide) rfl (fun _ _ _ z => z) (fun _ _ _ _ z => ⟨Or.inl ⟨rfl, rfl⟩, z⟩) (Or.inr (Or.inr (Or.inl rfl))) (fun κ hl ho hR hrt hn0 => ?_)
  subst hl
  unfold B_Sights_agreeWith
  exact (S_sq (pc1 := 38) (S_cut (S_sq (pc1 := 2) (S_In (pc1 := 1) (E_ic d_Sights_agreeWith_0 rfl) d_Sights_agreeWith_1 rfl)
    (S_lp (pT := 10) (pF := 38) (pS := 32) (pG := 35) (J2_lt (pF := 38) (pc1 := 3) (pc2 := 7) (E_iln d_Sights_agreeWith_2 rfl) (E_fI f_Sights_18 ho (pc1 := 4) (E_aln d_Sights_agreeWith_3 rfl) d_Sights_agreeWith_4) d_Sights_agreeWith_7 rfl)
    (S_if1 (pT := 30) (pF := 32) (J2_ne (pF := 32) (pc1 := 21) (pc2 := 27) (E_aI (pc1 := 11) (pc2 := 20) (E_aln d_Sights_agreeWith_10 rfl) (E_iand (pc1 := 17) (pc2 := 19) (E_aI (pc1 := 15) (pc2 := 16) (E_fR f_Sights_9 ho (pc1 := 12) (E_aln d_Sights_agreeWith_11 rfl) d_Sights_agreeWith_12) (E_iln d_Sights_agreeWith_15 rfl) d_Sights_agreeWith_16) (E_bi d_Sights_agreeWith_17 rfl) d_Sights_agreeWith_19) d_Sights_agreeWith_20) (E_aI (pc1 := 25) (pc2 := 26) (E_fR f_Sights_15 ho (pc1 := 22) (E_aln d_Sights_agreeWith_21 rfl) d_Sights_agreeWith_22) (E_iln d_Sights_agreeWith_25 rfl) d_Sights_agreeWith_26) d_Sights_agreeWith_27 rfl) (S_rz hrt (pc1 := 31) (E_ic d_Sights_agreeWith_30 rfl) d_Sights_agreeWith_31))
    (S_Inc d_Sights_agreeWith_32 rfl) d_Sights_agreeWith_35 rfl)))
    (S_rz hrt (pc1 := 39) (E_ic d_Sights_agreeWith_38 rfl) d_Sights_agreeWith_39))
theorem d_PL_which_0 : decode prog_1_method_17_code 0 = .ok (.iconst 0, 1) := by decide +kernel
theorem d_PL_which_1 : decode prog_1_method_17_code 1 = .ok (.istore_n 1, 1) := by decide +kernel
theorem d_PL_which_2 : decode prog_1_method_17_code 2 = .ok (.iconst 0, 1) := by decide +kernel
theorem d_PL_which_3 : decode prog_1_method_17_code 3 = .ok (.istore_n 2, 1) := by decide +kernel
theorem d_PL_which_4 : decode prog_1_method_17_code 4 = .ok (.iload_n 2, 1) := by decide +kernel
theorem d_PL_which_5 : decode prog_1_method_17_code 5 = .ok (.aload_n 0, 1) := by decide +kernel
theorem d_PL_which_6 : decode prog_1_method_17_code 6 = .ok (.getfield 19, 3) := by decide +kernel
theorem d_PL_which_9 : decode prog_1_method_17_code 9 = .ok (.getfield 109, 3) := by decide +kernel
theorem d_PL_which_12 : decode prog_1_method_17_code 12 = .ok (.if_icmp .ge 44, 3) := by decide +kernel
theorem d_PL_which_15 : decode prog_1_method_17_code 15 = .ok (.aload_n 0, 1) := by decide +kernel
theorem d_PL_which_16 : decode prog_1_method_17_code 16 = .ok (.getfield 75, 3) := by decide +kernel
theorem d_PL_which_19 : decode prog_1_method_17_code 19 = .ok (.aload_n 0, 1) := by decide +kernel
theorem d_PL_which_20 : decode prog_1_method_17_code 20 = .ok (.getfield 26, 3) := by decide +kernel
theorem d_PL_which_23 : decode prog_1_method_17_code 23 = .ok (.iload_n 2, 1) := by decide +kernel
theorem d_PL_which_24 : decode prog_1_method_17_code 24 = .ok (.invokevirtual 128, 3) := by decide +kernel
theorem d_PL_which_27 : decode prog_1_method_17_code 27 = .ok (.aload_n 0, 1) := by decide +kernel
theorem d_PL_which_28 : decode prog_1_method_17_code 28 = .ok (.getfield 56, 3) := by decide +kernel
theorem d_PL_which_31 : decode prog_1_method_17_code 31 = .ok (.aload_n 0, 1) := by decide +kernel
theorem d_PL_which_32 : decode prog_1_method_17_code 32 = .ok (.getfield 75, 3) := by decide +kernel
theorem d_PL_which_35 : decode prog_1_method_17_code 35 = .ok (.getfield 179, 3) := by decide +kernel
theorem d_PL_which_38 : decode prog_1_method_17_code 38 = .ok (.invokevirtual 222, 3) := by decide +kernel
theorem d_PL_which_41 : decode prog_1_method_17_code 41 = .ok (.ifCond .eq 9, 3) := by decide +kernel
theorem d_PL_which_44 : decode prog_1_method_17_code 44 = .ok (.iload_n 1, 1) := by decide +kernel
theorem d_PL_which_45 : decode prog_1_method_17_code 45 = .ok (.iconst 1, 1) := by decide +kernel
theorem d_PL_which_46 : decode prog_1_method_17_code 46 = .ok (.iload_n 2, 1) := by decide +kernel
theorem d_PL_which_47 : decode prog_1_method_17_code 47 = .ok (.ishl, 1) := by decide +kernel
theorem d_PL_which_48 : decode prog_1_method_17_code 48 = .ok (.ior, 1) := by decide +kernel
theorem d_PL_which_49 : decode prog_1_method_17_code 49 = .ok (.istore_n 1, 1) := by decide +kernel
theorem d_PL_which_50 : decode prog_1_method_17_code 50 = .ok (.iinc 2 1, 3) := by decide +kernel
theorem d_PL_which_53 : decode prog_1_method_17_code 53 = .ok (.goto (-49), 3) := by decide +kernel
theorem d_PL_which_56 : decode prog_1_method_17_code 56 = .ok (.iload_n 1, 1) := by decide +kernel
theorem d_PL_which_57 : decode prog_1_method_17_code 57 = .ok (.ireturn, 1) := by decide +kernel
def B_PL_which (_ : Nat × Nat) : PS :=
  (sSq (sI 1 (eV (0 : Int32)))
    (sSq (sCut 2 (sSq (sI 2 (eV (0 : Int32)))
    (sLp 3 (e2 (fun x y : Int32 => decide (x < y)) (eI 2) (eFI 1 6 (eFR 9 1 (eR 0))))
    (sSq (sX (xV 3 2 X_Mach_runInOrder (eFR 9 12 (eR 0)) (aC .ref (eFR 9 3 (eR 0)) (aC .int (eI 2) aN))))
    (sIf (e1 (fun x : Int32 => decide (¬ x = 0)) (eX .int (xV 5 1 X_Sights_agreeWith (eFR 9 9 (eR 0)) (aC .ref (eFR 3 1 (eFR 9 12 (eR 0))) aN)))) (sI 1 (e2 (fun x y : Int32 => x ||| y) (eI 1) (e2 (fun x y : Int32 => x <<< (y &&& 31)) (eV (1 : Int32)) (eI 2)))) sSk))
    (sInc 2 (1)))))
    (sRt .int (eI 1))))
def X_PL_which : PM := fun vs h Q => (lx vs).length ≤ 3 ∧ B_PL_which (h.length + 0, hsz h + 0) (fun _ _ => False) (fun _ _ => False) (fun _ _ => False) Q (lini 3 vs) h
theorem v_PL_which (l : Launch) : Ctr l y_PL_which prog_1_method_17_code 3 (some .int) rm_PL_which X_PL_which := by
  refine Ctr_of (own := "PackLanes") (B := B_PL_which) (KR := fun _ Q => Q) (by decide) rfl (fun _ _ _ z => z) (fun _ _ _ _ z => ⟨Or.inl ⟨rfl, rfl⟩, z⟩) (Or.inr (Or.inl rfl)) (fun κ hl ho hR hrt hn0 => ?_)
  subst hl
  unfold B_PL_which
  exact (S_sq (pc1 := 2) (S_In (pc1 := 1) (E_ic d_PL_which_0 rfl) d_PL_which_1 rfl)
    (S_sq (pc1 := 56) (S_cut (S_sq (pc1 := 4) (S_In (pc1 := 3) (E_ic d_PL_which_2 rfl) d_PL_which_3 rfl)
    (S_lp (pT := 15) (pF := 56) (pS := 50) (pG := 53) (J2_lt (pF := 56) (pc1 := 5) (pc2 := 12) (E_iln d_PL_which_4 rfl) (E_fI f_PL_109 ho (pc1 := 9) (E_fR f_PL_19 ho (pc1 := 6) (E_aln d_PL_which_5 rfl) d_PL_which_6) d_PL_which_9) d_PL_which_12 rfl)
    (S_sq (pc1 := 27) (S_X (O_V k_PL_128 (v_Mach_runInOrder _) ⟨rfl, rfl⟩ ho (rk hR rfl) (by decide) (T := KT3) (N := 5) rfl (by decide) (pc1 := 19) (pc2 := 24) (E_fR f_PL_75 ho (pc1 := 16) (E_aln d_PL_which_15 rfl) d_PL_which_16) (A_c catR (pc1 := 23) (E_fR f_PL_26 ho (pc1 := 20) (E_aln d_PL_which_19 rfl) d_PL_which_20) (A_c catI (pc1 := 24) (E_iln d_PL_which_23 rfl) A_n)) d_PL_which_24))
    (S_if1 (pT := 44) (pF := 50) (J1_ne (pF := 50) (pc2 := 41) (E_x (O_V k_PL_222 (v_Sights_agreeWith _) ⟨rfl, rfl⟩ ho (rk hR rfl) (by decide) (T := KT5) (N := 3) rfl (by decide) (pc1 := 31) (pc2 := 38) (E_fR f_PL_56 ho (pc1 := 28) (E_aln d_PL_which_27 rfl) d_PL_which_28) (A_c catR (pc1 := 38) (E_fR f_PL_179 ho (pc1 := 35) (E_fR f_PL_75 ho (pc1 := 32) (E_aln d_PL_which_31 rfl) d_PL_which_32) d_PL_which_35) A_n) d_PL_which_38)) d_PL_which_41 rfl) (S_In (pc1 := 49) (E_ior (pc1 := 45) (pc2 := 48) (E_iln d_PL_which_44 rfl) (E_ishl (pc1 := 46) (pc2 := 47) (E_ic d_PL_which_45 rfl) (E_iln d_PL_which_46 rfl) d_PL_which_47) d_PL_which_48) d_PL_which_49 rfl)))
    (S_Inc d_PL_which_50 rfl) d_PL_which_53 rfl)))
    (S_ri hrt (pc1 := 57) (E_iln d_PL_which_56 rfl) d_PL_which_57)))
theorem d_PL_storesOutside_0 : decode prog_1_method_29_code 0 = .ok (.iconst 0, 1) := by decide +kernel
theorem d_PL_storesOutside_1 : decode prog_1_method_29_code 1 = .ok (.istore_n 2, 1) := by decide +kernel
theorem d_PL_storesOutside_2 : decode prog_1_method_29_code 2 = .ok (.iconst 0, 1) := by decide +kernel
theorem d_PL_storesOutside_3 : decode prog_1_method_29_code 3 = .ok (.istore_n 3, 1) := by decide +kernel
theorem d_PL_storesOutside_4 : decode prog_1_method_29_code 4 = .ok (.iconst 0, 1) := by decide +kernel
theorem d_PL_storesOutside_5 : decode prog_1_method_29_code 5 = .ok (.istore 4, 2) := by decide +kernel
theorem d_PL_storesOutside_7 : decode prog_1_method_29_code 7 = .ok (.iload 4, 2) := by decide +kernel
theorem d_PL_storesOutside_9 : decode prog_1_method_29_code 9 = .ok (.aload_n 0, 1) := by decide +kernel
theorem d_PL_storesOutside_10 : decode prog_1_method_29_code 10 = .ok (.getfield 19, 3) := by decide +kernel
theorem d_PL_storesOutside_13 : decode prog_1_method_29_code 13 = .ok (.getfield 109, 3) := by decide +kernel
theorem d_PL_storesOutside_16 : decode prog_1_method_29_code 16 = .ok (.if_icmp .ge 42, 3) := by decide +kernel
theorem d_PL_storesOutside_19 : decode prog_1_method_29_code 19 = .ok (.aload_n 0, 1) := by decide +kernel
theorem d_PL_storesOutside_20 : decode prog_1_method_29_code 20 = .ok (.getfield 19, 3) := by decide +kernel
theorem d_PL_storesOutside_23 : decode prog_1_method_29_code 23 = .ok (.getfield 150, 3) := by decide +kernel
theorem d_PL_storesOutside_26 : decode prog_1_method_29_code 26 = .ok (.iload 4, 2) := by decide +kernel
theorem d_PL_storesOutside_28 : decode prog_1_method_29_code 28 = .ok (.iaload, 1) := by decide +kernel
theorem d_PL_storesOutside_29 : decode prog_1_method_29_code 29 = .ok (.bipush 6, 2) := by decide +kernel
theorem d_PL_storesOutside_31 : decode prog_1_method_29_code 31 = .ok (.if_icmp .ne 21, 3) := by decide +kernel
theorem d_PL_storesOutside_34 : decode prog_1_method_29_code 34 = .ok (.iload_n 1, 1) := by decide +kernel
theorem d_PL_storesOutside_35 : decode prog_1_method_29_code 35 = .ok (.iload_n 3, 1) := by decide +kernel
theorem d_PL_storesOutside_36 : decode prog_1_method_29_code 36 = .ok (.invokestatic 182, 3) := by decide +kernel
theorem d_PL_storesOutside_39 : decode prog_1_method_29_code 39 = .ok (.ifCond .ne 10, 3) := by decide +kernel
theorem d_PL_storesOutside_42 : decode prog_1_method_29_code 42 = .ok (.iload_n 2, 1) := by decide +kernel
theorem d_PL_storesOutside_43 : decode prog_1_method_29_code 43 = .ok (.iconst 1, 1) := by decide +kernel
theorem d_PL_storesOutside_44 : decode prog_1_method_29_code 44 = .ok (.iload 4, 2) := by decide +kernel
theorem d_PL_storesOutside_46 : decode prog_1_method_29_code 46 = .ok (.ishl, 1) := by decide +kernel
theorem d_PL_storesOutside_47 : decode prog_1_method_29_code 47 = .ok (.ior, 1) := by decide +kernel
theorem d_PL_storesOutside_48 : decode prog_1_method_29_code 48 = .ok (.istore_n 2, 1) := by decide +kernel
theorem d_PL_storesOutside_49 : decode prog_1_method_29_code 49 = .ok (.iinc 3 1, 3) := by decide +kernel
theorem d_PL_storesOutside_52 : decode prog_1_method_29_code 52 = .ok (.iinc 4 1, 3) := by decide +kernel
theorem d_PL_storesOutside_55 : decode prog_1_method_29_code 55 = .ok (.goto (-48), 3) := by decide +kernel
theorem d_PL_storesOutside_58 : decode prog_1_method_29_code 58 = .ok (.iload_n 2, 1) := by decide +kernel
theorem d_PL_storesOutside_59 : decode prog_1_method_29_code 59 = .ok (.ireturn, 1) := by decide +kernel
def B_PL_storesOutside (_ : Nat × Nat) : PS :=
  (sSq (sI 2 (eV (0 : Int32)))
    (sSq (sI 3 (eV (0 : Int32)))
    (sSq (sCut 4 (sSq (sI 4 (eV (0 : Int32)))
    (sLp 5 (e2 (fun x y : Int32 => decide (x < y)) (eI 4) (eFI 1 6 (eFR 9 1 (eR 0))))
    (sIf (e2 (fun x y : Int32 => decide (x = y)) (eAI (eFR 1 0 (eFR 9 1 (eR 0))) (eI 4)) (eV (6 : Int32))) (sSq (sIf (cN (e1 (fun x : Int32 => decide (¬ x = 0)) (eX .int (xS 2 X_PL_holds (aC .int (eI 1) (aC .int (eI 3) aN)))))) (sI 2 (e2 (fun x y : Int32 => x ||| y) (eI 2) (e2 (fun x y : Int32 => x <<< (y &&& 31)) (eV (1 : Int32)) (eI 4)))) sSk)
    (sInc 3 (1))) sSk)
    (sInc 4 (1)))))
    (sRt .int (eI 2)))))
def X_PL_storesOutside : PM := fun vs h Q => (lx vs).length ≤ 5 ∧ B_PL_storesOutside (h.length + 0, hsz h + 0) (fun _ _ => False) (fun _ _ => False) (fun _ _ => False) Q (lini 5 vs) h
theorem v_PL_storesOutside (l : Launch) : Ctr l y_PL_storesOutside prog_1_method_29_code 5 (some .int) rm_PL_storesOutside X_PL_storesOutside := by
  refine Ctr_of (own := "PackLanes") (B := B_PL_storesOutside) (KR := fun _ Q => Q) (by decide) rfl (fun _ _ _ z => z) (fun _ _ _ _ z => ⟨Or.inl ⟨rfl, rfl⟩, z⟩) (Or.inr (Or.inl rfl)) (fun κ hl ho hR hrt hn0 => ?_)
  subst hl
  unfold B_PL_storesOutside
  exact (S_sq (pc1 := 2) (S_In (pc1 := 1) (E_ic d_PL_storesOutside_0 rfl) d_PL_storesOutside_1 rfl)
    (S_sq (pc1 := 4) (S_In (pc1 := 3) (E_ic d_PL_storesOutside_2 rfl) d_PL_storesOutside_3 rfl)
    (S_sq (pc1 := 58) (S_cut (S_sq (pc1 := 7) (S_I (pc1 := 5) (E_ic d_PL_storesOutside_4 rfl) d_PL_storesOutside_5)
    (S_lp (pT := 19) (pF := 58) (pS := 52) (pG := 55) (J2_lt (pF := 58) (pc1 := 9) (pc2 := 16) (E_il d_PL_storesOutside_7) (E_fI f_PL_109 ho (pc1 := 13) (E_fR f_PL_19 ho (pc1 := 10) (E_aln d_PL_storesOutside_9 rfl) d_PL_storesOutside_10) d_PL_storesOutside_13) d_PL_storesOutside_16 rfl)
    (S_if1 (pT := 34) (pF := 52) (J2_eq (pF := 52) (pc1 := 29) (pc2 := 31) (E_aI (pc1 := 26) (pc2 := 28) (E_fR f_PL_150 ho (pc1 := 23) (E_fR f_PL_19 ho (pc1 := 20) (E_aln d_PL_storesOutside_19 rfl) d_PL_storesOutside_20) d_PL_storesOutside_23) (E_il d_PL_storesOutside_26) d_PL_storesOutside_28) (E_bi d_PL_storesOutside_29 rfl) d_PL_storesOutside_31 rfl) (S_sq (pc1 := 49) (S_if1 (pT := 42) (pF := 49) (C_not (T1_ne (pT := 49) (pc2 := 39) (E_x (O_S k_PL_182 (v_PL_holds _) ⟨rfl, rfl⟩ ho (rk hR rfl) (by decide) (pc2 := 36) (A_c catI (pc1 := 35) (E_iln d_PL_storesOutside_34 rfl) (A_c catI (pc1 := 36) (E_iln d_PL_storesOutside_35 rfl) A_n)) d_PL_storesOutside_36)) d_PL_storesOutside_39 rfl)) (S_In (pc1 := 48) (E_ior (pc1 := 43) (pc2 := 47) (E_iln d_PL_storesOutside_42 rfl) (E_ishl (pc1 := 44) (pc2 := 46) (E_ic d_PL_storesOutside_43 rfl) (E_il d_PL_storesOutside_44) d_PL_storesOutside_46) d_PL_storesOutside_47) d_PL_storesOutside_48 rfl))
    (S_Inc d_PL_storesOutside_49 rfl)))
    (S_Inc d_PL_storesOutside_52 rfl) d_PL_storesOutside_55 rfl)))
    (S_ri hrt (pc1 := 59) (E_iln d_PL_storesOutside_58 rfl) d_PL_storesOutside_59))))
theorem d_PL_sumGainsOfAllChoices_0 : decode prog_1_method_28_code 0 = .ok (.iconst 0, 1) := by decide +kernel
theorem d_PL_sumGainsOfAllChoices_1 : decode prog_1_method_28_code 1 = .ok (.istore_n 2, 1) := by decide +kernel
theorem d_PL_sumGainsOfAllChoices_2 : decode prog_1_method_28_code 2 = .ok (.iload_n 2, 1) := by decide +kernel
theorem d_PL_sumGainsOfAllChoices_3 : decode prog_1_method_28_code 3 = .ok (.iconst 1, 1) := by decide +kernel
theorem d_PL_sumGainsOfAllChoices_4 : decode prog_1_method_28_code 4 = .ok (.iload_n 1, 1) := by decide +kernel
theorem d_PL_sumGainsOfAllChoices_5 : decode prog_1_method_28_code 5 = .ok (.ishl, 1) := by decide +kernel
theorem d_PL_sumGainsOfAllChoices_6 : decode prog_1_method_28_code 6 = .ok (.if_icmp .ge 47, 3) := by decide +kernel
theorem d_PL_sumGainsOfAllChoices_9 : decode prog_1_method_28_code 9 = .ok (.iload_n 2, 1) := by decide +kernel
theorem d_PL_sumGainsOfAllChoices_10 : decode prog_1_method_28_code 10 = .ok (.aload_n 0, 1) := by decide +kernel
theorem d_PL_sumGainsOfAllChoices_11 : decode prog_1_method_28_code 11 = .ok (.getfield 79, 3) := by decide +kernel
theorem d_PL_sumGainsOfAllChoices_14 : decode prog_1_method_28_code 14 = .ok (.arraylength, 1) := by decide +kernel
theorem d_PL_sumGainsOfAllChoices_15 : decode prog_1_method_28_code 15 = .ok (.if_icmp .ge 38, 3) := by decide +kernel
theorem d_PL_sumGainsOfAllChoices_18 : decode prog_1_method_28_code 18 = .ok (.aload_n 0, 1) := by decide +kernel
theorem d_PL_sumGainsOfAllChoices_19 : decode prog_1_method_28_code 19 = .ok (.getfield 69, 3) := by decide +kernel
theorem d_PL_sumGainsOfAllChoices_22 : decode prog_1_method_28_code 22 = .ok (.aload_n 0, 1) := by decide +kernel
theorem d_PL_sumGainsOfAllChoices_23 : decode prog_1_method_28_code 23 = .ok (.getfield 26, 3) := by decide +kernel
theorem d_PL_sumGainsOfAllChoices_26 : decode prog_1_method_28_code 26 = .ok (.aload_n 0, 1) := by decide +kernel
theorem d_PL_sumGainsOfAllChoices_27 : decode prog_1_method_28_code 27 = .ok (.iload_n 2, 1) := by decide +kernel
theorem d_PL_sumGainsOfAllChoices_28 : decode prog_1_method_28_code 28 = .ok (.invokevirtual 266, 3) := by decide +kernel
theorem d_PL_sumGainsOfAllChoices_31 : decode prog_1_method_28_code 31 = .ok (.invokevirtual 90, 3) := by decide +kernel
theorem d_PL_sumGainsOfAllChoices_34 : decode prog_1_method_28_code 34 = .ok (.aload_n 0, 1) := by decide +kernel
theorem d_PL_sumGainsOfAllChoices_35 : decode prog_1_method_28_code 35 = .ok (.getfield 79, 3) := by decide +kernel
theorem d_PL_sumGainsOfAllChoices_38 : decode prog_1_method_28_code 38 = .ok (.iload_n 2, 1) := by decide +kernel
theorem d_PL_sumGainsOfAllChoices_39 : decode prog_1_method_28_code 39 = .ok (.aload_n 0, 1) := by decide +kernel
theorem d_PL_sumGainsOfAllChoices_40 : decode prog_1_method_28_code 40 = .ok (.getfield 69, 3) := by decide +kernel
theorem d_PL_sumGainsOfAllChoices_43 : decode prog_1_method_28_code 43 = .ok (.getfield 116, 3) := by decide +kernel
theorem d_PL_sumGainsOfAllChoices_46 : decode prog_1_method_28_code 46 = .ok (.iastore, 1) := by decide +kernel
theorem d_PL_sumGainsOfAllChoices_47 : decode prog_1_method_28_code 47 = .ok (.iinc 2 1, 3) := by decide +kernel
theorem d_PL_sumGainsOfAllChoices_50 : decode prog_1_method_28_code 50 = .ok (.goto (-48), 3) := by decide +kernel
theorem d_PL_sumGainsOfAllChoices_53 : decode prog_1_method_28_code 53 = .ok (.return_, 1) := by decide +kernel
def B_PL_sumGainsOfAllChoices (_ : Nat × Nat) : PS :=
  (sSq (sCut 2 (sSq (sI 2 (eV (0 : Int32)))
    (sLp 3 (cA (e2 (fun x y : Int32 => decide (x < y)) (eI 2) (e2 (fun x y : Int32 => x <<< (y &&& 31)) (eV (1 : Int32)) (eI 1))) (e2 (fun x y : Int32 => decide (x < y)) (eI 2) (eLen (eFR 9 13 (eR 0)))))
    (sSq (sX (xV 4 2 X_Pack_choosePacks (eFR 9 11 (eR 0)) (aC .ref (eFR 9 3 (eR 0)) (aC .int (eX .int (xV 9 1 X_PL_storesOutside (eR 0) (aC .int (eI 2) aN))) aN))))
    (sAI (eFR 9 13 (eR 0)) (eI 2) (eFI 4 13 (eFR 9 11 (eR 0)))))
    (sInc 2 (1)))))
    sRv)
def X_PL_sumGainsOfAllChoices : PM := fun vs h Q => (lx vs).length ≤ 3 ∧ B_PL_sumGainsOfAllChoices (h.length + 0, hsz h + 0) (fun _ _ => False) (fun _ _ => False) (fun _ _ => False) Q (lini 3 vs) h
theorem v_PL_sumGainsOfAllChoices (l : Launch) : Ctr l y_PL_sumGainsOfAllChoices prog_1_method_28_code 3 none rm_PL_sumGainsOfAllChoices X_PL_sumGainsOfAllChoices := by
  refine Ctr_of (own := "PackLanes") (B := B_PL_sumGainsOfAllChoices) (KR := fun _ Q => Q) (by decide) rfl (fun _ _ _ z => z) (fun _ _ _ _ z => ⟨Or.inl ⟨rfl, rfl⟩, z⟩) (Or.inl rfl) (fun κ hl ho hR hrt hn0 => ?_)
  subst hl
  unfold B_PL_sumGainsOfAllChoices
  exact (S_sq (pc1 := 53) (S_cut (S_sq (pc1 := 2) (S_In (pc1 := 1) (E_ic d_PL_sumGainsOfAllChoices_0 rfl) d_PL_sumGainsOfAllChoices_1 rfl)
    (S_lp (pT := 18) (pF := 53) (pS := 47) (pG := 50) (C_and (pc1 := 9) (J2_lt (pF := 53) (pc1 := 3) (pc2 := 6) (E_iln d_PL_sumGainsOfAllChoices_2 rfl) (E_ishl (pc1 := 4) (pc2 := 5) (E_ic d_PL_sumGainsOfAllChoices_3 rfl) (E_iln d_PL_sumGainsOfAllChoices_4 rfl) d_PL_sumGainsOfAllChoices_5) d_PL_sumGainsOfAllChoices_6 rfl) (J2_lt (pF := 53) (pc1 := 10) (pc2 := 15) (E_iln d_PL_sumGainsOfAllChoices_9 rfl) (E_len (pc1 := 14) (E_fR f_PL_79 ho (pc1 := 11) (E_aln d_PL_sumGainsOfAllChoices_10 rfl) d_PL_sumGainsOfAllChoices_11) d_PL_sumGainsOfAllChoices_14) d_PL_sumGainsOfAllChoices_15 rfl))
    (S_sq (pc1 := 34) (S_X (O_V k_PL_90 (v_Pack_choosePacks _) ⟨rfl, rfl⟩ ho (rk hR rfl) (by decide) (T := KT4) (N := 14) rfl (by decide) (pc1 := 22) (pc2 := 31) (E_fR f_PL_69 ho (pc1 := 19) (E_aln d_PL_sumGainsOfAllChoices_18 rfl) d_PL_sumGainsOfAllChoices_19) (A_c catR (pc1 := 26) (E_fR f_PL_26 ho (pc1 := 23) (E_aln d_PL_sumGainsOfAllChoices_22 rfl) d_PL_sumGainsOfAllChoices_23) (A_c catI (pc1 := 31) (E_x (O_V k_PL_266 (v_PL_storesOutside _) ⟨rfl, rfl⟩ ho (rk hR rfl) (by decide) (T := KT9) (N := 15) rfl (by decide) (pc1 := 27) (pc2 := 28) (E_aln d_PL_sumGainsOfAllChoices_26 rfl) (A_c catI (pc1 := 28) (E_iln d_PL_sumGainsOfAllChoices_27 rfl) A_n) d_PL_sumGainsOfAllChoices_28)) A_n)) d_PL_sumGainsOfAllChoices_31))
    (S_AI (pc1 := 38) (pc2 := 39) (pc3 := 46) (E_fR f_PL_79 ho (pc1 := 35) (E_aln d_PL_sumGainsOfAllChoices_34 rfl) d_PL_sumGainsOfAllChoices_35) (E_iln d_PL_sumGainsOfAllChoices_38 rfl) (E_fI f_PL_116 ho (pc1 := 43) (E_fR f_PL_69 ho (pc1 := 40) (E_aln d_PL_sumGainsOfAllChoices_39 rfl) d_PL_sumGainsOfAllChoices_40) d_PL_sumGainsOfAllChoices_43) d_PL_sumGainsOfAllChoices_46))
    (S_Inc d_PL_sumGainsOfAllChoices_47 rfl) d_PL_sumGainsOfAllChoices_50 rfl)))
    (S_rv hrt d_PL_sumGainsOfAllChoices_53))
theorem d_PL_ordersThrough_0 : decode prog_1_method_30_code 0 = .ok (.iload_n 0, 1) := by decide +kernel
theorem d_PL_ordersThrough_1 : decode prog_1_method_30_code 1 = .ok (.invokestatic 171, 3) := by decide +kernel
theorem d_PL_ordersThrough_4 : decode prog_1_method_30_code 4 = .ok (.istore_n 2, 1) := by decide +kernel
theorem d_PL_ordersThrough_5 : decode prog_1_method_30_code 5 = .ok (.iload_n 1, 1) := by decide +kernel
theorem d_PL_ordersThrough_6 : decode prog_1_method_30_code 6 = .ok (.iconst 1, 1) := by decide +kernel
theorem d_PL_ordersThrough_7 : decode prog_1_method_30_code 7 = .ok (.isub, 1) := by decide +kernel
theorem d_PL_ordersThrough_8 : decode prog_1_method_30_code 8 = .ok (.iload_n 2, 1) := by decide +kernel
theorem d_PL_ordersThrough_9 : decode prog_1_method_30_code 9 = .ok (.isub, 1) := by decide +kernel
theorem d_PL_ordersThrough_10 : decode prog_1_method_30_code 10 = .ok (.istore_n 3, 1) := by decide +kernel
theorem d_PL_ordersThrough_11 : decode prog_1_method_30_code 11 = .ok (.iload_n 2, 1) := by decide +kernel
theorem d_PL_ordersThrough_12 : decode prog_1_method_30_code 12 = .ok (.getstatic 236, 3) := by decide +kernel
theorem d_PL_ordersThrough_15 : decode prog_1_method_30_code 15 = .ok (.arraylength, 1) := by decide +kernel
theorem d_PL_ordersThrough_16 : decode prog_1_method_30_code 16 = .ok (.if_icmp .ge 15, 3) := by decide +kernel
theorem d_PL_ordersThrough_19 : decode prog_1_method_30_code 19 = .ok (.iload_n 3, 1) := by decide +kernel
theorem d_PL_ordersThrough_20 : decode prog_1_method_30_code 20 = .ok (.ifCond .lt 11, 3) := by decide +kernel
theorem d_PL_ordersThrough_23 : decode prog_1_method_30_code 23 = .ok (.iload_n 3, 1) := by decide +kernel
theorem d_PL_ordersThrough_24 : decode prog_1_method_30_code 24 = .ok (.getstatic 236, 3) := by decide +kernel
theorem d_PL_ordersThrough_27 : decode prog_1_method_30_code 27 = .ok (.arraylength, 1) := by decide +kernel
theorem d_PL_ordersThrough_28 : decode prog_1_method_30_code 28 = .ok (.if_icmp .lt 5, 3) := by decide +kernel
theorem d_PL_ordersThrough_31 : decode prog_1_method_30_code 31 = .ok (.iconst 0, 1) := by decide +kernel
theorem d_PL_ordersThrough_32 : decode prog_1_method_30_code 32 = .ok (.ireturn, 1) := by decide +kernel
theorem d_PL_ordersThrough_33 : decode prog_1_method_30_code 33 = .ok (.getstatic 236, 3) := by decide +kernel
theorem d_PL_ordersThrough_36 : decode prog_1_method_30_code 36 = .ok (.iload_n 2, 1) := by decide +kernel
theorem d_PL_ordersThrough_37 : decode prog_1_method_30_code 37 = .ok (.iaload, 1) := by decide +kernel
theorem d_PL_ordersThrough_38 : decode prog_1_method_30_code 38 = .ok (.getstatic 236, 3) := by decide +kernel
theorem d_PL_ordersThrough_41 : decode prog_1_method_30_code 41 = .ok (.iload_n 3, 1) := by decide +kernel
theorem d_PL_ordersThrough_42 : decode prog_1_method_30_code 42 = .ok (.iaload, 1) := by decide +kernel
theorem d_PL_ordersThrough_43 : decode prog_1_method_30_code 43 = .ok (.imul, 1) := by decide +kernel
theorem d_PL_ordersThrough_44 : decode prog_1_method_30_code 44 = .ok (.ireturn, 1) := by decide +kernel
def B_PL_ordersThrough (_ : Nat × Nat) : PS :=
  (sSq (sI 2 (eX .int (xS 1 X_Int_bitCount (aC .int (eI 0) aN))))
    (sSq (sI 3 (e2 (fun x y : Int32 => x - y) (e2 (fun x y : Int32 => x - y) (eI 1) (eV (1 : Int32))) (eI 2)))
    (sSq (sIf (cO (cO (e2 (fun x y : Int32 => decide (y ≤ x)) (eI 2) (eLen (eV (0 : Nat)))) (e1 (fun x : Int32 => decide (x < 0)) (eI 3))) (e2 (fun x y : Int32 => decide (y ≤ x)) (eI 3) (eLen (eV (0 : Nat))))) (sRt .int (eV (0 : Int32))) sSk)
    (sRt .int (e2 (fun x y : Int32 => x * y) (eAI (eV (0 : Nat)) (eI 2)) (eAI (eV (0 : Nat)) (eI 3)))))))
def X_PL_ordersThrough : PM := fun vs h Q => (lx vs).length ≤ 4 ∧ B_PL_ordersThrough (h.length + 0, hsz h + 0) (fun _ _ => False) (fun _ _ => False) (fun _ _ => False) Q (lini 4 vs) h
theorem v_PL_ordersThrough (l : Launch) : Ctr l y_PL_ordersThrough prog_1_method_30_code 4 (some .int) rm_PL_ordersThrough X_PL_ordersThrough := by
  refine Ctr_of (own := "PackLanes") (B := B_PL_ordersThrough) (KR := fun _ Q => Q) (by decide) rfl (fun _ _ _ z => z) (fun _ _ _ _ z => ⟨Or.inl ⟨rfl, rfl⟩, z⟩) (Or.inr (Or.inl rfl)) (fun κ hl ho hR hrt hn0 => ?_)
  subst hl
  unfold B_PL_ordersThrough
  exact (S_sq (pc1 := 5) (S_In (pc1 := 4) (E_x (O_S k_PL_171 (v_Int_bitCount _) ⟨rfl, rfl⟩ ho (rk hR rfl) (by decide) (pc2 := 1) (A_c catI (pc1 := 1) (E_iln d_PL_ordersThrough_0 rfl) A_n) d_PL_ordersThrough_1)) d_PL_ordersThrough_4 rfl)
    (S_sq (pc1 := 11) (S_In (pc1 := 10) (E_isub (pc1 := 8) (pc2 := 9) (E_isub (pc1 := 6) (pc2 := 7) (E_iln d_PL_ordersThrough_5 rfl) (E_ic d_PL_ordersThrough_6 rfl) d_PL_ordersThrough_7) (E_iln d_PL_ordersThrough_8 rfl) d_PL_ordersThrough_9) d_PL_ordersThrough_10 rfl)
    (S_sq (pc1 := 33) (S_if1 (pT := 31) (pF := 33) (C_or (pc1 := 23) (C_or (pc1 := 19) (T2_ge (pT := 31) (pc1 := 12) (pc2 := 16) (E_iln d_PL_ordersThrough_11 rfl) (E_len (pc1 := 15) (E_gs w_s_PL_236 ho d_PL_ordersThrough_12) d_PL_ordersThrough_15) d_PL_ordersThrough_16 rfl) (T1_lt (pT := 31) (pc2 := 20) (E_iln d_PL_ordersThrough_19 rfl) d_PL_ordersThrough_20 rfl)) (J2_ge (pF := 33) (pc1 := 24) (pc2 := 28) (E_iln d_PL_ordersThrough_23 rfl) (E_len (pc1 := 27) (E_gs w_s_PL_236 ho d_PL_ordersThrough_24) d_PL_ordersThrough_27) d_PL_ordersThrough_28 rfl)) (S_ri hrt (pc1 := 32) (E_ic d_PL_ordersThrough_31 rfl) d_PL_ordersThrough_32))
    (S_ri hrt (pc1 := 44) (E_imul (pc1 := 38) (pc2 := 43) (E_aI (pc1 := 36) (pc2 := 37) (E_gs w_s_PL_236 ho d_PL_ordersThrough_33) (E_iln d_PL_ordersThrough_36 rfl) d_PL_ordersThrough_37) (E_aI (pc1 := 41) (pc2 := 42) (E_gs w_s_PL_236 ho d_PL_ordersThrough_38) (E_iln d_PL_ordersThrough_41 rfl) d_PL_ordersThrough_42) d_PL_ordersThrough_43) d_PL_ordersThrough_44))))
theorem d_PL_commonDivisor_0 : decode prog_1_method_33_code 0 = .ok (.iload_n 0, 1) := by decide +kernel
theorem d_PL_commonDivisor_1 : decode prog_1_method_33_code 1 = .ok (.istore_n 2, 1) := by decide +kernel
theorem d_PL_commonDivisor_2 : decode prog_1_method_33_code 2 = .ok (.iload_n 1, 1) := by decide +kernel
theorem d_PL_commonDivisor_3 : decode prog_1_method_33_code 3 = .ok (.istore_n 3, 1) := by decide +kernel
theorem d_PL_commonDivisor_4 : decode prog_1_method_33_code 4 = .ok (.iconst 0, 1) := by decide +kernel
theorem d_PL_commonDivisor_5 : decode prog_1_method_33_code 5 = .ok (.istore 4, 2) := by decide +kernel
theorem d_PL_commonDivisor_7 : decode prog_1_method_33_code 7 = .ok (.iload 4, 2) := by decide +kernel
theorem d_PL_commonDivisor_9 : decode prog_1_method_33_code 9 = .ok (.bipush 100, 2) := by decide +kernel
theorem d_PL_commonDivisor_11 : decode prog_1_method_33_code 11 = .ok (.if_icmp .ge 23, 3) := by decide +kernel
theorem d_PL_commonDivisor_14 : decode prog_1_method_33_code 14 = .ok (.iload_n 3, 1) := by decide +kernel
theorem d_PL_commonDivisor_15 : decode prog_1_method_33_code 15 = .ok (.ifCond .eq 19, 3) := by decide +kernel
theorem d_PL_commonDivisor_18 : decode prog_1_method_33_code 18 = .ok (.iload_n 2, 1) := by decide +kernel
theorem d_PL_commonDivisor_19 : decode prog_1_method_33_code 19 = .ok (.iload_n 3, 1) := by decide +kernel
theorem d_PL_commonDivisor_20 : decode prog_1_method_33_code 20 = .ok (.irem, 1) := by decide +kernel
theorem d_PL_commonDivisor_21 : decode prog_1_method_33_code 21 = .ok (.istore 5, 2) := by decide +kernel
theorem d_PL_commonDivisor_23 : decode prog_1_method_33_code 23 = .ok (.iload_n 3, 1) := by decide +kernel
theorem d_PL_commonDivisor_24 : decode prog_1_method_33_code 24 = .ok (.istore_n 2, 1) := by decide +kernel
theorem d_PL_commonDivisor_25 : decode prog_1_method_33_code 25 = .ok (.iload 5, 2) := by decide +kernel
theorem d_PL_commonDivisor_27 : decode prog_1_method_33_code 27 = .ok (.istore_n 3, 1) := by decide +kernel
theorem d_PL_commonDivisor_28 : decode prog_1_method_33_code 28 = .ok (.iinc 4 1, 3) := by decide +kernel
theorem d_PL_commonDivisor_31 : decode prog_1_method_33_code 31 = .ok (.goto (-24), 3) := by decide +kernel
theorem d_PL_commonDivisor_34 : decode prog_1_method_33_code 34 = .ok (.iload_n 2, 1) := by decide +kernel
theorem d_PL_commonDivisor_35 : decode prog_1_method_33_code 35 = .ok (.ireturn, 1) := by decide +kernel
def B_PL_commonDivisor (_ : Nat × Nat) : PS :=
  (sSq (sI 2 (eI 0))
    (sSq (sI 3 (eI 1))
    (sSq (sCut 4 (sSq (sI 4 (eV (0 : Int32)))
    (sLp 5 (cA (e2 (fun x y : Int32 => decide (x < y)) (eI 4) (eV (100 : Int32))) (e1 (fun x : Int32 => decide (¬ x = 0)) (eI 3)))
    (sCut 5 (sSq (sI 5 (eDI (fun x y : Int32 => x - x / y * y) (eI 2) (eI 3)))
    (sSq (sI 2 (eI 3))
    (sI 3 (eI 5)))))
    (sInc 4 (1)))))
    (sRt .int (eI 2)))))
def X_PL_commonDivisor : PM := fun vs h Q => (lx vs).length ≤ 6 ∧ B_PL_commonDivisor (h.length + 0, hsz h + 0) (fun _ _ => False) (fun _ _ => False) (fun _ _ => False) Q (lini 6 vs) h
theorem v_PL_commonDivisor (l : Launch) : Ctr l y_PL_commonDivisor prog_1_method_33_code 6 (some .int) rm_PL_commonDivisor X_PL_commonDivisor := by
  refine Ctr_of (own := "PackLanes") (B := B_PL_commonDivisor) (KR := fun _ Q => Q) (by decide) rfl (fun _ _ _ z => z) (fun _ _ _ _ z => ⟨Or.inl ⟨rfl, rfl⟩, z⟩) (Or.inr (Or.inl rfl)) (fun κ hl ho hR hrt hn0 => ?_)
  subst hl
  unfold B_PL_commonDivisor
  exact (S_sq (pc1 := 2) (S_In (pc1 := 1) (E_iln d_PL_commonDivisor_0 rfl) d_PL_commonDivisor_1 rfl)
    (S_sq (pc1 := 4) (S_In (pc1 := 3) (E_iln d_PL_commonDivisor_2 rfl) d_PL_commonDivisor_3 rfl)
    (S_sq (pc1 := 34) (S_cut (S_sq (pc1 := 7) (S_I (pc1 := 5) (E_ic d_PL_commonDivisor_4 rfl) d_PL_commonDivisor_5)
    (S_lp (pT := 18) (pF := 34) (pS := 28) (pG := 31) (C_and (pc1 := 14) (J2_lt (pF := 34) (pc1 := 9) (pc2 := 11) (E_il d_PL_commonDivisor_7) (E_bi d_PL_commonDivisor_9 rfl) d_PL_commonDivisor_11 rfl) (J1_ne (pF := 34) (pc2 := 15) (E_iln d_PL_commonDivisor_14 rfl) d_PL_commonDivisor_15 rfl))
    (S_cut (S_sq (pc1 := 23) (S_I (pc1 := 21) (E_irem (pc1 := 19) (pc2 := 20) (E_iln d_PL_commonDivisor_18 rfl) (E_iln d_PL_commonDivisor_19 rfl) d_PL_commonDivisor_20) d_PL_commonDivisor_21)
    (S_sq (pc1 := 25) (S_In (pc1 := 24) (E_iln d_PL_commonDivisor_23 rfl) d_PL_commonDivisor_24 rfl)
    (S_In (pc1 := 27) (E_il d_PL_commonDivisor_25) d_PL_commonDivisor_27 rfl))))
    (S_Inc d_PL_commonDivisor_28 rfl) d_PL_commonDivisor_31 rfl)))
    (S_ri hrt (pc1 := 35) (E_iln d_PL_commonDivisor_34 rfl) d_PL_commonDivisor_35))))
theorem d_PL_partOfFraction_0 : decode prog_1_method_32_code 0 = .ok (.iload_n 0, 1) := by decide +kernel
theorem d_PL_partOfFraction_1 : decode prog_1_method_32_code 1 = .ok (.invokestatic 273, 3) := by decide +kernel
theorem d_PL_partOfFraction_4 : decode prog_1_method_32_code 4 = .ok (.iload_n 1, 1) := by decide +kernel
theorem d_PL_partOfFraction_5 : decode prog_1_method_32_code 5 = .ok (.invokestatic 278, 3) := by decide +kernel
theorem d_PL_partOfFraction_8 : decode prog_1_method_32_code 8 = .ok (.istore_n 3, 1) := by decide +kernel
theorem d_PL_partOfFraction_9 : decode prog_1_method_32_code 9 = .ok (.iload_n 3, 1) := by decide +kernel
theorem d_PL_partOfFraction_10 : decode prog_1_method_32_code 10 = .ok (.iconst 1, 1) := by decide +kernel
theorem d_PL_partOfFraction_11 : decode prog_1_method_32_code 11 = .ok (.if_icmp .ge 5, 3) := by decide +kernel
theorem d_PL_partOfFraction_14 : decode prog_1_method_32_code 14 = .ok (.iconst 1, 1) := by decide +kernel
theorem d_PL_partOfFraction_15 : decode prog_1_method_32_code 15 = .ok (.istore_n 3, 1) := by decide +kernel
theorem d_PL_partOfFraction_16 : decode prog_1_method_32_code 16 = .ok (.iload_n 2, 1) := by decide +kernel
theorem d_PL_partOfFraction_17 : decode prog_1_method_32_code 17 = .ok (.ifCond .eq 7, 3) := by decide +kernel
theorem d_PL_partOfFraction_20 : decode prog_1_method_32_code 20 = .ok (.iload_n 0, 1) := by decide +kernel
theorem d_PL_partOfFraction_21 : decode prog_1_method_32_code 21 = .ok (.goto 4, 3) := by decide +kernel
theorem d_PL_partOfFraction_24 : decode prog_1_method_32_code 24 = .ok (.iload_n 1, 1) := by decide +kernel
theorem d_PL_partOfFraction_25 : decode prog_1_method_32_code 25 = .ok (.iload_n 3, 1) := by decide +kernel
theorem d_PL_partOfFraction_26 : decode prog_1_method_32_code 26 = .ok (.idiv, 1) := by decide +kernel
theorem d_PL_partOfFraction_27 : decode prog_1_method_32_code 27 = .ok (.ireturn, 1) := by decide +kernel
def B_PL_partOfFraction (_ : Nat × Nat) : PS :=
  (sSq (sI 3 (eX .int (xS 2 X_PL_commonDivisor (aC .int (e1 (fun x : Int32 => if 0 ≤ x then x else 0 - x) (eI 0)) (aC .int (eI 1) aN)))))
    (sSq (sIf (e2 (fun x y : Int32 => decide (x < y)) (eI 3) (eV (1 : Int32))) (sI 3 (eV (1 : Int32))) sSk)
    (sRt .int (eDI (fun x y : Int32 => x / y) (eIf (e1 (fun x : Int32 => decide (¬ x = 0)) (eI 2)) (eI 0) (eI 1)) (eI 3)))))
def X_PL_partOfFraction : PM := fun vs h Q => (lx vs).length ≤ 4 ∧ B_PL_partOfFraction (h.length + 0, hsz h + 0) (fun _ _ => False) (fun _ _ => False) (fun _ _ => False) Q (lini 4 vs) h
theorem v_PL_partOfFraction (l : Launch) : Ctr l y_PL_partOfFraction prog_1_method_32_code 4 (some .int) rm_PL_partOfFraction X_PL_partOfFraction := by
  refine Ctr_of (own := "PackLanes") (B := B_PL_partOfFraction) (KR := fun _ Q => Q) (by decide) rfl (fun _ _ _ z => z) (fun _ _ _ _ z => ⟨Or.inl ⟨rfl, rfl⟩, z⟩) (Or.inr (Or.inl rfl)) (fun κ hl ho hR hrt hn0 => ?_)
  subst hl
  unfold B_PL_partOfFraction
  exact (S_sq (pc1 := 9) (S_In (pc1 := 8) (E_x (O_S k_PL_278 (v_PL_commonDivisor _) ⟨rfl, rfl⟩ ho (rk hR rfl) (by decide) (pc2 := 5) (A_c catI (pc1 := 4) (E_abs w_ab_PL_273 w_abs w_abi w_abc ho (rk2 hR rfl) (by decide) (pc1 := 1) (E_iln d_PL_partOfFraction_0 rfl) d_PL_partOfFraction_1) (A_c catI (pc1 := 5) (E_iln d_PL_partOfFraction_4 rfl) A_n)) d_PL_partOfFraction_5)) d_PL_partOfFraction_8 rfl)
    (S_sq (pc1 := 16) (S_if1 (pT := 14) (pF := 16) (J2_lt (pF := 16) (pc1 := 10) (pc2 := 11) (E_iln d_PL_partOfFraction_9 rfl) (E_ic d_PL_partOfFraction_10 rfl) d_PL_partOfFraction_11 rfl) (S_In (pc1 := 15) (E_ic d_PL_partOfFraction_14 rfl) d_PL_partOfFraction_15 rfl))
    (S_ri hrt (pc1 := 27) (E_idiv (pc1 := 25) (pc2 := 26) (E_if (pT := 20) (pF := 24) (pc1 := 21) (pc2 := 25) (J1_ne (pF := 24) (pc2 := 17) (E_iln d_PL_partOfFraction_16 rfl) d_PL_partOfFraction_17 rfl) (E_iln d_PL_partOfFraction_20 rfl) d_PL_partOfFraction_21 rfl (E_iln d_PL_partOfFraction_24 rfl)) (E_iln d_PL_partOfFraction_25 rfl) d_PL_partOfFraction_26) d_PL_partOfFraction_27)))
theorem d_PL_share_0 : decode prog_1_method_18_code 0 = .ok (.aload_n 0, 1) := by decide +kernel
theorem d_PL_share_1 : decode prog_1_method_18_code 1 = .ok (.getfield 19, 3) := by decide +kernel
theorem d_PL_share_4 : decode prog_1_method_18_code 4 = .ok (.iload_n 1, 1) := by decide +kernel
theorem d_PL_share_5 : decode prog_1_method_18_code 5 = .ok (.invokevirtual 146, 3) := by decide +kernel
theorem d_PL_share_8 : decode prog_1_method_18_code 8 = .ok (.ifCond .ne 5, 3) := by decide +kernel
theorem d_PL_share_11 : decode prog_1_method_18_code 11 = .ok (.iconst (-1), 1) := by decide +kernel
theorem d_PL_share_12 : decode prog_1_method_18_code 12 = .ok (.ireturn, 1) := by decide +kernel
theorem d_PL_share_13 : decode prog_1_method_18_code 13 = .ok (.aload_n 0, 1) := by decide +kernel
theorem d_PL_share_14 : decode prog_1_method_18_code 14 = .ok (.getfield 19, 3) := by decide +kernel
theorem d_PL_share_17 : decode prog_1_method_18_code 17 = .ok (.invokevirtual 226, 3) := by decide +kernel
theorem d_PL_share_20 : decode prog_1_method_18_code 20 = .ok (.invokestatic 171, 3) := by decide +kernel
theorem d_PL_share_23 : decode prog_1_method_18_code 23 = .ok (.istore_n 3, 1) := by decide +kernel
theorem d_PL_share_24 : decode prog_1_method_18_code 24 = .ok (.aload_n 0, 1) := by decide +kernel
theorem d_PL_share_25 : decode prog_1_method_18_code 25 = .ok (.getfield 19, 3) := by decide +kernel
theorem d_PL_share_28 : decode prog_1_method_18_code 28 = .ok (.getfield 150, 3) := by decide +kernel
theorem d_PL_share_31 : decode prog_1_method_18_code 31 = .ok (.iload_n 1, 1) := by decide +kernel
theorem d_PL_share_32 : decode prog_1_method_18_code 32 = .ok (.iaload, 1) := by decide +kernel
theorem d_PL_share_33 : decode prog_1_method_18_code 33 = .ok (.bipush 6, 2) := by decide +kernel
theorem d_PL_share_35 : decode prog_1_method_18_code 35 = .ok (.if_icmp .ne 9, 3) := by decide +kernel
theorem d_PL_share_38 : decode prog_1_method_18_code 38 = .ok (.iload_n 3, 1) := by decide +kernel
theorem d_PL_share_39 : decode prog_1_method_18_code 39 = .ok (.bipush 6, 2) := by decide +kernel
theorem d_PL_share_41 : decode prog_1_method_18_code 41 = .ok (.if_icmp .le 6, 3) := by decide +kernel
theorem d_PL_share_44 : decode prog_1_method_18_code 44 = .ok (.bipush (-3), 2) := by decide +kernel
theorem d_PL_share_46 : decode prog_1_method_18_code 46 = .ok (.ireturn, 1) := by decide +kernel
theorem d_PL_share_47 : decode prog_1_method_18_code 47 = .ok (.aload_n 0, 1) := by decide +kernel
theorem d_PL_share_48 : decode prog_1_method_18_code 48 = .ok (.iload_n 3, 1) := by decide +kernel
theorem d_PL_share_49 : decode prog_1_method_18_code 49 = .ok (.invokevirtual 229, 3) := by decide +kernel
theorem d_PL_share_52 : decode prog_1_method_18_code 52 = .ok (.iconst 1, 1) := by decide +kernel
theorem d_PL_share_53 : decode prog_1_method_18_code 53 = .ok (.aload_n 0, 1) := by decide +kernel
theorem d_PL_share_54 : decode prog_1_method_18_code 54 = .ok (.getfield 19, 3) := by decide +kernel
theorem d_PL_share_57 : decode prog_1_method_18_code 57 = .ok (.invokevirtual 226, 3) := by decide +kernel
theorem d_PL_share_60 : decode prog_1_method_18_code 60 = .ok (.iconst 1, 1) := by decide +kernel
theorem d_PL_share_61 : decode prog_1_method_18_code 61 = .ok (.iload_n 1, 1) := by decide +kernel
theorem d_PL_share_62 : decode prog_1_method_18_code 62 = .ok (.ishl, 1) := by decide +kernel
theorem d_PL_share_63 : decode prog_1_method_18_code 63 = .ok (.iconst 1, 1) := by decide +kernel
theorem d_PL_share_64 : decode prog_1_method_18_code 64 = .ok (.isub, 1) := by decide +kernel
theorem d_PL_share_65 : decode prog_1_method_18_code 65 = .ok (.iand, 1) := by decide +kernel
theorem d_PL_share_66 : decode prog_1_method_18_code 66 = .ok (.invokestatic 171, 3) := by decide +kernel
theorem d_PL_share_69 : decode prog_1_method_18_code 69 = .ok (.ishl, 1) := by decide +kernel
theorem d_PL_share_70 : decode prog_1_method_18_code 70 = .ok (.istore 4, 2) := by decide +kernel
theorem d_PL_share_72 : decode prog_1_method_18_code 72 = .ok (.iconst 0, 1) := by decide +kernel
theorem d_PL_share_73 : decode prog_1_method_18_code 73 = .ok (.istore 5, 2) := by decide +kernel
theorem d_PL_share_75 : decode prog_1_method_18_code 75 = .ok (.iconst 0, 1) := by decide +kernel
theorem d_PL_share_76 : decode prog_1_method_18_code 76 = .ok (.istore 6, 2) := by decide +kernel
theorem d_PL_share_78 : decode prog_1_method_18_code 78 = .ok (.iload 6, 2) := by decide +kernel
theorem d_PL_share_80 : decode prog_1_method_18_code 80 = .ok (.iconst 1, 1) := by decide +kernel
theorem d_PL_share_81 : decode prog_1_method_18_code 81 = .ok (.iload_n 3, 1) := by decide +kernel
theorem d_PL_share_82 : decode prog_1_method_18_code 82 = .ok (.ishl, 1) := by decide +kernel
theorem d_PL_share_83 : decode prog_1_method_18_code 83 = .ok (.if_icmp .ge 47, 3) := by decide +kernel
theorem d_PL_share_86 : decode prog_1_method_18_code 86 = .ok (.iload 6, 2) := by decide +kernel
theorem d_PL_share_88 : decode prog_1_method_18_code 88 = .ok (.iload 4, 2) := by decide +kernel
theorem d_PL_share_90 : decode prog_1_method_18_code 90 = .ok (.iand, 1) := by decide +kernel
theorem d_PL_share_91 : decode prog_1_method_18_code 91 = .ok (.ifCond .ne 33, 3) := by decide +kernel
theorem d_PL_share_94 : decode prog_1_method_18_code 94 = .ok (.iload 5, 2) := by decide +kernel
theorem d_PL_share_96 : decode prog_1_method_18_code 96 = .ok (.iload 6, 2) := by decide +kernel
theorem d_PL_share_98 : decode prog_1_method_18_code 98 = .ok (.iload_n 3, 1) := by decide +kernel
theorem d_PL_share_99 : decode prog_1_method_18_code 99 = .ok (.invokestatic 233, 3) := by decide +kernel
theorem d_PL_share_102 : decode prog_1_method_18_code 102 = .ok (.aload_n 0, 1) := by decide +kernel
theorem d_PL_share_103 : decode prog_1_method_18_code 103 = .ok (.getfield 79, 3) := by decide +kernel
theorem d_PL_share_106 : decode prog_1_method_18_code 106 = .ok (.iload 6, 2) := by decide +kernel
theorem d_PL_share_108 : decode prog_1_method_18_code 108 = .ok (.iload 4, 2) := by decide +kernel
theorem d_PL_share_110 : decode prog_1_method_18_code 110 = .ok (.ior, 1) := by decide +kernel
theorem d_PL_share_111 : decode prog_1_method_18_code 111 = .ok (.iaload, 1) := by decide +kernel
theorem d_PL_share_112 : decode prog_1_method_18_code 112 = .ok (.aload_n 0, 1) := by decide +kernel
theorem d_PL_share_113 : decode prog_1_method_18_code 113 = .ok (.getfield 79, 3) := by decide +kernel
theorem d_PL_share_116 : decode prog_1_method_18_code 116 = .ok (.iload 6, 2) := by decide +kernel
theorem d_PL_share_118 : decode prog_1_method_18_code 118 = .ok (.iaload, 1) := by decide +kernel
theorem d_PL_share_119 : decode prog_1_method_18_code 119 = .ok (.isub, 1) := by decide +kernel
theorem d_PL_share_120 : decode prog_1_method_18_code 120 = .ok (.imul, 1) := by decide +kernel
theorem d_PL_share_121 : decode prog_1_method_18_code 121 = .ok (.iadd, 1) := by decide +kernel
theorem d_PL_share_122 : decode prog_1_method_18_code 122 = .ok (.istore 5, 2) := by decide +kernel
theorem d_PL_share_124 : decode prog_1_method_18_code 124 = .ok (.iinc 6 1, 3) := by decide +kernel
theorem d_PL_share_127 : decode prog_1_method_18_code 127 = .ok (.goto (-49), 3) := by decide +kernel
theorem d_PL_share_130 : decode prog_1_method_18_code 130 = .ok (.iload 5, 2) := by decide +kernel
theorem d_PL_share_132 : decode prog_1_method_18_code 132 = .ok (.getstatic 236, 3) := by decide +kernel
theorem d_PL_share_135 : decode prog_1_method_18_code 135 = .ok (.iload_n 3, 1) := by decide +kernel
theorem d_PL_share_136 : decode prog_1_method_18_code 136 = .ok (.iaload, 1) := by decide +kernel
theorem d_PL_share_137 : decode prog_1_method_18_code 137 = .ok (.iload_n 2, 1) := by decide +kernel
theorem d_PL_share_138 : decode prog_1_method_18_code 138 = .ok (.invokestatic 239, 3) := by decide +kernel
theorem d_PL_share_141 : decode prog_1_method_18_code 141 = .ok (.ireturn, 1) := by decide +kernel
def B_PL_share (_ : Nat × Nat) : PS :=
  (sSq (sIf (cN (e1 (fun x : Int32 => decide (¬ x = 0)) (eX .int (xV 1 1 X_Code_has (eFR 9 1 (eR 0)) (aC .int (eI 1) aN))))) (sRt .int (eV (-1 : Int32))) sSk)
    (sSq (sI 3 (eX .int (xS 1 X_Int_bitCount (aC .int (eX .int (xV 1 0 X_Code_stores (eFR 9 1 (eR 0)) aN)) aN))))
    (sSq (sIf (cO (e2 (fun x y : Int32 => decide (¬ x = y)) (eAI (eFR 1 0 (eFR 9 1 (eR 0))) (eI 1)) (eV (6 : Int32))) (e2 (fun x y : Int32 => decide (y < x)) (eI 3) (eV (6 : Int32)))) (sRt .int (eV (-3 : Int32))) sSk)
    (sSq (sX (xV 9 1 X_PL_sumGainsOfAllChoices (eR 0) (aC .int (eI 3) aN)))
    (sSq (sI 4 (e2 (fun x y : Int32 => x <<< (y &&& 31)) (eV (1 : Int32)) (eX .int (xS 1 X_Int_bitCount (aC .int (e2 (fun x y : Int32 => x &&& y) (eX .int (xV 1 0 X_Code_stores (eFR 9 1 (eR 0)) aN)) (e2 (fun x y : Int32 => x - y) (e2 (fun x y : Int32 => x <<< (y &&& 31)) (eV (1 : Int32)) (eI 1)) (eV (1 : Int32)))) aN)))))
    (sSq (sI 5 (eV (0 : Int32)))
    (sSq (sCut 6 (sSq (sI 6 (eV (0 : Int32)))
    (sLp 7 (e2 (fun x y : Int32 => decide (x < y)) (eI 6) (e2 (fun x y : Int32 => x <<< (y &&& 31)) (eV (1 : Int32)) (eI 3)))
    (sIf (e1 (fun x : Int32 => decide (x = 0)) (e2 (fun x y : Int32 => x &&& y) (eI 6) (eI 4))) (sI 5 (e2 (fun x y : Int32 => x + y) (eI 5) (e2 (fun x y : Int32 => x * y) (eX .int (xS 2 X_PL_ordersThrough (aC .int (eI 6) (aC .int (eI 3) aN)))) (e2 (fun x y : Int32 => x - y) (eAI (eFR 9 13 (eR 0)) (e2 (fun x y : Int32 => x ||| y) (eI 6) (eI 4))) (eAI (eFR 9 13 (eR 0)) (eI 6)))))) sSk)
    (sInc 6 (1)))))
    (sRt .int (eX .int (xS 3 X_PL_partOfFraction (aC .int (eI 5) (aC .int (eAI (eV (0 : Nat)) (eI 3)) (aC .int (eI 2) aN)))))))))))))
def X_PL_share : PM := fun vs h Q => (lx vs).length ≤ 7 ∧ B_PL_share (h.length + 0, hsz h + 0) (fun _ _ => False) (fun _ _ => False) (fun _ _ => False) Q (lini 7 vs) h
theorem v_PL_share (l : Launch) : Ctr l y_PL_share prog_1_method_18_code 7 (some .int) rm_PL_share X_PL_share := by
  refine Ctr_of (own := "PackLanes") (B := B_PL_share) (KR := fun _ Q => Q) (by decide) rfl (fun _ _ _ z => z) (fun _ _ _ _ z => ⟨Or.inl ⟨rfl, rfl⟩, z⟩) (Or.inr (Or.inl rfl)) (fun κ hl ho hR hrt hn0 => ?_)
  subst hl
  unfold B_PL_share
  exact (S_sq (pc1 := 13) (S_if1 (pT := 11) (pF := 13) (C_not (T1_ne (pT := 13) (pc2 := 8) (E_x (O_V k_PL_146 (v_Code_has _) ⟨rfl, rfl⟩ ho (rk hR rfl) (by decide) (T := KT1) (N := 7) rfl (by decide) (pc1 := 4) (pc2 := 5) (E_fR f_PL_19 ho (pc1 := 1) (E_aln d_PL_share_0 rfl) d_PL_share_1) (A_c catI (pc1 := 5) (E_iln d_PL_share_4 rfl) A_n) d_PL_share_5)) d_PL_share_8 rfl)) (S_ri hrt (pc1 := 12) (E_ic d_PL_share_11 rfl) d_PL_share_12))
    (S_sq (pc1 := 24) (S_In (pc1 := 23) (E_x (O_S k_PL_171 (v_Int_bitCount _) ⟨rfl, rfl⟩ ho (rk hR rfl) (by decide) (pc2 := 20) (A_c catI (pc1 := 20) (E_x (O_V k_PL_226 (v_Code_stores _) ⟨rfl, rfl⟩ ho (rk hR rfl) (by decide) (T := KT1) (N := 7) rfl (by decide) (pc1 := 17) (pc2 := 17) (E_fR f_PL_19 ho (pc1 := 14) (E_aln d_PL_share_13 rfl) d_PL_share_14) A_n d_PL_share_17)) A_n) d_PL_share_20)) d_PL_share_23 rfl)
    (S_sq (pc1 := 47) (S_if1 (pT := 44) (pF := 47) (C_or (pc1 := 38) (T2_ne (pT := 44) (pc1 := 33) (pc2 := 35) (E_aI (pc1 := 31) (pc2 := 32) (E_fR f_PL_150 ho (pc1 := 28) (E_fR f_PL_19 ho (pc1 := 25) (E_aln d_PL_share_24 rfl) d_PL_share_25) d_PL_share_28) (E_iln d_PL_share_31 rfl) d_PL_share_32) (E_bi d_PL_share_33 rfl) d_PL_share_35 rfl) (J2_gt (pF := 47) (pc1 := 39) (pc2 := 41) (E_iln d_PL_share_38 rfl) (E_bi d_PL_share_39 rfl) d_PL_share_41 rfl)) (S_ri hrt (pc1 := 46) (E_bi d_PL_share_44 rfl) d_PL_share_46))
    (S_sq (pc1 := 52) (S_X (O_V k_PL_229 (v_PL_sumGainsOfAllChoices _) ⟨rfl, rfl⟩ ho (rk hR rfl) (by decide) (T := KT9) (N := 15) rfl (by decide) (pc1 := 48) (pc2 := 49) (E_aln d_PL_share_47 rfl) (A_c catI (pc1 := 49) (E_iln d_PL_share_48 rfl) A_n) d_PL_share_49))
    (S_sq (pc1 := 72) (S_I (pc1 := 70) (E_ishl (pc1 := 53) (pc2 := 69) (E_ic d_PL_share_52 rfl) (E_x (O_S k_PL_171 (v_Int_bitCount _) ⟨rfl, rfl⟩ ho (rk hR rfl) (by decide) (pc2 := 66) (A_c catI (pc1 := 66) (E_iand (pc1 := 60) (pc2 := 65) (E_x (O_V k_PL_226 (v_Code_stores _) ⟨rfl, rfl⟩ ho (rk hR rfl) (by decide) (T := KT1) (N := 7) rfl (by decide) (pc1 := 57) (pc2 := 57) (E_fR f_PL_19 ho (pc1 := 54) (E_aln d_PL_share_53 rfl) d_PL_share_54) A_n d_PL_share_57)) (E_isub (pc1 := 63) (pc2 := 64) (E_ishl (pc1 := 61) (pc2 := 62) (E_ic d_PL_share_60 rfl) (E_iln d_PL_share_61 rfl) d_PL_share_62) (E_ic d_PL_share_63 rfl) d_PL_share_64) d_PL_share_65) A_n) d_PL_share_66)) d_PL_share_69) d_PL_share_70)
    (S_sq (pc1 := 75) (S_I (pc1 := 73) (E_ic d_PL_share_72 rfl) d_PL_share_73)
    (S_sq (pc1 := 130) (S_cut (S_sq (pc1 := 78) (S_I (pc1 := 76) (E_ic d_PL_share_75 rfl) d_PL_share_76)
    (S_lp (pT := 86) (pF := 130) (pS := 124) (pG := 127) (J2_lt (pF := 130) (pc1 := 80) (pc2 := 83) (E_il d_PL_share_78) (E_ishl (pc1 := 81) (pc2 := 82) (E_ic d_PL_share_80 rfl) (E_iln d_PL_share_81 rfl) d_PL_share_82) d_PL_share_83 rfl)
    (S_if1 (pT := 94) (pF := 124) (J1_eq (pF := 124) (pc2 := 91) (E_iand (pc1 := 88) (pc2 := 90) (E_il d_PL_share_86) (E_il d_PL_share_88) d_PL_share_90) d_PL_share_91 rfl) (S_I (pc1 := 122) (E_iadd (pc1 := 96) (pc2 := 121) (E_il d_PL_share_94) (E_imul (pc1 := 102) (pc2 := 120) (E_x (O_S k_PL_233 (v_PL_ordersThrough _) ⟨rfl, rfl⟩ ho (rk hR rfl) (by decide) (pc2 := 99) (A_c catI (pc1 := 98) (E_il d_PL_share_96) (A_c catI (pc1 := 99) (E_iln d_PL_share_98 rfl) A_n)) d_PL_share_99)) (E_isub (pc1 := 112) (pc2 := 119) (E_aI (pc1 := 106) (pc2 := 111) (E_fR f_PL_79 ho (pc1 := 103) (E_aln d_PL_share_102 rfl) d_PL_share_103) (E_ior (pc1 := 108) (pc2 := 110) (E_il d_PL_share_106) (E_il d_PL_share_108) d_PL_share_110) d_PL_share_111) (E_aI (pc1 := 116) (pc2 := 118) (E_fR f_PL_79 ho (pc1 := 113) (E_aln d_PL_share_112 rfl) d_PL_share_113) (E_il d_PL_share_116) d_PL_share_118) d_PL_share_119) d_PL_share_120) d_PL_share_121) d_PL_share_122))
    (S_Inc d_PL_share_124 rfl) d_PL_share_127 rfl)))
    (S_ri hrt (pc1 := 141) (E_x (O_S k_PL_239 (v_PL_partOfFraction _) ⟨rfl, rfl⟩ ho (rk hR rfl) (by decide) (pc2 := 138) (A_c catI (pc1 := 132) (E_il d_PL_share_130) (A_c catI (pc1 := 137) (E_aI (pc1 := 135) (pc2 := 136) (E_gs w_s_PL_236 ho d_PL_share_132) (E_iln d_PL_share_135 rfl) d_PL_share_136) (A_c catI (pc1 := 138) (E_iln d_PL_share_137 rfl) A_n))) d_PL_share_138)) d_PL_share_141))))))))
theorem d_PL_power_0 : decode prog_1_method_34_code 0 = .ok (.lconst 1, 1) := by decide +kernel
theorem d_PL_power_1 : decode prog_1_method_34_code 1 = .ok (.lstore_n 3, 1) := by decide +kernel
theorem d_PL_power_2 : decode prog_1_method_34_code 2 = .ok (.iconst 0, 1) := by decide +kernel
theorem d_PL_power_3 : decode prog_1_method_34_code 3 = .ok (.istore 5, 2) := by decide +kernel
theorem d_PL_power_5 : decode prog_1_method_34_code 5 = .ok (.iload 5, 2) := by decide +kernel
theorem d_PL_power_7 : decode prog_1_method_34_code 7 = .ok (.iload_n 2, 1) := by decide +kernel
theorem d_PL_power_8 : decode prog_1_method_34_code 8 = .ok (.if_icmp .ge 13, 3) := by decide +kernel
theorem d_PL_power_11 : decode prog_1_method_34_code 11 = .ok (.lload_n 3, 1) := by decide +kernel
theorem d_PL_power_12 : decode prog_1_method_34_code 12 = .ok (.lload_n 0, 1) := by decide +kernel
theorem d_PL_power_13 : decode prog_1_method_34_code 13 = .ok (.lmul, 1) := by decide +kernel
theorem d_PL_power_14 : decode prog_1_method_34_code 14 = .ok (.lstore_n 3, 1) := by decide +kernel
theorem d_PL_power_15 : decode prog_1_method_34_code 15 = .ok (.iinc 5 1, 3) := by decide +kernel
theorem d_PL_power_18 : decode prog_1_method_34_code 18 = .ok (.goto (-13), 3) := by decide +kernel
theorem d_PL_power_21 : decode prog_1_method_34_code 21 = .ok (.lload_n 3, 1) := by decide +kernel
theorem d_PL_power_22 : decode prog_1_method_34_code 22 = .ok (.lreturn, 1) := by decide +kernel
def B_PL_power (_ : Nat × Nat) : PS :=
  (sSq (sL 3 (eV (1 : Int64)))
    (sSq (sCut 5 (sSq (sI 5 (eV (0 : Int32)))
    (sLp 6 (e2 (fun x y : Int32 => decide (x < y)) (eI 5) (eI 2))
    (sL 3 (e2 (fun x y : Int64 => x * y) (eL 3) (eL 0)))
    (sInc 5 (1)))))
    (sRt .long (eL 3))))
def X_PL_power : PM := fun vs h Q => (lx vs).length ≤ 6 ∧ B_PL_power (h.length + 0, hsz h + 0) (fun _ _ => False) (fun _ _ => False) (fun _ _ => False) Q (lini 6 vs) h
theorem v_PL_power (l : Launch) : Ctr l y_PL_power prog_1_method_34_code 6 (some .long) rm_PL_power X_PL_power := by
  refine Ctr_of (own := "PackLanes") (B := B_PL_power) (KR := fun _ Q => Q) (by decide) rfl (fun _ _ _ z => z) (fun _ _ _ _ z => ⟨Or.inl ⟨rfl, rfl⟩, z⟩) (Or.inr (Or.inr (Or.inr rfl))) (fun κ hl ho hR hrt hn0 => ?_)
  subst hl
  unfold B_PL_power
  exact (S_sq (pc1 := 2) (S_Ln (pc1 := 1) (E_lc d_PL_power_0 rfl) d_PL_power_1 rfl)
    (S_sq (pc1 := 21) (S_cut (S_sq (pc1 := 5) (S_I (pc1 := 3) (E_ic d_PL_power_2 rfl) d_PL_power_3)
    (S_lp (pT := 11) (pF := 21) (pS := 15) (pG := 18) (J2_lt (pF := 21) (pc1 := 7) (pc2 := 8) (E_il d_PL_power_5) (E_iln d_PL_power_7 rfl) d_PL_power_8 rfl)
    (S_Ln (pc1 := 14) (E_lmul (pc1 := 12) (pc2 := 13) (E_lln d_PL_power_11 rfl) (E_lln d_PL_power_12 rfl) d_PL_power_13) d_PL_power_14 rfl)
    (S_Inc d_PL_power_15 rfl) d_PL_power_18 rfl)))
    (S_rl hrt (pc1 := 22) (E_lln d_PL_power_21 rfl) d_PL_power_22)))
theorem d_PL_chance_0 : decode prog_1_method_19_code 0 = .ok (.iload_n 1, 1) := by decide +kernel
theorem d_PL_chance_1 : decode prog_1_method_19_code 1 = .ok (.ifCond .lt 19, 3) := by decide +kernel
theorem d_PL_chance_4 : decode prog_1_method_19_code 4 = .ok (.iload_n 1, 1) := by decide +kernel
theorem d_PL_chance_5 : decode prog_1_method_19_code 5 = .ok (.bipush 99, 2) := by decide +kernel
theorem d_PL_chance_7 : decode prog_1_method_19_code 7 = .ok (.if_icmp .gt 13, 3) := by decide +kernel
theorem d_PL_chance_10 : decode prog_1_method_19_code 10 = .ok (.iload_n 2, 1) := by decide +kernel
theorem d_PL_chance_11 : decode prog_1_method_19_code 11 = .ok (.ifCond .lt 9, 3) := by decide +kernel
theorem d_PL_chance_14 : decode prog_1_method_19_code 14 = .ok (.iload_n 2, 1) := by decide +kernel
theorem d_PL_chance_15 : decode prog_1_method_19_code 15 = .ok (.bipush 10, 2) := by decide +kernel
theorem d_PL_chance_17 : decode prog_1_method_19_code 17 = .ok (.if_icmp .le 6, 3) := by decide +kernel
theorem d_PL_chance_20 : decode prog_1_method_19_code 20 = .ok (.bipush (-2), 2) := by decide +kernel
theorem d_PL_chance_22 : decode prog_1_method_19_code 22 = .ok (.ireturn, 1) := by decide +kernel
theorem d_PL_chance_23 : decode prog_1_method_19_code 23 = .ok (.aload_n 0, 1) := by decide +kernel
theorem d_PL_chance_24 : decode prog_1_method_19_code 24 = .ok (.getfield 19, 3) := by decide +kernel
theorem d_PL_chance_27 : decode prog_1_method_19_code 27 = .ok (.invokevirtual 226, 3) := by decide +kernel
theorem d_PL_chance_30 : decode prog_1_method_19_code 30 = .ok (.invokestatic 171, 3) := by decide +kernel
theorem d_PL_chance_33 : decode prog_1_method_19_code 33 = .ok (.istore 4, 2) := by decide +kernel
theorem d_PL_chance_35 : decode prog_1_method_19_code 35 = .ok (.iload 4, 2) := by decide +kernel
theorem d_PL_chance_37 : decode prog_1_method_19_code 37 = .ok (.bipush 6, 2) := by decide +kernel
theorem d_PL_chance_39 : decode prog_1_method_19_code 39 = .ok (.if_icmp .le 6, 3) := by decide +kernel
theorem d_PL_chance_42 : decode prog_1_method_19_code 42 = .ok (.bipush (-3), 2) := by decide +kernel
theorem d_PL_chance_44 : decode prog_1_method_19_code 44 = .ok (.ireturn, 1) := by decide +kernel
theorem d_PL_chance_45 : decode prog_1_method_19_code 45 = .ok (.aload_n 0, 1) := by decide +kernel
theorem d_PL_chance_46 : decode prog_1_method_19_code 46 = .ok (.iload 4, 2) := by decide +kernel
theorem d_PL_chance_48 : decode prog_1_method_19_code 48 = .ok (.invokevirtual 229, 3) := by decide +kernel
theorem d_PL_chance_51 : decode prog_1_method_19_code 51 = .ok (.lconst 0, 1) := by decide +kernel
theorem d_PL_chance_52 : decode prog_1_method_19_code 52 = .ok (.lstore 5, 2) := by decide +kernel
theorem d_PL_chance_54 : decode prog_1_method_19_code 54 = .ok (.iconst 0, 1) := by decide +kernel
theorem d_PL_chance_55 : decode prog_1_method_19_code 55 = .ok (.istore 7, 2) := by decide +kernel
theorem d_PL_chance_57 : decode prog_1_method_19_code 57 = .ok (.iload 7, 2) := by decide +kernel
theorem d_PL_chance_59 : decode prog_1_method_19_code 59 = .ok (.iconst 1, 1) := by decide +kernel
theorem d_PL_chance_60 : decode prog_1_method_19_code 60 = .ok (.iload 4, 2) := by decide +kernel
theorem d_PL_chance_62 : decode prog_1_method_19_code 62 = .ok (.ishl, 1) := by decide +kernel
theorem d_PL_chance_63 : decode prog_1_method_19_code 63 = .ok (.if_icmp .ge 53, 3) := by decide +kernel
theorem d_PL_chance_66 : decode prog_1_method_19_code 66 = .ok (.iload 7, 2) := by decide +kernel
theorem d_PL_chance_68 : decode prog_1_method_19_code 68 = .ok (.invokestatic 171, 3) := by decide +kernel
theorem d_PL_chance_71 : decode prog_1_method_19_code 71 = .ok (.istore 8, 2) := by decide +kernel
theorem d_PL_chance_73 : decode prog_1_method_19_code 73 = .ok (.aload_n 0, 1) := by decide +kernel
theorem d_PL_chance_74 : decode prog_1_method_19_code 74 = .ok (.getfield 79, 3) := by decide +kernel
theorem d_PL_chance_77 : decode prog_1_method_19_code 77 = .ok (.iload 7, 2) := by decide +kernel
theorem d_PL_chance_79 : decode prog_1_method_19_code 79 = .ok (.iaload, 1) := by decide +kernel
theorem d_PL_chance_80 : decode prog_1_method_19_code 80 = .ok (.iload_n 1, 1) := by decide +kernel
theorem d_PL_chance_81 : decode prog_1_method_19_code 81 = .ok (.if_icmp .lt 29, 3) := by decide +kernel
theorem d_PL_chance_84 : decode prog_1_method_19_code 84 = .ok (.lload 5, 2) := by decide +kernel
theorem d_PL_chance_86 : decode prog_1_method_19_code 86 = .ok (.bipush 10, 2) := by decide +kernel
theorem d_PL_chance_88 : decode prog_1_method_19_code 88 = .ok (.iload_n 2, 1) := by decide +kernel
theorem d_PL_chance_89 : decode prog_1_method_19_code 89 = .ok (.isub, 1) := by decide +kernel
theorem d_PL_chance_90 : decode prog_1_method_19_code 90 = .ok (.i2l, 1) := by decide +kernel
theorem d_PL_chance_91 : decode prog_1_method_19_code 91 = .ok (.iload 8, 2) := by decide +kernel
theorem d_PL_chance_93 : decode prog_1_method_19_code 93 = .ok (.invokestatic 243, 3) := by decide +kernel
theorem d_PL_chance_96 : decode prog_1_method_19_code 96 = .ok (.iload_n 2, 1) := by decide +kernel
theorem d_PL_chance_97 : decode prog_1_method_19_code 97 = .ok (.i2l, 1) := by decide +kernel
theorem d_PL_chance_98 : decode prog_1_method_19_code 98 = .ok (.iload 4, 2) := by decide +kernel
theorem d_PL_chance_100 : decode prog_1_method_19_code 100 = .ok (.iload 8, 2) := by decide +kernel
theorem d_PL_chance_102 : decode prog_1_method_19_code 102 = .ok (.isub, 1) := by decide +kernel
theorem d_PL_chance_103 : decode prog_1_method_19_code 103 = .ok (.invokestatic 243, 3) := by decide +kernel
theorem d_PL_chance_106 : decode prog_1_method_19_code 106 = .ok (.lmul, 1) := by decide +kernel
theorem d_PL_chance_107 : decode prog_1_method_19_code 107 = .ok (.ladd, 1) := by decide +kernel
theorem d_PL_chance_108 : decode prog_1_method_19_code 108 = .ok (.lstore 5, 2) := by decide +kernel
theorem d_PL_chance_110 : decode prog_1_method_19_code 110 = .ok (.iinc 7 1, 3) := by decide +kernel
theorem d_PL_chance_113 : decode prog_1_method_19_code 113 = .ok (.goto (-56), 3) := by decide +kernel
theorem d_PL_chance_116 : decode prog_1_method_19_code 116 = .ok (.lload 5, 2) := by decide +kernel
theorem d_PL_chance_118 : decode prog_1_method_19_code 118 = .ok (.l2i, 1) := by decide +kernel
theorem d_PL_chance_119 : decode prog_1_method_19_code 119 = .ok (.ldc2_w 247, 3) := by decide +kernel
theorem d_PL_chance_122 : decode prog_1_method_19_code 122 = .ok (.iload 4, 2) := by decide +kernel
theorem d_PL_chance_124 : decode prog_1_method_19_code 124 = .ok (.invokestatic 243, 3) := by decide +kernel
theorem d_PL_chance_127 : decode prog_1_method_19_code 127 = .ok (.l2i, 1) := by decide +kernel
theorem d_PL_chance_128 : decode prog_1_method_19_code 128 = .ok (.iload_n 3, 1) := by decide +kernel
theorem d_PL_chance_129 : decode prog_1_method_19_code 129 = .ok (.invokestatic 239, 3) := by decide +kernel
theorem d_PL_chance_132 : decode prog_1_method_19_code 132 = .ok (.ireturn, 1) := by decide +kernel
def B_PL_chance (_ : Nat × Nat) : PS :=
  (sSq (sIf (cO (cO (cO (e1 (fun x : Int32 => decide (x < 0)) (eI 1)) (e2 (fun x y : Int32 => decide (y < x)) (eI 1) (eV (99 : Int32)))) (e1 (fun x : Int32 => decide (x < 0)) (eI 2))) (e2 (fun x y : Int32 => decide (y < x)) (eI 2) (eV (10 : Int32)))) (sRt .int (eV (-2 : Int32))) sSk)
    (sSq (sI 4 (eX .int (xS 1 X_Int_bitCount (aC .int (eX .int (xV 1 0 X_Code_stores (eFR 9 1 (eR 0)) aN)) aN))))
    (sSq (sIf (e2 (fun x y : Int32 => decide (y < x)) (eI 4) (eV (6 : Int32))) (sRt .int (eV (-3 : Int32))) sSk)
    (sSq (sX (xV 9 1 X_PL_sumGainsOfAllChoices (eR 0) (aC .int (eI 4) aN)))
    (sSq (sL 5 (eV (0 : Int64)))
    (sSq (sCut 7 (sSq (sI 7 (eV (0 : Int32)))
    (sLp 8 (e2 (fun x y : Int32 => decide (x < y)) (eI 7) (e2 (fun x y : Int32 => x <<< (y &&& 31)) (eV (1 : Int32)) (eI 4)))
    (sCut 8 (sSq (sI 8 (eX .int (xS 1 X_Int_bitCount (aC .int (eI 7) aN))))
    (sIf (e2 (fun x y : Int32 => decide (y ≤ x)) (eAI (eFR 9 13 (eR 0)) (eI 7)) (eI 1)) (sL 5 (e2 (fun x y : Int64 => x + y) (eL 5) (e2 (fun x y : Int64 => x * y) (eX .long (xS 2 X_PL_power (aC .long (e1 (fun x : Int32 => x.toInt64) (e2 (fun x y : Int32 => x - y) (eV (10 : Int32)) (eI 2))) (aC .int (eI 8) aN)))) (eX .long (xS 2 X_PL_power (aC .long (e1 (fun x : Int32 => x.toInt64) (eI 2)) (aC .int (e2 (fun x y : Int32 => x - y) (eI 4) (eI 8)) aN))))))) sSk)))
    (sInc 7 (1)))))
    (sRt .int (eX .int (xS 3 X_PL_partOfFraction (aC .int (e1 (fun x : Int64 => x.toInt32) (eL 5)) (aC .int (e1 (fun x : Int64 => x.toInt32) (eX .long (xS 2 X_PL_power (aC .long (eV (10 : Int64)) (aC .int (eI 4) aN))))) (aC .int (eI 3) aN))))))))))))
def X_PL_chance : PM := fun vs h Q => (lx vs).length ≤ 9 ∧ B_PL_chance (h.length + 0, hsz h + 0) (fun _ _ => False) (fun _ _ => False) (fun _ _ => False) Q (lini 9 vs) h
theorem v_PL_chance (l : Launch) : Ctr l y_PL_chance prog_1_method_19_code 9 (some .int) rm_PL_chance X_PL_chance := by
  refine Ctr_of (own := "PackLanes") (B := B_PL_chance) (KR := fun _ Q => Q) (by decide) rfl (fun _ _ _ z => z) (fun _ _ _ _ z => ⟨Or.inl ⟨rfl, rfl⟩, z⟩) (Or.inr (Or.inl rfl)) (fun κ hl ho hR hrt hn0 => ?_)
  subst hl
  unfold B_PL_chance
  exact (S_sq (pc1 := 23) (S_if1 (pT := 20) (pF := 23) (C_or (pc1 := 14) (C_or (pc1 := 10) (C_or (pc1 := 4) (T1_lt (pT := 20) (pc2 := 1) (E_iln d_PL_chance_0 rfl) d_PL_chance_1 rfl) (T2_gt (pT := 20) (pc1 := 5) (pc2 := 7) (E_iln d_PL_chance_4 rfl) (E_bi d_PL_chance_5 rfl) d_PL_chance_7 rfl)) (T1_lt (pT := 20) (pc2 := 11) (E_iln d_PL_chance_10 rfl) d_PL_chance_11 rfl)) (J2_gt (pF := 23) (pc1 := 15) (pc2 := 17) (E_iln d_PL_chance_14 rfl) (E_bi d_PL_chance_15 rfl) d_PL_chance_17 rfl)) (S_ri hrt (pc1 := 22) (E_bi d_PL_chance_20 rfl) d_PL_chance_22))
    (S_sq (pc1 := 35) (S_I (pc1 := 33) (E_x (O_S k_PL_171 (v_Int_bitCount _) ⟨rfl, rfl⟩ ho (rk hR rfl) (by decide) (pc2 := 30) (A_c catI (pc1 := 30) (E_x (O_V k_PL_226 (v_Code_stores _) ⟨rfl, rfl⟩ ho (rk hR rfl) (by decide) (T := KT1) (N := 7) rfl (by decide) (pc1 := 27) (pc2 := 27) (E_fR f_PL_19 ho (pc1 := 24) (E_aln d_PL_chance_23 rfl) d_PL_chance_24) A_n d_PL_chance_27)) A_n) d_PL_chance_30)) d_PL_chance_33)
    (S_sq (pc1 := 45) (S_if1 (pT := 42) (pF := 45) (J2_gt (pF := 45) (pc1 := 37) (pc2 := 39) (E_il d_PL_chance_35) (E_bi d_PL_chance_37 rfl) d_PL_chance_39 rfl) (S_ri hrt (pc1 := 44) (E_bi d_PL_chance_42 rfl) d_PL_chance_44))
    (S_sq (pc1 := 51) (S_X (O_V k_PL_229 (v_PL_sumGainsOfAllChoices _) ⟨rfl, rfl⟩ ho (rk hR rfl) (by decide) (T := KT9) (N := 15) rfl (by decide) (pc1 := 46) (pc2 := 48) (E_aln d_PL_chance_45 rfl) (A_c catI (pc1 := 48) (E_il d_PL_chance_46) A_n) d_PL_chance_48))
    (S_sq (pc1 := 54) (S_L (pc1 := 52) (E_lc d_PL_chance_51 rfl) d_PL_chance_52)
    (S_sq (pc1 := 116) (S_cut (S_sq (pc1 := 57) (S_I (pc1 := 55) (E_ic d_PL_chance_54 rfl) d_PL_chance_55)
    (S_lp (pT := 66) (pF := 116) (pS := 110) (pG := 113) (J2_lt (pF := 116) (pc1 := 59) (pc2 := 63) (E_il d_PL_chance_57) (E_ishl (pc1 := 60) (pc2 := 62) (E_ic d_PL_chance_59 rfl) (E_il d_PL_chance_60) d_PL_chance_62) d_PL_chance_63 rfl)
    (S_cut (S_sq (pc1 := 73) (S_I (pc1 := 71) (E_x (O_S k_PL_171 (v_Int_bitCount _) ⟨rfl, rfl⟩ ho (rk hR rfl) (by decide) (pc2 := 68) (A_c catI (pc1 := 68) (E_il d_PL_chance_66) A_n) d_PL_chance_68)) d_PL_chance_71)
    (S_if1 (pT := 84) (pF := 110) (J2_ge (pF := 110) (pc1 := 80) (pc2 := 81) (E_aI (pc1 := 77) (pc2 := 79) (E_fR f_PL_79 ho (pc1 := 74) (E_aln d_PL_chance_73 rfl) d_PL_chance_74) (E_il d_PL_chance_77) d_PL_chance_79) (E_iln d_PL_chance_80 rfl) d_PL_chance_81 rfl) (S_L (pc1 := 108) (E_ladd (pc1 := 86) (pc2 := 107) (E_ll d_PL_chance_84) (E_lmul (pc1 := 96) (pc2 := 106) (E_x (O_S k_PL_243 (v_PL_power _) ⟨rfl, rfl⟩ ho (rk hR rfl) (by decide) (pc2 := 93) (A_c catL (pc1 := 91) (E_i2l (pc1 := 90) (E_isub (pc1 := 88) (pc2 := 89) (E_bi d_PL_chance_86 rfl) (E_iln d_PL_chance_88 rfl) d_PL_chance_89) d_PL_chance_90) (A_c catI (pc1 := 93) (E_il d_PL_chance_91) A_n)) d_PL_chance_93)) (E_x (O_S k_PL_243 (v_PL_power _) ⟨rfl, rfl⟩ ho (rk hR rfl) (by decide) (pc2 := 103) (A_c catL (pc1 := 98) (E_i2l (pc1 := 97) (E_iln d_PL_chance_96 rfl) d_PL_chance_97) (A_c catI (pc1 := 103) (E_isub (pc1 := 100) (pc2 := 102) (E_il d_PL_chance_98) (E_il d_PL_chance_100) d_PL_chance_102) A_n)) d_PL_chance_103)) d_PL_chance_106) d_PL_chance_107) d_PL_chance_108))))
    (S_Inc d_PL_chance_110 rfl) d_PL_chance_113 rfl)))
    (S_ri hrt (pc1 := 132) (E_x (O_S k_PL_239 (v_PL_partOfFraction _) ⟨rfl, rfl⟩ ho (rk hR rfl) (by decide) (pc2 := 129) (A_c catI (pc1 := 119) (E_l2i (pc1 := 118) (E_ll d_PL_chance_116) d_PL_chance_118) (A_c catI (pc1 := 128) (E_l2i (pc1 := 127) (E_x (O_S k_PL_243 (v_PL_power _) ⟨rfl, rfl⟩ ho (rk hR rfl) (by decide) (pc2 := 124) (A_c catL (pc1 := 122) (E_ldc2 ho w_cl_PL_247 d_PL_chance_119) (A_c catI (pc1 := 124) (E_il d_PL_chance_122) A_n)) d_PL_chance_124)) d_PL_chance_127) (A_c catI (pc1 := 129) (E_iln d_PL_chance_128 rfl) A_n))) d_PL_chance_129)) d_PL_chance_132)))))))
theorem d_PL_seed_0 : decode prog_1_method_20_code 0 = .ok (.aload_n 0, 1) := by decide +kernel
theorem d_PL_seed_1 : decode prog_1_method_20_code 1 = .ok (.getfield 82, 3) := by decide +kernel
theorem d_PL_seed_4 : decode prog_1_method_20_code 4 = .ok (.lstore_n 3, 1) := by decide +kernel
theorem d_PL_seed_5 : decode prog_1_method_20_code 5 = .ok (.aload_n 0, 1) := by decide +kernel
theorem d_PL_seed_6 : decode prog_1_method_20_code 6 = .ok (.lload_n 1, 1) := by decide +kernel
theorem d_PL_seed_7 : decode prog_1_method_20_code 7 = .ok (.putfield 82, 3) := by decide +kernel
theorem d_PL_seed_10 : decode prog_1_method_20_code 10 = .ok (.lload_n 3, 1) := by decide +kernel
theorem d_PL_seed_11 : decode prog_1_method_20_code 11 = .ok (.lreturn, 1) := by decide +kernel
def B_PL_seed (_ : Nat × Nat) : PS :=
  (sSq (sL 3 (eFL 9 14 (eR 0)))
    (sSq (sF .long 9 14 (eR 0) (eL 1))
    (sRt .long (eL 3))))
def X_PL_seed : PM := fun vs h Q => (lx vs).length ≤ 5 ∧ B_PL_seed (h.length + 0, hsz h + 0) (fun _ _ => False) (fun _ _ => False) (fun _ _ => False) Q (lini 5 vs) h
theorem v_PL_seed (l : Launch) : Ctr l y_PL_seed prog_1_method_20_code 5 (some .long) rm_PL_seed X_PL_seed := by
  refine Ctr_of (own := "PackLanes") (B := B_PL_seed) (KR := fun _ Q => Q) (by decide) rfl (fun _ _ _ z => z) (fun _ _ _ _ z => ⟨Or.inl ⟨rfl, rfl⟩, z⟩) (Or.inr (Or.inr (Or.inr rfl))) (fun κ hl ho hR hrt hn0 => ?_)
  subst hl
  unfold B_PL_seed
  exact (S_sq (pc1 := 5) (S_Ln (pc1 := 4) (E_fL f_PL_82 ho (pc1 := 1) (E_aln d_PL_seed_0 rfl) d_PL_seed_1) d_PL_seed_4 rfl)
    (S_sq (pc1 := 10) (S_FL f_PL_82 ho (pc1 := 6) (pc2 := 7) (E_aln d_PL_seed_5 rfl) (E_lln d_PL_seed_6 rfl) d_PL_seed_7)
    (S_rl hrt (pc1 := 11) (E_lln d_PL_seed_10 rfl) d_PL_seed_11)))
theorem d_PL_drawStartValues_0 : decode prog_1_method_31_code 0 = .ok (.aload_n 0, 1) := by decide +kernel
theorem d_PL_drawStartValues_1 : decode prog_1_method_31_code 1 = .ok (.aload_n 0, 1) := by decide +kernel
theorem d_PL_drawStartValues_2 : decode prog_1_method_31_code 2 = .ok (.getfield 82, 3) := by decide +kernel
theorem d_PL_drawStartValues_5 : decode prog_1_method_31_code 5 = .ok (.ldc2_w 269, 3) := by decide +kernel
theorem d_PL_drawStartValues_8 : decode prog_1_method_31_code 8 = .ok (.lmul, 1) := by decide +kernel
theorem d_PL_drawStartValues_9 : decode prog_1_method_31_code 9 = .ok (.ldc2_w 271, 3) := by decide +kernel
theorem d_PL_drawStartValues_12 : decode prog_1_method_31_code 12 = .ok (.ladd, 1) := by decide +kernel
theorem d_PL_drawStartValues_13 : decode prog_1_method_31_code 13 = .ok (.putfield 82, 3) := by decide +kernel
theorem d_PL_drawStartValues_16 : decode prog_1_method_31_code 16 = .ok (.aload_n 0, 1) := by decide +kernel
theorem d_PL_drawStartValues_17 : decode prog_1_method_31_code 17 = .ok (.getfield 82, 3) := by decide +kernel
theorem d_PL_drawStartValues_20 : decode prog_1_method_31_code 20 = .ok (.bipush 33, 2) := by decide +kernel
theorem d_PL_drawStartValues_22 : decode prog_1_method_31_code 22 = .ok (.lushr, 1) := by decide +kernel
theorem d_PL_drawStartValues_23 : decode prog_1_method_31_code 23 = .ok (.l2i, 1) := by decide +kernel
theorem d_PL_drawStartValues_24 : decode prog_1_method_31_code 24 = .ok (.istore_n 1, 1) := by decide +kernel
theorem d_PL_drawStartValues_25 : decode prog_1_method_31_code 25 = .ok (.iconst 0, 1) := by decide +kernel
theorem d_PL_drawStartValues_26 : decode prog_1_method_31_code 26 = .ok (.istore_n 2, 1) := by decide +kernel
theorem d_PL_drawStartValues_27 : decode prog_1_method_31_code 27 = .ok (.iload_n 2, 1) := by decide +kernel
theorem d_PL_drawStartValues_28 : decode prog_1_method_31_code 28 = .ok (.bipush 16, 2) := by decide +kernel
theorem d_PL_drawStartValues_30 : decode prog_1_method_31_code 30 = .ok (.if_icmp .ge 23, 3) := by decide +kernel
theorem d_PL_drawStartValues_33 : decode prog_1_method_31_code 33 = .ok (.aload_n 0, 1) := by decide +kernel
theorem d_PL_drawStartValues_34 : decode prog_1_method_31_code 34 = .ok (.getfield 30, 3) := by decide +kernel
theorem d_PL_drawStartValues_37 : decode prog_1_method_31_code 37 = .ok (.iload_n 2, 1) := by decide +kernel
theorem d_PL_drawStartValues_38 : decode prog_1_method_31_code 38 = .ok (.iload_n 1, 1) := by decide +kernel
theorem d_PL_drawStartValues_39 : decode prog_1_method_31_code 39 = .ok (.iload_n 2, 1) := by decide +kernel
theorem d_PL_drawStartValues_40 : decode prog_1_method_31_code 40 = .ok (.ishr, 1) := by decide +kernel
theorem d_PL_drawStartValues_41 : decode prog_1_method_31_code 41 = .ok (.bipush 15, 2) := by decide +kernel
theorem d_PL_drawStartValues_43 : decode prog_1_method_31_code 43 = .ok (.iand, 1) := by decide +kernel
theorem d_PL_drawStartValues_44 : decode prog_1_method_31_code 44 = .ok (.iconst 4, 1) := by decide +kernel
theorem d_PL_drawStartValues_45 : decode prog_1_method_31_code 45 = .ok (.isub, 1) := by decide +kernel
theorem d_PL_drawStartValues_46 : decode prog_1_method_31_code 46 = .ok (.iastore, 1) := by decide +kernel
theorem d_PL_drawStartValues_47 : decode prog_1_method_31_code 47 = .ok (.iinc 2 1, 3) := by decide +kernel
theorem d_PL_drawStartValues_50 : decode prog_1_method_31_code 50 = .ok (.goto (-23), 3) := by decide +kernel
theorem d_PL_drawStartValues_53 : decode prog_1_method_31_code 53 = .ok (.return_, 1) := by decide +kernel
def B_PL_drawStartValues (_ : Nat × Nat) : PS :=
  (sSq (sF .long 9 14 (eR 0) (e2 (fun x y : Int64 => x + y) (e2 (fun x y : Int64 => x * y) (eFL 9 14 (eR 0)) (eV (6364136223846793005 : Int64))) (eV (1442695040888963407 : Int64))))
    (sSq (sI 1 (e1 (fun x : Int64 => x.toInt32) (e2 (fun (x : Int64) (y : Int32) => (x.toUInt64 >>> (y.toInt64.toUInt64 &&& Int64.toUInt64 63)).toInt64) (eFL 9 14 (eR 0)) (eV (33 : Int32)))))
    (sSq (sCut 2 (sSq (sI 2 (eV (0 : Int32)))
    (sLp 3 (e2 (fun x y : Int32 => decide (x < y)) (eI 2) (eV (16 : Int32)))
    (sAI (eFR 9 4 (eR 0)) (eI 2) (e2 (fun x y : Int32 => x - y) (e2 (fun x y : Int32 => x &&& y) (e2 (fun x y : Int32 => x >>> (y &&& 31)) (eI 1) (eI 2)) (eV (15 : Int32))) (eV (4 : Int32))))
    (sInc 2 (1)))))
    sRv)))
def X_PL_drawStartValues : PM := fun vs h Q => (lx vs).length ≤ 3 ∧ B_PL_drawStartValues (h.length + 0, hsz h + 0) (fun _ _ => False) (fun _ _ => False) (fun _ _ => False) Q (lini 3 vs) h
theorem v_PL_drawStartValues (l : Launch) : Ctr l y_PL_drawStartValues prog_1_method_31_code 3 none rm_PL_drawStartValues X_PL_drawStartValues := by
  refine Ctr_of (own := "PackLanes") (B := B_PL_drawStartValues) (KR := fun _ Q => Q) (by decide) rfl (fun _ _ _ z => z) (fun _ _ _ _ z => ⟨Or.inl ⟨rfl, rfl⟩, z⟩) (Or.inl rfl) (fun κ hl ho hR hrt hn0 => ?_)
  subst hl
  unfold B_PL_drawStartValues
  exact (S_sq (pc1 := 16) (S_FL f_PL_82 ho (pc1 := 1) (pc2 := 13) (E_aln d_PL_drawStartValues_0 rfl) (E_ladd (pc1 := 9) (pc2 := 12) (E_lmul (pc1 := 5) (pc2 := 8) (E_fL f_PL_82 ho (pc1 := 2) (E_aln d_PL_drawStartValues_1 rfl) d_PL_drawStartValues_2) (E_ldc2 ho w_cl_PL_269 d_PL_drawStartValues_5) d_PL_drawStartValues_8) (E_ldc2 ho w_cl_PL_271 d_PL_drawStartValues_9) d_PL_drawStartValues_12) d_PL_drawStartValues_13)
    (S_sq (pc1 := 25) (S_In (pc1 := 24) (E_l2i (pc1 := 23) (E_lushr (pc1 := 20) (pc2 := 22) (E_fL f_PL_82 ho (pc1 := 17) (E_aln d_PL_drawStartValues_16 rfl) d_PL_drawStartValues_17) (E_bi d_PL_drawStartValues_20 rfl) d_PL_drawStartValues_22) d_PL_drawStartValues_23) d_PL_drawStartValues_24 rfl)
    (S_sq (pc1 := 53) (S_cut (S_sq (pc1 := 27) (S_In (pc1 := 26) (E_ic d_PL_drawStartValues_25 rfl) d_PL_drawStartValues_26 rfl)
    (S_lp (pT := 33) (pF := 53) (pS := 47) (pG := 50) (J2_lt (pF := 53) (pc1 := 28) (pc2 := 30) (E_iln d_PL_drawStartValues_27 rfl) (E_bi d_PL_drawStartValues_28 rfl) d_PL_drawStartValues_30 rfl)
    (S_AI (pc1 := 37) (pc2 := 38) (pc3 := 46) (E_fR f_PL_30 ho (pc1 := 34) (E_aln d_PL_drawStartValues_33 rfl) d_PL_drawStartValues_34) (E_iln d_PL_drawStartValues_37 rfl) (E_isub (pc1 := 44) (pc2 := 45) (E_iand (pc1 := 41) (pc2 := 43) (E_ishr (pc1 := 39) (pc2 := 40) (E_iln d_PL_drawStartValues_38 rfl) (E_iln d_PL_drawStartValues_39 rfl) d_PL_drawStartValues_40) (E_bi d_PL_drawStartValues_41 rfl) d_PL_drawStartValues_43) (E_ic d_PL_drawStartValues_44 rfl) d_PL_drawStartValues_45) d_PL_drawStartValues_46)
    (S_Inc d_PL_drawStartValues_47 rfl) d_PL_drawStartValues_50 rfl)))
    (S_rv hrt d_PL_drawStartValues_53))))
theorem d_PL_drawn_0 : decode prog_1_method_21_code 0 = .ok (.iload_n 1, 1) := by decide +kernel
theorem d_PL_drawn_1 : decode prog_1_method_21_code 1 = .ok (.iconst 1, 1) := by decide +kernel
theorem d_PL_drawn_2 : decode prog_1_method_21_code 2 = .ok (.if_icmp .lt 9, 3) := by decide +kernel
theorem d_PL_drawn_5 : decode prog_1_method_21_code 5 = .ok (.iload_n 1, 1) := by decide +kernel
theorem d_PL_drawn_6 : decode prog_1_method_21_code 6 = .ok (.bipush 10, 2) := by decide +kernel
theorem d_PL_drawn_8 : decode prog_1_method_21_code 8 = .ok (.if_icmp .le 6, 3) := by decide +kernel
theorem d_PL_drawn_11 : decode prog_1_method_21_code 11 = .ok (.bipush (-2), 2) := by decide +kernel
theorem d_PL_drawn_13 : decode prog_1_method_21_code 13 = .ok (.ireturn, 1) := by decide +kernel
theorem d_PL_drawn_14 : decode prog_1_method_21_code 14 = .ok (.iconst 0, 1) := by decide +kernel
theorem d_PL_drawn_15 : decode prog_1_method_21_code 15 = .ok (.istore_n 2, 1) := by decide +kernel
theorem d_PL_drawn_16 : decode prog_1_method_21_code 16 = .ok (.aload_n 0, 1) := by decide +kernel
theorem d_PL_drawn_17 : decode prog_1_method_21_code 17 = .ok (.getfield 30, 3) := by decide +kernel
theorem d_PL_drawn_20 : decode prog_1_method_21_code 20 = .ok (.bipush 16, 2) := by decide +kernel
theorem d_PL_drawn_22 : decode prog_1_method_21_code 22 = .ok (.aload_n 0, 1) := by decide +kernel
theorem d_PL_drawn_23 : decode prog_1_method_21_code 23 = .ok (.getfield 26, 3) := by decide +kernel
theorem d_PL_drawn_26 : decode prog_1_method_21_code 26 = .ok (.bipush 16, 2) := by decide +kernel
theorem d_PL_drawn_28 : decode prog_1_method_21_code 28 = .ok (.iaload, 1) := by decide +kernel
theorem d_PL_drawn_29 : decode prog_1_method_21_code 29 = .ok (.iastore, 1) := by decide +kernel
theorem d_PL_drawn_30 : decode prog_1_method_21_code 30 = .ok (.iconst 0, 1) := by decide +kernel
theorem d_PL_drawn_31 : decode prog_1_method_21_code 31 = .ok (.istore_n 3, 1) := by decide +kernel
theorem d_PL_drawn_32 : decode prog_1_method_21_code 32 = .ok (.iload_n 3, 1) := by decide +kernel
theorem d_PL_drawn_33 : decode prog_1_method_21_code 33 = .ok (.iload_n 1, 1) := by decide +kernel
theorem d_PL_drawn_34 : decode prog_1_method_21_code 34 = .ok (.if_icmp .ge 65, 3) := by decide +kernel
theorem d_PL_drawn_37 : decode prog_1_method_21_code 37 = .ok (.aload_n 0, 1) := by decide +kernel
theorem d_PL_drawn_38 : decode prog_1_method_21_code 38 = .ok (.invokevirtual 249, 3) := by decide +kernel
theorem d_PL_drawn_41 : decode prog_1_method_21_code 41 = .ok (.aload_n 0, 1) := by decide +kernel
theorem d_PL_drawn_42 : decode prog_1_method_21_code 42 = .ok (.getfield 75, 3) := by decide +kernel
theorem d_PL_drawn_45 : decode prog_1_method_21_code 45 = .ok (.aload_n 0, 1) := by decide +kernel
theorem d_PL_drawn_46 : decode prog_1_method_21_code 46 = .ok (.getfield 30, 3) := by decide +kernel
theorem d_PL_drawn_49 : decode prog_1_method_21_code 49 = .ok (.bipush (-9), 2) := by decide +kernel
theorem d_PL_drawn_51 : decode prog_1_method_21_code 51 = .ok (.invokevirtual 128, 3) := by decide +kernel
theorem d_PL_drawn_54 : decode prog_1_method_21_code 54 = .ok (.iconst 0, 1) := by decide +kernel
theorem d_PL_drawn_55 : decode prog_1_method_21_code 55 = .ok (.istore 4, 2) := by decide +kernel
theorem d_PL_drawn_57 : decode prog_1_method_21_code 57 = .ok (.iload 4, 2) := by decide +kernel
theorem d_PL_drawn_59 : decode prog_1_method_21_code 59 = .ok (.bipush 16, 2) := by decide +kernel
theorem d_PL_drawn_61 : decode prog_1_method_21_code 61 = .ok (.if_icmp .ge 32, 3) := by decide +kernel
theorem d_PL_drawn_64 : decode prog_1_method_21_code 64 = .ok (.aload_n 0, 1) := by decide +kernel
theorem d_PL_drawn_65 : decode prog_1_method_21_code 65 = .ok (.getfield 75, 3) := by decide +kernel
theorem d_PL_drawn_68 : decode prog_1_method_21_code 68 = .ok (.getfield 179, 3) := by decide +kernel
theorem d_PL_drawn_71 : decode prog_1_method_21_code 71 = .ok (.iload 4, 2) := by decide +kernel
theorem d_PL_drawn_73 : decode prog_1_method_21_code 73 = .ok (.iaload, 1) := by decide +kernel
theorem d_PL_drawn_74 : decode prog_1_method_21_code 74 = .ok (.aload_n 0, 1) := by decide +kernel
theorem d_PL_drawn_75 : decode prog_1_method_21_code 75 = .ok (.getfield 30, 3) := by decide +kernel
theorem d_PL_drawn_78 : decode prog_1_method_21_code 78 = .ok (.iload 4, 2) := by decide +kernel
theorem d_PL_drawn_80 : decode prog_1_method_21_code 80 = .ok (.iaload, 1) := by decide +kernel
theorem d_PL_drawn_81 : decode prog_1_method_21_code 81 = .ok (.if_icmp .eq 6, 3) := by decide +kernel
theorem d_PL_drawn_84 : decode prog_1_method_21_code 84 = .ok (.iinc 2 1, 3) := by decide +kernel
theorem d_PL_drawn_87 : decode prog_1_method_21_code 87 = .ok (.iinc 4 1, 3) := by decide +kernel
theorem d_PL_drawn_90 : decode prog_1_method_21_code 90 = .ok (.goto (-33), 3) := by decide +kernel
theorem d_PL_drawn_93 : decode prog_1_method_21_code 93 = .ok (.iinc 3 1, 3) := by decide +kernel
theorem d_PL_drawn_96 : decode prog_1_method_21_code 96 = .ok (.goto (-64), 3) := by decide +kernel
theorem d_PL_drawn_99 : decode prog_1_method_21_code 99 = .ok (.iload_n 2, 1) := by decide +kernel
theorem d_PL_drawn_100 : decode prog_1_method_21_code 100 = .ok (.ireturn, 1) := by decide +kernel
def B_PL_drawn (_ : Nat × Nat) : PS :=
  (sSq (sIf (cO (e2 (fun x y : Int32 => decide (x < y)) (eI 1) (eV (1 : Int32))) (e2 (fun x y : Int32 => decide (y < x)) (eI 1) (eV (10 : Int32)))) (sRt .int (eV (-2 : Int32))) sSk)
    (sSq (sI 2 (eV (0 : Int32)))
    (sSq (sAI (eFR 9 4 (eR 0)) (eV (16 : Int32)) (eAI (eFR 9 3 (eR 0)) (eV (16 : Int32))))
    (sSq (sCut 3 (sSq (sI 3 (eV (0 : Int32)))
    (sLp 4 (e2 (fun x y : Int32 => decide (x < y)) (eI 3) (eI 1))
    (sSq (sX (xV 9 0 X_PL_drawStartValues (eR 0) aN))
    (sSq (sX (xV 3 2 X_Mach_runInOrder (eFR 9 12 (eR 0)) (aC .ref (eFR 9 4 (eR 0)) (aC .int (eV (-9 : Int32)) aN))))
    (sCut 4 (sSq (sI 4 (eV (0 : Int32)))
    (sLp 5 (e2 (fun x y : Int32 => decide (x < y)) (eI 4) (eV (16 : Int32)))
    (sIf (e2 (fun x y : Int32 => decide (¬ x = y)) (eAI (eFR 3 1 (eFR 9 12 (eR 0))) (eI 4)) (eAI (eFR 9 4 (eR 0)) (eI 4))) (sInc 2 (1)) sSk)
    (sInc 4 (1)))))))
    (sInc 3 (1)))))
    (sRt .int (eI 2))))))
def X_PL_drawn : PM := fun vs h Q => (lx vs).length ≤ 5 ∧ B_PL_drawn (h.length + 0, hsz h + 0) (fun _ _ => False) (fun _ _ => False) (fun _ _ => False) Q (lini 5 vs) h
theorem v_PL_drawn (l : Launch) : Ctr l y_PL_drawn prog_1_method_21_code 5 (some .int) rm_PL_drawn X_PL_drawn := by
  refine Ctr_of (own := "PackLanes") (B := B_PL_drawn) (KR := fun _ Q => Q) (by decide) rfl (fun _ _ _ z => z) (fun _ _ _ _ z => ⟨Or.inl ⟨rfl, rfl⟩, z⟩) (Or.inr (Or.inl rfl)) (fun κ hl ho hR hrt hn0 => ?_)
  subst hl
  unfold B_PL_drawn
  exact (S_sq (pc1 := 14) (S_if1 (pT := 11) (pF := 14) (C_or (pc1 := 5) (T2_lt (pT := 11) (pc1 := 1) (pc2 := 2) (E_iln d_PL_drawn_0 rfl) (E_ic d_PL_drawn_1 rfl) d_PL_drawn_2 rfl) (J2_gt (pF := 14) (pc1 := 6) (pc2 := 8) (E_iln d_PL_drawn_5 rfl) (E_bi d_PL_drawn_6 rfl) d_PL_drawn_8 rfl)) (S_ri hrt (pc1 := 13) (E_bi d_PL_drawn_11 rfl) d_PL_drawn_13))
    (S_sq (pc1 := 16) (S_In (pc1 := 15) (E_ic d_PL_drawn_14 rfl) d_PL_drawn_15 rfl)
    (S_sq (pc1 := 30) (S_AI (pc1 := 20) (pc2 := 22) (pc3 := 29) (E_fR f_PL_30 ho (pc1 := 17) (E_aln d_PL_drawn_16 rfl) d_PL_drawn_17) (E_bi d_PL_drawn_20 rfl) (E_aI (pc1 := 26) (pc2 := 28) (E_fR f_PL_26 ho (pc1 := 23) (E_aln d_PL_drawn_22 rfl) d_PL_drawn_23) (E_bi d_PL_drawn_26 rfl) d_PL_drawn_28) d_PL_drawn_29)
    (S_sq (pc1 := 99) (S_cut (S_sq (pc1 := 32) (S_In (pc1 := 31) (E_ic d_PL_drawn_30 rfl) d_PL_drawn_31 rfl)
    (S_lp (pT := 37) (pF := 99) (pS := 93) (pG := 96) (J2_lt (pF := 99) (pc1 := 33) (pc2 := 34) (E_iln d_PL_drawn_32 rfl) (E_iln d_PL_drawn_33 rfl) d_PL_drawn_34 rfl)
    (S_sq (pc1 := 41) (S_X (O_V k_PL_249 (v_PL_drawStartValues _) ⟨rfl, rfl⟩ ho (rk hR rfl) (by decide) (T := KT9) (N := 15) rfl (by decide) (pc1 := 38) (pc2 := 38) (E_aln d_PL_drawn_37 rfl) A_n d_PL_drawn_38))
    (S_sq (pc1 := 54) (S_X (O_V k_PL_128 (v_Mach_runInOrder _) ⟨rfl, rfl⟩ ho (rk hR rfl) (by decide) (T := KT3) (N := 5) rfl (by decide) (pc1 := 45) (pc2 := 51) (E_fR f_PL_75 ho (pc1 := 42) (E_aln d_PL_drawn_41 rfl) d_PL_drawn_42) (A_c catR (pc1 := 49) (E_fR f_PL_30 ho (pc1 := 46) (E_aln d_PL_drawn_45 rfl) d_PL_drawn_46) (A_c catI (pc1 := 51) (E_bi d_PL_drawn_49 rfl) A_n)) d_PL_drawn_51))
    (S_cut (S_sq (pc1 := 57) (S_I (pc1 := 55) (E_ic d_PL_drawn_54 rfl) d_PL_drawn_55)
    (S_lp (pT := 64) (pF := 93) (pS := 87) (pG := 90) (J2_lt (pF := 93) (pc1 := 59) (pc2 := 61) (E_il d_PL_drawn_57) (E_bi d_PL_drawn_59 rfl) d_PL_drawn_61 rfl)
    (S_if1 (pT := 84) (pF := 87) (J2_ne (pF := 87) (pc1 := 74) (pc2 := 81) (E_aI (pc1 := 71) (pc2 := 73) (E_fR f_PL_179 ho (pc1 := 68) (E_fR f_PL_75 ho (pc1 := 65) (E_aln d_PL_drawn_64 rfl) d_PL_drawn_65) d_PL_drawn_68) (E_il d_PL_drawn_71) d_PL_drawn_73) (E_aI (pc1 := 78) (pc2 := 80) (E_fR f_PL_30 ho (pc1 := 75) (E_aln d_PL_drawn_74 rfl) d_PL_drawn_75) (E_il d_PL_drawn_78) d_PL_drawn_80) d_PL_drawn_81 rfl) (S_Inc d_PL_drawn_84 rfl))
    (S_Inc d_PL_drawn_87 rfl) d_PL_drawn_90 rfl)))))
    (S_Inc d_PL_drawn_93 rfl) d_PL_drawn_96 rfl)))
    (S_ri hrt (pc1 := 100) (E_iln d_PL_drawn_99 rfl) d_PL_drawn_100)))))
theorem d_Slots_fill_0 : decode prog_8_method_3_code 0 = .ok (.aload_n 2, 1) := by decide +kernel
theorem d_Slots_fill_1 : decode prog_8_method_3_code 1 = .ok (.iconst 0, 1) := by decide +kernel
theorem d_Slots_fill_2 : decode prog_8_method_3_code 2 = .ok (.aload_n 0, 1) := by decide +kernel
theorem d_Slots_fill_3 : decode prog_8_method_3_code 3 = .ok (.getfield 17, 3) := by decide +kernel
theorem d_Slots_fill_6 : decode prog_8_method_3_code 6 = .ok (.iload_n 1, 1) := by decide +kernel
theorem d_Slots_fill_7 : decode prog_8_method_3_code 7 = .ok (.aaload, 1) := by decide +kernel
theorem d_Slots_fill_8 : decode prog_8_method_3_code 8 = .ok (.iconst 0, 1) := by decide +kernel
theorem d_Slots_fill_9 : decode prog_8_method_3_code 9 = .ok (.bipush 19, 2) := by decide +kernel
theorem d_Slots_fill_11 : decode prog_8_method_3_code 11 = .ok (.invokestatic 20, 3) := by decide +kernel
theorem d_Slots_fill_14 : decode prog_8_method_3_code 14 = .ok (.aload_n 0, 1) := by decide +kernel
theorem d_Slots_fill_15 : decode prog_8_method_3_code 15 = .ok (.getfield 9, 3) := by decide +kernel
theorem d_Slots_fill_18 : decode prog_8_method_3_code 18 = .ok (.iload_n 1, 1) := by decide +kernel
theorem d_Slots_fill_19 : decode prog_8_method_3_code 19 = .ok (.iconst 1, 1) := by decide +kernel
theorem d_Slots_fill_20 : decode prog_8_method_3_code 20 = .ok (.bastore, 1) := by decide +kernel
theorem d_Slots_fill_21 : decode prog_8_method_3_code 21 = .ok (.return_, 1) := by decide +kernel
def B_Slots_fill (_ : Nat × Nat) : PS :=
  (sSq (sCp (eR 2) (eV (0 : Int32)) (eAR (eFR 6 1 (eR 0)) (eI 1)) (eV (0 : Int32)) (eV (19 : Int32)))
    (sSq (sAZ (eFR 6 0 (eR 0)) (eI 1) (eV (1 : Int32)))
    sRv))
def X_Slots_fill : PM := fun vs h Q => (lx vs).length ≤ 3 ∧ B_Slots_fill (h.length + 0, hsz h + 0) (fun _ _ => False) (fun _ _ => False) (fun _ _ => False) Q (lini 3 vs) h
theorem v_Slots_fill (l : Launch) : Ctr l y_Slots_fill prog_8_method_3_code 3 none rm_Slots_fill X_Slots_fill := by
  refine Ctr_of (own := "PackLanes$Slots") (B := B_Slots_fill) (KR := fun _ Q => Q) (by decide) rfl (fun _ _ _ z => z) (fun _ _ _ _ z => ⟨Or.inl ⟨rfl, rfl⟩, z⟩) (Or.inl rfl) (fun κ hl ho hR hrt hn0 => ?_)
  subst hl
  unfold B_Slots_fill
  exact (S_sq (pc1 := 14) (S_cp w_ac_Slots_20 w_acn w_acs w_aci ho (rk1 hR rfl) (pc1 := 1) (pc2 := 2) (pc3 := 8) (pc4 := 9) (pS := 11) (E_aln d_Slots_fill_0 rfl) (E_ic d_Slots_fill_1 rfl) (E_aR (pc1 := 6) (pc2 := 7) (E_fR f_Slots_17 ho (pc1 := 3) (E_aln d_Slots_fill_2 rfl) d_Slots_fill_3) (E_iln d_Slots_fill_6 rfl) d_Slots_fill_7) (E_ic d_Slots_fill_8 rfl) (E_bi d_Slots_fill_9 rfl) d_Slots_fill_11)
    (S_sq (pc1 := 21) (S_AZ (pc1 := 18) (pc2 := 19) (pc3 := 20) (E_fR f_Slots_9 ho (pc1 := 15) (E_aln d_Slots_fill_14 rfl) d_Slots_fill_15) (E_iln d_Slots_fill_18 rfl) (E_ic d_Slots_fill_19 rfl) d_Slots_fill_20)
    (S_rv hrt d_Slots_fill_21)))
theorem d_PL_keep_0 : decode prog_1_method_22_code 0 = .ok (.iload_n 1, 1) := by decide +kernel
theorem d_PL_keep_1 : decode prog_1_method_22_code 1 = .ok (.ifCond .lt 8, 3) := by decide +kernel
theorem d_PL_keep_4 : decode prog_1_method_22_code 4 = .ok (.iload_n 1, 1) := by decide +kernel
theorem d_PL_keep_5 : decode prog_1_method_22_code 5 = .ok (.iconst 2, 1) := by decide +kernel
theorem d_PL_keep_6 : decode prog_1_method_22_code 6 = .ok (.if_icmp .lt 5, 3) := by decide +kernel
theorem d_PL_keep_9 : decode prog_1_method_22_code 9 = .ok (.iconst (-1), 1) := by decide +kernel
theorem d_PL_keep_10 : decode prog_1_method_22_code 10 = .ok (.ireturn, 1) := by decide +kernel
theorem d_PL_keep_11 : decode prog_1_method_22_code 11 = .ok (.aload_n 0, 1) := by decide +kernel
theorem d_PL_keep_12 : decode prog_1_method_22_code 12 = .ok (.getfield 49, 3) := by decide +kernel
theorem d_PL_keep_15 : decode prog_1_method_22_code 15 = .ok (.iload_n 1, 1) := by decide +kernel
theorem d_PL_keep_16 : decode prog_1_method_22_code 16 = .ok (.aload_n 0, 1) := by decide +kernel
theorem d_PL_keep_17 : decode prog_1_method_22_code 17 = .ok (.getfield 26, 3) := by decide +kernel
theorem d_PL_keep_20 : decode prog_1_method_22_code 20 = .ok (.invokevirtual 252, 3) := by decide +kernel
theorem d_PL_keep_23 : decode prog_1_method_22_code 23 = .ok (.aload_n 0, 1) := by decide +kernel
theorem d_PL_keep_24 : decode prog_1_method_22_code 24 = .ok (.getfield 26, 3) := by decide +kernel
theorem d_PL_keep_27 : decode prog_1_method_22_code 27 = .ok (.bipush 18, 2) := by decide +kernel
theorem d_PL_keep_29 : decode prog_1_method_22_code 29 = .ok (.iaload, 1) := by decide +kernel
theorem d_PL_keep_30 : decode prog_1_method_22_code 30 = .ok (.ireturn, 1) := by decide +kernel
def B_PL_keep (_ : Nat × Nat) : PS :=
  (sSq (sIf (cO (e1 (fun x : Int32 => decide (x < 0)) (eI 1)) (e2 (fun x y : Int32 => decide (y ≤ x)) (eI 1) (eV (2 : Int32)))) (sRt .int (eV (-1 : Int32))) sSk)
    (sSq (sX (xV 6 2 X_Slots_fill (eFR 9 8 (eR 0)) (aC .int (eI 1) (aC .ref (eFR 9 3 (eR 0)) aN))))
    (sRt .int (eAI (eFR 9 3 (eR 0)) (eV (18 : Int32))))))
def X_PL_keep : PM := fun vs h Q => (lx vs).length ≤ 2 ∧ B_PL_keep (h.length + 0, hsz h + 0) (fun _ _ => False) (fun _ _ => False) (fun _ _ => False) Q (lini 2 vs) h
theorem v_PL_keep (l : Launch) : Ctr l y_PL_keep prog_1_method_22_code 2 (some .int) rm_PL_keep X_PL_keep := by
  refine Ctr_of (own := "PackLanes") (B := B_PL_keep) (KR := fun _ Q => Q) (by decide) rfl (fun _ _ _ z => z) (fun _ _ _ _ z => ⟨Or.inl ⟨rfl, rfl⟩, z⟩) (Or.inr (Or.inl rfl)) (fun κ hl ho hR hrt hn0 => ?_)
  subst hl
  unfold B_PL_keep
  exact (S_sq (pc1 := 11) (S_if1 (pT := 9) (pF := 11) (C_or (pc1 := 4) (T1_lt (pT := 9) (pc2 := 1) (E_iln d_PL_keep_0 rfl) d_PL_keep_1 rfl) (J2_ge (pF := 11) (pc1 := 5) (pc2 := 6) (E_iln d_PL_keep_4 rfl) (E_ic d_PL_keep_5 rfl) d_PL_keep_6 rfl)) (S_ri hrt (pc1 := 10) (E_ic d_PL_keep_9 rfl) d_PL_keep_10))
    (S_sq (pc1 := 23) (S_X (O_V k_PL_252 (v_Slots_fill _) ⟨rfl, rfl⟩ ho (rk hR rfl) (by decide) (T := KT6) (N := 2) rfl (by decide) (pc1 := 15) (pc2 := 20) (E_fR f_PL_49 ho (pc1 := 12) (E_aln d_PL_keep_11 rfl) d_PL_keep_12) (A_c catI (pc1 := 16) (E_iln d_PL_keep_15 rfl) (A_c catR (pc1 := 20) (E_fR f_PL_26 ho (pc1 := 17) (E_aln d_PL_keep_16 rfl) d_PL_keep_17) A_n)) d_PL_keep_20))
    (S_ri hrt (pc1 := 30) (E_aI (pc1 := 27) (pc2 := 29) (E_fR f_PL_26 ho (pc1 := 24) (E_aln d_PL_keep_23 rfl) d_PL_keep_24) (E_bi d_PL_keep_27 rfl) d_PL_keep_29) d_PL_keep_30)))
theorem d_Slots_restore_0 : decode prog_8_method_4_code 0 = .ok (.aload_n 0, 1) := by decide +kernel
theorem d_Slots_restore_1 : decode prog_8_method_4_code 1 = .ok (.getfield 17, 3) := by decide +kernel
theorem d_Slots_restore_4 : decode prog_8_method_4_code 4 = .ok (.iload_n 1, 1) := by decide +kernel
theorem d_Slots_restore_5 : decode prog_8_method_4_code 5 = .ok (.aaload, 1) := by decide +kernel
theorem d_Slots_restore_6 : decode prog_8_method_4_code 6 = .ok (.iconst 0, 1) := by decide +kernel
theorem d_Slots_restore_7 : decode prog_8_method_4_code 7 = .ok (.aload_n 2, 1) := by decide +kernel
theorem d_Slots_restore_8 : decode prog_8_method_4_code 8 = .ok (.iconst 0, 1) := by decide +kernel
theorem d_Slots_restore_9 : decode prog_8_method_4_code 9 = .ok (.bipush 19, 2) := by decide +kernel
theorem d_Slots_restore_11 : decode prog_8_method_4_code 11 = .ok (.invokestatic 20, 3) := by decide +kernel
theorem d_Slots_restore_14 : decode prog_8_method_4_code 14 = .ok (.return_, 1) := by decide +kernel
def B_Slots_restore (_ : Nat × Nat) : PS :=
  (sSq (sCp (eAR (eFR 6 1 (eR 0)) (eI 1)) (eV (0 : Int32)) (eR 2) (eV (0 : Int32)) (eV (19 : Int32)))
    sRv)
def X_Slots_restore : PM := fun vs h Q => (lx vs).length ≤ 3 ∧ B_Slots_restore (h.length + 0, hsz h + 0) (fun _ _ => False) (fun _ _ => False) (fun _ _ => False) Q (lini 3 vs) h
theorem v_Slots_restore (l : Launch) : Ctr l y_Slots_restore prog_8_method_4_code 3 none rm_Slots_restore X_Slots_restore := by
  refine Ctr_of (own := "PackLanes$Slots") (B := B_Slots_restore) (KR := fun _ Q => Q) (by decide) rfl (fun _ _ _ z => z) (fun _ _ _ _ z => ⟨Or.inl ⟨rfl, rfl⟩, z⟩) (Or.inl rfl) (fun κ hl ho hR hrt hn0 => ?_)
  subst hl
  unfold B_Slots_restore
  exact (S_sq (pc1 := 14) (S_cp w_ac_Slots_20 w_acn w_acs w_aci ho (rk1 hR rfl) (pc1 := 6) (pc2 := 7) (pc3 := 8) (pc4 := 9) (pS := 11) (E_aR (pc1 := 4) (pc2 := 5) (E_fR f_Slots_17 ho (pc1 := 1) (E_aln d_Slots_restore_0 rfl) d_Slots_restore_1) (E_iln d_Slots_restore_4 rfl) d_Slots_restore_5) (E_ic d_Slots_restore_6 rfl) (E_aln d_Slots_restore_7 rfl) (E_ic d_Slots_restore_8 rfl) (E_bi d_Slots_restore_9 rfl) d_Slots_restore_11)
    (S_rv hrt d_Slots_restore_14))
theorem d_PL_again_0 : decode prog_1_method_23_code 0 = .ok (.iload_n 1, 1) := by decide +kernel
theorem d_PL_again_1 : decode prog_1_method_23_code 1 = .ok (.ifCond .lt 8, 3) := by decide +kernel
theorem d_PL_again_4 : decode prog_1_method_23_code 4 = .ok (.iload_n 1, 1) := by decide +kernel
theorem d_PL_again_5 : decode prog_1_method_23_code 5 = .ok (.iconst 2, 1) := by decide +kernel
theorem d_PL_again_6 : decode prog_1_method_23_code 6 = .ok (.if_icmp .lt 5, 3) := by decide +kernel
theorem d_PL_again_9 : decode prog_1_method_23_code 9 = .ok (.iconst (-1), 1) := by decide +kernel
theorem d_PL_again_10 : decode prog_1_method_23_code 10 = .ok (.ireturn, 1) := by decide +kernel
theorem d_PL_again_11 : decode prog_1_method_23_code 11 = .ok (.aload_n 0, 1) := by decide +kernel
theorem d_PL_again_12 : decode prog_1_method_23_code 12 = .ok (.getfield 49, 3) := by decide +kernel
theorem d_PL_again_15 : decode prog_1_method_23_code 15 = .ok (.getfield 256, 3) := by decide +kernel
theorem d_PL_again_18 : decode prog_1_method_23_code 18 = .ok (.iload_n 1, 1) := by decide +kernel
theorem d_PL_again_19 : decode prog_1_method_23_code 19 = .ok (.baload, 1) := by decide +kernel
theorem d_PL_again_20 : decode prog_1_method_23_code 20 = .ok (.ifCond .ne 6, 3) := by decide +kernel
theorem d_PL_again_23 : decode prog_1_method_23_code 23 = .ok (.bipush (-3), 2) := by decide +kernel
theorem d_PL_again_25 : decode prog_1_method_23_code 25 = .ok (.ireturn, 1) := by decide +kernel
theorem d_PL_again_26 : decode prog_1_method_23_code 26 = .ok (.aload_n 0, 1) := by decide +kernel
theorem d_PL_again_27 : decode prog_1_method_23_code 27 = .ok (.getfield 49, 3) := by decide +kernel
theorem d_PL_again_30 : decode prog_1_method_23_code 30 = .ok (.iload_n 1, 1) := by decide +kernel
theorem d_PL_again_31 : decode prog_1_method_23_code 31 = .ok (.aload_n 0, 1) := by decide +kernel
theorem d_PL_again_32 : decode prog_1_method_23_code 32 = .ok (.getfield 26, 3) := by decide +kernel
theorem d_PL_again_35 : decode prog_1_method_23_code 35 = .ok (.invokevirtual 260, 3) := by decide +kernel
theorem d_PL_again_38 : decode prog_1_method_23_code 38 = .ok (.aload_n 0, 1) := by decide +kernel
theorem d_PL_again_39 : decode prog_1_method_23_code 39 = .ok (.getfield 42, 3) := by decide +kernel
theorem d_PL_again_42 : decode prog_1_method_23_code 42 = .ok (.invokevirtual 263, 3) := by decide +kernel
theorem d_PL_again_45 : decode prog_1_method_23_code 45 = .ok (.aload_n 0, 1) := by decide +kernel
theorem d_PL_again_46 : decode prog_1_method_23_code 46 = .ok (.getfield 65, 3) := by decide +kernel
theorem d_PL_again_49 : decode prog_1_method_23_code 49 = .ok (.aload_n 0, 1) := by decide +kernel
theorem d_PL_again_50 : decode prog_1_method_23_code 50 = .ok (.getfield 26, 3) := by decide +kernel
theorem d_PL_again_53 : decode prog_1_method_23_code 53 = .ok (.iconst 0, 1) := by decide +kernel
theorem d_PL_again_54 : decode prog_1_method_23_code 54 = .ok (.invokevirtual 90, 3) := by decide +kernel
theorem d_PL_again_57 : decode prog_1_method_23_code 57 = .ok (.aload_n 0, 1) := by decide +kernel
theorem d_PL_again_58 : decode prog_1_method_23_code 58 = .ok (.getfield 26, 3) := by decide +kernel
theorem d_PL_again_61 : decode prog_1_method_23_code 61 = .ok (.bipush 18, 2) := by decide +kernel
theorem d_PL_again_63 : decode prog_1_method_23_code 63 = .ok (.iaload, 1) := by decide +kernel
theorem d_PL_again_64 : decode prog_1_method_23_code 64 = .ok (.ireturn, 1) := by decide +kernel
def B_PL_again (_ : Nat × Nat) : PS :=
  (sSq (sIf (cO (e1 (fun x : Int32 => decide (x < 0)) (eI 1)) (e2 (fun x y : Int32 => decide (y ≤ x)) (eI 1) (eV (2 : Int32)))) (sRt .int (eV (-1 : Int32))) sSk)
    (sSq (sIf (cN (e1 (fun x : Int32 => decide (¬ x = 0)) (eAZ (eFR 6 0 (eFR 9 8 (eR 0))) (eI 1)))) (sRt .int (eV (-3 : Int32))) sSk)
    (sSq (sX (xV 6 2 X_Slots_restore (eFR 9 8 (eR 0)) (aC .int (eI 1) (aC .ref (eFR 9 3 (eR 0)) aN))))
    (sSq (sX (xV 0 0 X_Acts_clear (eFR 9 7 (eR 0)) aN))
    (sSq (sX (xV 4 2 X_Pack_choosePacks (eFR 9 10 (eR 0)) (aC .ref (eFR 9 3 (eR 0)) (aC .int (eV (0 : Int32)) aN))))
    (sRt .int (eAI (eFR 9 3 (eR 0)) (eV (18 : Int32)))))))))
def X_PL_again : PM := fun vs h Q => (lx vs).length ≤ 2 ∧ B_PL_again (h.length + 0, hsz h + 0) (fun _ _ => False) (fun _ _ => False) (fun _ _ => False) Q (lini 2 vs) h
theorem v_PL_again (l : Launch) : Ctr l y_PL_again prog_1_method_23_code 2 (some .int) rm_PL_again X_PL_again := by
  refine Ctr_of (own := "PackLanes") (B := B_PL_again) (KR := fun _ Q => Q) (by decide) rfl (fun _ _ _ z => z) (fun _ _ _ _ z => ⟨Or.inl ⟨rfl, rfl⟩, z⟩) (Or.inr (Or.inl rfl)) (fun κ hl ho hR hrt hn0 => ?_)
  subst hl
  unfold B_PL_again
  exact (S_sq (pc1 := 11) (S_if1 (pT := 9) (pF := 11) (C_or (pc1 := 4) (T1_lt (pT := 9) (pc2 := 1) (E_iln d_PL_again_0 rfl) d_PL_again_1 rfl) (J2_ge (pF := 11) (pc1 := 5) (pc2 := 6) (E_iln d_PL_again_4 rfl) (E_ic d_PL_again_5 rfl) d_PL_again_6 rfl)) (S_ri hrt (pc1 := 10) (E_ic d_PL_again_9 rfl) d_PL_again_10))
    (S_sq (pc1 := 26) (S_if1 (pT := 23) (pF := 26) (C_not (T1_ne (pT := 26) (pc2 := 20) (E_aZ (pc1 := 18) (pc2 := 19) (E_fR f_PL_256 ho (pc1 := 15) (E_fR f_PL_49 ho (pc1 := 12) (E_aln d_PL_again_11 rfl) d_PL_again_12) d_PL_again_15) (E_iln d_PL_again_18 rfl) d_PL_again_19) d_PL_again_20 rfl)) (S_ri hrt (pc1 := 25) (E_bi d_PL_again_23 rfl) d_PL_again_25))
    (S_sq (pc1 := 38) (S_X (O_V k_PL_260 (v_Slots_restore _) ⟨rfl, rfl⟩ ho (rk hR rfl) (by decide) (T := KT6) (N := 2) rfl (by decide) (pc1 := 30) (pc2 := 35) (E_fR f_PL_49 ho (pc1 := 27) (E_aln d_PL_again_26 rfl) d_PL_again_27) (A_c catI (pc1 := 31) (E_iln d_PL_again_30 rfl) (A_c catR (pc1 := 35) (E_fR f_PL_26 ho (pc1 := 32) (E_aln d_PL_again_31 rfl) d_PL_again_32) A_n)) d_PL_again_35))
    (S_sq (pc1 := 45) (S_X (O_V k_PL_263 (v_Acts_clear _) ⟨rfl, rfl⟩ ho (rk hR rfl) (by decide) (T := KT0) (N := 3) rfl (by decide) (pc1 := 42) (pc2 := 42) (E_fR f_PL_42 ho (pc1 := 39) (E_aln d_PL_again_38 rfl) d_PL_again_39) A_n d_PL_again_42))
    (S_sq (pc1 := 57) (S_X (O_V k_PL_90 (v_Pack_choosePacks _) ⟨rfl, rfl⟩ ho (rk hR rfl) (by decide) (T := KT4) (N := 14) rfl (by decide) (pc1 := 49) (pc2 := 54) (E_fR f_PL_65 ho (pc1 := 46) (E_aln d_PL_again_45 rfl) d_PL_again_46) (A_c catR (pc1 := 53) (E_fR f_PL_26 ho (pc1 := 50) (E_aln d_PL_again_49 rfl) d_PL_again_50) (A_c catI (pc1 := 54) (E_ic d_PL_again_53 rfl) A_n)) d_PL_again_54))
    (S_ri hrt (pc1 := 64) (E_aI (pc1 := 61) (pc2 := 63) (E_fR f_PL_26 ho (pc1 := 58) (E_aln d_PL_again_57 rfl) d_PL_again_58) (E_bi d_PL_again_61 rfl) d_PL_again_63) d_PL_again_64))))))
theorem d_R_first_0 : decode prog_12_method_3_code 0 = .ok (.iconst 0, 1) := by decide +kernel
theorem d_R_first_1 : decode prog_12_method_3_code 1 = .ok (.istore_n 1, 1) := by decide +kernel
theorem d_R_first_2 : decode prog_12_method_3_code 2 = .ok (.iload_n 1, 1) := by decide +kernel
theorem d_R_first_3 : decode prog_12_method_3_code 3 = .ok (.bipush 16, 2) := by decide +kernel
theorem d_R_first_5 : decode prog_12_method_3_code 5 = .ok (.if_icmp .ge 15, 3) := by decide +kernel
theorem d_R_first_8 : decode prog_12_method_3_code 8 = .ok (.aload_n 0, 1) := by decide +kernel
theorem d_R_first_9 : decode prog_12_method_3_code 9 = .ok (.iload_n 1, 1) := by decide +kernel
theorem d_R_first_10 : decode prog_12_method_3_code 10 = .ok (.iload_n 1, 1) := by decide +kernel
theorem d_R_first_11 : decode prog_12_method_3_code 11 = .ok (.iconst 1, 1) := by decide +kernel
theorem d_R_first_12 : decode prog_12_method_3_code 12 = .ok (.iadd, 1) := by decide +kernel
theorem d_R_first_13 : decode prog_12_method_3_code 13 = .ok (.iastore, 1) := by decide +kernel
theorem d_R_first_14 : decode prog_12_method_3_code 14 = .ok (.iinc 1 1, 3) := by decide +kernel
theorem d_R_first_17 : decode prog_12_method_3_code 17 = .ok (.goto (-15), 3) := by decide +kernel
theorem d_R_first_20 : decode prog_12_method_3_code 20 = .ok (.return_, 1) := by decide +kernel
def B_R_first (_ : Nat × Nat) : PS :=
  (sSq (sCut 1 (sSq (sI 1 (eV (0 : Int32)))
    (sLp 2 (e2 (fun x y : Int32 => decide (x < y)) (eI 1) (eV (16 : Int32)))
    (sAI (eR 0) (eI 1) (e2 (fun x y : Int32 => x + y) (eI 1) (eV (1 : Int32))))
    (sInc 1 (1)))))
    sRv)
def X_R_first : PM := fun vs h Q => (lx vs).length ≤ 2 ∧ B_R_first (h.length + 0, hsz h + 0) (fun _ _ => False) (fun _ _ => False) (fun _ _ => False) Q (lini 2 vs) h
theorem v_R_first (l : Launch) : Ctr l y_R_first prog_12_method_3_code 2 none rm_R_first X_R_first := by
  refine Ctr_of (own := "PackLanesModel") (B := B_R_first) (KR := fun _ Q => Q) (by decide) rfl (fun _ _ _ z => z) (fun _ _ _ _ z => ⟨Or.inl ⟨rfl, rfl⟩, z⟩) (Or.inl rfl) (fun κ hl ho hR hrt hn0 => ?_)
  subst hl
  unfold B_R_first
  exact (S_sq (pc1 := 20) (S_cut (S_sq (pc1 := 2) (S_In (pc1 := 1) (E_ic d_R_first_0 rfl) d_R_first_1 rfl)
    (S_lp (pT := 8) (pF := 20) (pS := 14) (pG := 17) (J2_lt (pF := 20) (pc1 := 3) (pc2 := 5) (E_iln d_R_first_2 rfl) (E_bi d_R_first_3 rfl) d_R_first_5 rfl)
    (S_AI (pc1 := 9) (pc2 := 10) (pc3 := 13) (E_aln d_R_first_8 rfl) (E_iln d_R_first_9 rfl) (E_iadd (pc1 := 11) (pc2 := 12) (E_iln d_R_first_10 rfl) (E_ic d_R_first_11 rfl) d_R_first_12) d_R_first_13)
    (S_Inc d_R_first_14 rfl) d_R_first_17 rfl)))
    (S_rv hrt d_R_first_20))
theorem d_R_init_0 : decode prog_12_method_1_code 0 = .ok (.aload_n 0, 1) := by decide +kernel
theorem d_R_init_1 : decode prog_12_method_1_code 1 = .ok (.invokespecial 1, 3) := by decide +kernel
theorem d_R_init_4 : decode prog_12_method_1_code 4 = .ok (.aload_n 0, 1) := by decide +kernel
theorem d_R_init_5 : decode prog_12_method_1_code 5 = .ok (.bipush 80, 2) := by decide +kernel
theorem d_R_init_7 : decode prog_12_method_1_code 7 = .ok (.newarray .int, 2) := by decide +kernel
theorem d_R_init_9 : decode prog_12_method_1_code 9 = .ok (.putfield 7, 3) := by decide +kernel
theorem d_R_init_12 : decode prog_12_method_1_code 12 = .ok (.aload_n 0, 1) := by decide +kernel
theorem d_R_init_13 : decode prog_12_method_1_code 13 = .ok (.bipush 16, 2) := by decide +kernel
theorem d_R_init_15 : decode prog_12_method_1_code 15 = .ok (.newarray .int, 2) := by decide +kernel
theorem d_R_init_17 : decode prog_12_method_1_code 17 = .ok (.putfield 13, 3) := by decide +kernel
theorem d_R_init_20 : decode prog_12_method_1_code 20 = .ok (.aload_n 0, 1) := by decide +kernel
theorem d_R_init_21 : decode prog_12_method_1_code 21 = .ok (.bipush 16, 2) := by decide +kernel
theorem d_R_init_23 : decode prog_12_method_1_code 23 = .ok (.newarray .int, 2) := by decide +kernel
theorem d_R_init_25 : decode prog_12_method_1_code 25 = .ok (.putfield 16, 3) := by decide +kernel
theorem d_R_init_28 : decode prog_12_method_1_code 28 = .ok (.aload_n 0, 1) := by decide +kernel
theorem d_R_init_29 : decode prog_12_method_1_code 29 = .ok (.bipush 16, 2) := by decide +kernel
theorem d_R_init_31 : decode prog_12_method_1_code 31 = .ok (.newarray .int, 2) := by decide +kernel
theorem d_R_init_33 : decode prog_12_method_1_code 33 = .ok (.putfield 19, 3) := by decide +kernel
theorem d_R_init_36 : decode prog_12_method_1_code 36 = .ok (.aload_n 0, 1) := by decide +kernel
theorem d_R_init_37 : decode prog_12_method_1_code 37 = .ok (.bipush 16, 2) := by decide +kernel
theorem d_R_init_39 : decode prog_12_method_1_code 39 = .ok (.newarray .int, 2) := by decide +kernel
theorem d_R_init_41 : decode prog_12_method_1_code 41 = .ok (.putfield 22, 3) := by decide +kernel
theorem d_R_init_44 : decode prog_12_method_1_code 44 = .ok (.aload_n 0, 1) := by decide +kernel
theorem d_R_init_45 : decode prog_12_method_1_code 45 = .ok (.bipush 19, 2) := by decide +kernel
theorem d_R_init_47 : decode prog_12_method_1_code 47 = .ok (.newarray .int, 2) := by decide +kernel
theorem d_R_init_49 : decode prog_12_method_1_code 49 = .ok (.putfield 25, 3) := by decide +kernel
theorem d_R_init_52 : decode prog_12_method_1_code 52 = .ok (.aload_n 0, 1) := by decide +kernel
theorem d_R_init_53 : decode prog_12_method_1_code 53 = .ok (.bipush 19, 2) := by decide +kernel
theorem d_R_init_55 : decode prog_12_method_1_code 55 = .ok (.newarray .int, 2) := by decide +kernel
theorem d_R_init_57 : decode prog_12_method_1_code 57 = .ok (.putfield 28, 3) := by decide +kernel
theorem d_R_init_60 : decode prog_12_method_1_code 60 = .ok (.aload_n 0, 1) := by decide +kernel
theorem d_R_init_61 : decode prog_12_method_1_code 61 = .ok (.sipush 266, 3) := by decide +kernel
theorem d_R_init_64 : decode prog_12_method_1_code 64 = .ok (.newarray .int, 2) := by decide +kernel
theorem d_R_init_66 : decode prog_12_method_1_code 66 = .ok (.putfield 31, 3) := by decide +kernel
theorem d_R_init_69 : decode prog_12_method_1_code 69 = .ok (.aload_n 0, 1) := by decide +kernel
theorem d_R_init_70 : decode prog_12_method_1_code 70 = .ok (.bipush 38, 2) := by decide +kernel
theorem d_R_init_72 : decode prog_12_method_1_code 72 = .ok (.newarray .int, 2) := by decide +kernel
theorem d_R_init_74 : decode prog_12_method_1_code 74 = .ok (.putfield 34, 3) := by decide +kernel
theorem d_R_init_77 : decode prog_12_method_1_code 77 = .ok (.aload_n 0, 1) := by decide +kernel
theorem d_R_init_78 : decode prog_12_method_1_code 78 = .ok (.iconst 2, 1) := by decide +kernel
theorem d_R_init_79 : decode prog_12_method_1_code 79 = .ok (.newarray .boolean, 2) := by decide +kernel
theorem d_R_init_81 : decode prog_12_method_1_code 81 = .ok (.putfield 37, 3) := by decide +kernel
theorem d_R_init_84 : decode prog_12_method_1_code 84 = .ok (.aload_n 0, 1) := by decide +kernel
theorem d_R_init_85 : decode prog_12_method_1_code 85 = .ok (.bipush 6, 2) := by decide +kernel
theorem d_R_init_87 : decode prog_12_method_1_code 87 = .ok (.newarray .int, 2) := by decide +kernel
theorem d_R_init_89 : decode prog_12_method_1_code 89 = .ok (.putfield 41, 3) := by decide +kernel
theorem d_R_init_92 : decode prog_12_method_1_code 92 = .ok (.aload_n 0, 1) := by decide +kernel
theorem d_R_init_93 : decode prog_12_method_1_code 93 = .ok (.bipush 6, 2) := by decide +kernel
theorem d_R_init_95 : decode prog_12_method_1_code 95 = .ok (.newarray .int, 2) := by decide +kernel
theorem d_R_init_97 : decode prog_12_method_1_code 97 = .ok (.putfield 44, 3) := by decide +kernel
theorem d_R_init_100 : decode prog_12_method_1_code 100 = .ok (.aload_n 0, 1) := by decide +kernel
theorem d_R_init_101 : decode prog_12_method_1_code 101 = .ok (.bipush 16, 2) := by decide +kernel
theorem d_R_init_103 : decode prog_12_method_1_code 103 = .ok (.newarray .int, 2) := by decide +kernel
theorem d_R_init_105 : decode prog_12_method_1_code 105 = .ok (.putfield 47, 3) := by decide +kernel
theorem d_R_init_108 : decode prog_12_method_1_code 108 = .ok (.aload_n 0, 1) := by decide +kernel
theorem d_R_init_109 : decode prog_12_method_1_code 109 = .ok (.bipush 16, 2) := by decide +kernel
theorem d_R_init_111 : decode prog_12_method_1_code 111 = .ok (.newarray .int, 2) := by decide +kernel
theorem d_R_init_113 : decode prog_12_method_1_code 113 = .ok (.putfield 50, 3) := by decide +kernel
theorem d_R_init_116 : decode prog_12_method_1_code 116 = .ok (.aload_n 0, 1) := by decide +kernel
theorem d_R_init_117 : decode prog_12_method_1_code 117 = .ok (.bipush 16, 2) := by decide +kernel
theorem d_R_init_119 : decode prog_12_method_1_code 119 = .ok (.newarray .int, 2) := by decide +kernel
theorem d_R_init_121 : decode prog_12_method_1_code 121 = .ok (.putfield 53, 3) := by decide +kernel
theorem d_R_init_124 : decode prog_12_method_1_code 124 = .ok (.aload_n 0, 1) := by decide +kernel
theorem d_R_init_125 : decode prog_12_method_1_code 125 = .ok (.bipush 16, 2) := by decide +kernel
theorem d_R_init_127 : decode prog_12_method_1_code 127 = .ok (.newarray .int, 2) := by decide +kernel
theorem d_R_init_129 : decode prog_12_method_1_code 129 = .ok (.putfield 56, 3) := by decide +kernel
theorem d_R_init_132 : decode prog_12_method_1_code 132 = .ok (.aload_n 0, 1) := by decide +kernel
theorem d_R_init_133 : decode prog_12_method_1_code 133 = .ok (.bipush 16, 2) := by decide +kernel
theorem d_R_init_135 : decode prog_12_method_1_code 135 = .ok (.newarray .int, 2) := by decide +kernel
theorem d_R_init_137 : decode prog_12_method_1_code 137 = .ok (.putfield 59, 3) := by decide +kernel
theorem d_R_init_140 : decode prog_12_method_1_code 140 = .ok (.aload_n 0, 1) := by decide +kernel
theorem d_R_init_141 : decode prog_12_method_1_code 141 = .ok (.bipush 16, 2) := by decide +kernel
theorem d_R_init_143 : decode prog_12_method_1_code 143 = .ok (.newarray .int, 2) := by decide +kernel
theorem d_R_init_145 : decode prog_12_method_1_code 145 = .ok (.putfield 62, 3) := by decide +kernel
theorem d_R_init_148 : decode prog_12_method_1_code 148 = .ok (.aload_n 0, 1) := by decide +kernel
theorem d_R_init_149 : decode prog_12_method_1_code 149 = .ok (.bipush 80, 2) := by decide +kernel
theorem d_R_init_151 : decode prog_12_method_1_code 151 = .ok (.newarray .int, 2) := by decide +kernel
theorem d_R_init_153 : decode prog_12_method_1_code 153 = .ok (.putfield 65, 3) := by decide +kernel
theorem d_R_init_156 : decode prog_12_method_1_code 156 = .ok (.aload_n 0, 1) := by decide +kernel
theorem d_R_init_157 : decode prog_12_method_1_code 157 = .ok (.bipush 16, 2) := by decide +kernel
theorem d_R_init_159 : decode prog_12_method_1_code 159 = .ok (.newarray .int, 2) := by decide +kernel
theorem d_R_init_161 : decode prog_12_method_1_code 161 = .ok (.putfield 68, 3) := by decide +kernel
theorem d_R_init_164 : decode prog_12_method_1_code 164 = .ok (.aload_n 0, 1) := by decide +kernel
theorem d_R_init_165 : decode prog_12_method_1_code 165 = .ok (.bipush 16, 2) := by decide +kernel
theorem d_R_init_167 : decode prog_12_method_1_code 167 = .ok (.newarray .int, 2) := by decide +kernel
theorem d_R_init_169 : decode prog_12_method_1_code 169 = .ok (.putfield 71, 3) := by decide +kernel
theorem d_R_init_172 : decode prog_12_method_1_code 172 = .ok (.aload_n 0, 1) := by decide +kernel
theorem d_R_init_173 : decode prog_12_method_1_code 173 = .ok (.bipush 16, 2) := by decide +kernel
theorem d_R_init_175 : decode prog_12_method_1_code 175 = .ok (.newarray .int, 2) := by decide +kernel
theorem d_R_init_177 : decode prog_12_method_1_code 177 = .ok (.putfield 74, 3) := by decide +kernel
theorem d_R_init_180 : decode prog_12_method_1_code 180 = .ok (.aload_n 0, 1) := by decide +kernel
theorem d_R_init_181 : decode prog_12_method_1_code 181 = .ok (.bipush 6, 2) := by decide +kernel
theorem d_R_init_183 : decode prog_12_method_1_code 183 = .ok (.newarray .int, 2) := by decide +kernel
theorem d_R_init_185 : decode prog_12_method_1_code 185 = .ok (.putfield 77, 3) := by decide +kernel
theorem d_R_init_188 : decode prog_12_method_1_code 188 = .ok (.aload_n 0, 1) := by decide +kernel
theorem d_R_init_189 : decode prog_12_method_1_code 189 = .ok (.bipush 64, 2) := by decide +kernel
theorem d_R_init_191 : decode prog_12_method_1_code 191 = .ok (.newarray .int, 2) := by decide +kernel
theorem d_R_init_193 : decode prog_12_method_1_code 193 = .ok (.putfield 80, 3) := by decide +kernel
theorem d_R_init_196 : decode prog_12_method_1_code 196 = .ok (.aload_n 0, 1) := by decide +kernel
theorem d_R_init_197 : decode prog_12_method_1_code 197 = .ok (.bipush 16, 2) := by decide +kernel
theorem d_R_init_199 : decode prog_12_method_1_code 199 = .ok (.newarray .int, 2) := by decide +kernel
theorem d_R_init_201 : decode prog_12_method_1_code 201 = .ok (.putfield 83, 3) := by decide +kernel
theorem d_R_init_204 : decode prog_12_method_1_code 204 = .ok (.aload_n 0, 1) := by decide +kernel
theorem d_R_init_205 : decode prog_12_method_1_code 205 = .ok (.bipush 16, 2) := by decide +kernel
theorem d_R_init_207 : decode prog_12_method_1_code 207 = .ok (.newarray .int, 2) := by decide +kernel
theorem d_R_init_209 : decode prog_12_method_1_code 209 = .ok (.putfield 86, 3) := by decide +kernel
theorem d_R_init_212 : decode prog_12_method_1_code 212 = .ok (.aload_n 0, 1) := by decide +kernel
theorem d_R_init_213 : decode prog_12_method_1_code 213 = .ok (.bipush 16, 2) := by decide +kernel
theorem d_R_init_215 : decode prog_12_method_1_code 215 = .ok (.newarray .int, 2) := by decide +kernel
theorem d_R_init_217 : decode prog_12_method_1_code 217 = .ok (.putfield 89, 3) := by decide +kernel
theorem d_R_init_220 : decode prog_12_method_1_code 220 = .ok (.aload_n 0, 1) := by decide +kernel
theorem d_R_init_221 : decode prog_12_method_1_code 221 = .ok (.bipush 16, 2) := by decide +kernel
theorem d_R_init_223 : decode prog_12_method_1_code 223 = .ok (.newarray .int, 2) := by decide +kernel
theorem d_R_init_225 : decode prog_12_method_1_code 225 = .ok (.putfield 92, 3) := by decide +kernel
theorem d_R_init_228 : decode prog_12_method_1_code 228 = .ok (.aload_n 0, 1) := by decide +kernel
theorem d_R_init_229 : decode prog_12_method_1_code 229 = .ok (.getfield 25, 3) := by decide +kernel
theorem d_R_init_232 : decode prog_12_method_1_code 232 = .ok (.invokestatic 95, 3) := by decide +kernel
theorem d_R_init_235 : decode prog_12_method_1_code 235 = .ok (.aload_n 0, 1) := by decide +kernel
theorem d_R_init_236 : decode prog_12_method_1_code 236 = .ok (.getfield 25, 3) := by decide +kernel
theorem d_R_init_239 : decode prog_12_method_1_code 239 = .ok (.bipush 16, 2) := by decide +kernel
theorem d_R_init_241 : decode prog_12_method_1_code 241 = .ok (.bipush 8, 2) := by decide +kernel
theorem d_R_init_243 : decode prog_12_method_1_code 243 = .ok (.iastore, 1) := by decide +kernel
theorem d_R_init_244 : decode prog_12_method_1_code 244 = .ok (.aload_n 0, 1) := by decide +kernel
theorem d_R_init_245 : decode prog_12_method_1_code 245 = .ok (.getfield 25, 3) := by decide +kernel
theorem d_R_init_248 : decode prog_12_method_1_code 248 = .ok (.bipush 17, 2) := by decide +kernel
theorem d_R_init_250 : decode prog_12_method_1_code 250 = .ok (.iconst 1, 1) := by decide +kernel
theorem d_R_init_251 : decode prog_12_method_1_code 251 = .ok (.iastore, 1) := by decide +kernel
theorem d_R_init_252 : decode prog_12_method_1_code 252 = .ok (.aload_n 0, 1) := by decide +kernel
theorem d_R_init_253 : decode prog_12_method_1_code 253 = .ok (.getfield 25, 3) := by decide +kernel
theorem d_R_init_256 : decode prog_12_method_1_code 256 = .ok (.bipush 18, 2) := by decide +kernel
theorem d_R_init_258 : decode prog_12_method_1_code 258 = .ok (.iconst 2, 1) := by decide +kernel
theorem d_R_init_259 : decode prog_12_method_1_code 259 = .ok (.iastore, 1) := by decide +kernel
theorem d_R_init_260 : decode prog_12_method_1_code 260 = .ok (.return_, 1) := by decide +kernel
def B_R_init (g : Nat × Nat) : PS :=
  (sSq sSO
    (sSq (sF .ref 10 0 (eR 0) (eNA g 20 (eV (80 : Int32))))
    (sSq (sF .ref 10 3 (eR 0) (eNA g 20 (eV (16 : Int32))))
    (sSq (sF .ref 10 4 (eR 0) (eNA g 20 (eV (16 : Int32))))
    (sSq (sF .ref 10 5 (eR 0) (eNA g 20 (eV (16 : Int32))))
    (sSq (sF .ref 10 6 (eR 0) (eNA g 20 (eV (16 : Int32))))
    (sSq (sF .ref 10 7 (eR 0) (eNA g 20 (eV (19 : Int32))))
    (sSq (sF .ref 10 8 (eR 0) (eNA g 20 (eV (19 : Int32))))
    (sSq (sF .ref 10 9 (eR 0) (eNA g 20 (eV (266 : Int32))))
    (sSq (sF .ref 10 12 (eR 0) (eNA g 20 (eV (38 : Int32))))
    (sSq (sF .ref 10 13 (eR 0) (eNA g 21 (eV (2 : Int32))))
    (sSq (sF .ref 10 14 (eR 0) (eNA g 20 (eV (6 : Int32))))
    (sSq (sF .ref 10 15 (eR 0) (eNA g 20 (eV (6 : Int32))))
    (sSq (sF .ref 10 20 (eR 0) (eNA g 20 (eV (16 : Int32))))
    (sSq (sF .ref 10 21 (eR 0) (eNA g 20 (eV (16 : Int32))))
    (sSq (sF .ref 10 22 (eR 0) (eNA g 20 (eV (16 : Int32))))
    (sSq (sF .ref 10 23 (eR 0) (eNA g 20 (eV (16 : Int32))))
    (sSq (sF .ref 10 27 (eR 0) (eNA g 20 (eV (16 : Int32))))
    (sSq (sF .ref 10 28 (eR 0) (eNA g 20 (eV (16 : Int32))))
    (sSq (sF .ref 10 30 (eR 0) (eNA g 20 (eV (80 : Int32))))
    (sSq (sF .ref 10 34 (eR 0) (eNA g 20 (eV (16 : Int32))))
    (sSq (sF .ref 10 35 (eR 0) (eNA g 20 (eV (16 : Int32))))
    (sSq (sF .ref 10 36 (eR 0) (eNA g 20 (eV (16 : Int32))))
    (sSq (sF .ref 10 38 (eR 0) (eNA g 20 (eV (6 : Int32))))
    (sSq (sF .ref 10 39 (eR 0) (eNA g 20 (eV (64 : Int32))))
    (sSq (sF .ref 10 44 (eR 0) (eNA g 20 (eV (16 : Int32))))
    (sSq (sF .ref 10 45 (eR 0) (eNA g 20 (eV (16 : Int32))))
    (sSq (sF .ref 10 46 (eR 0) (eNA g 20 (eV (16 : Int32))))
    (sSq (sF .ref 10 47 (eR 0) (eNA g 20 (eV (16 : Int32))))
    (sSq (sX (xS 1 X_R_first (aC .ref (eFR 10 7 (eR 0)) aN)))
    (sSq (sAI (eFR 10 7 (eR 0)) (eV (16 : Int32)) (eV (8 : Int32)))
    (sSq (sAI (eFR 10 7 (eR 0)) (eV (17 : Int32)) (eV (1 : Int32)))
    (sSq (sAI (eFR 10 7 (eR 0)) (eV (18 : Int32)) (eV (2 : Int32)))
    sRv)))))))))))))))))))))))))))))))))
def X_R_init : PM := fun vs h Q => (lx vs).length ≤ 1 ∧ B_R_init (h.length + 28, hsz h + 858) (fun _ _ => False) (fun _ _ => False) (fun _ _ => False) (fun o h' => (h'.length = h.length + 28 ∧ hsz h' = hsz h + 858) ∧ Q o h') (lini 1 vs) h
theorem v_R_init (l : Launch) : Ctr l y_R_init prog_12_method_1_code 1 none rm_R_init X_R_init := by
  refine Ctr_of (own := "PackLanesModel") (B := B_R_init) (KR := fun h Q o h' => (h'.length = h.length + 28 ∧ hsz h' = hsz h + 858) ∧ Q o h') (by decide) rfl (fun _ _ _ z => z) (fun _ _ _ _ z => ⟨Or.inr z.1, z.2⟩) (Or.inl rfl) (fun κ hl ho hR hrt hn0 => ?_)
  subst hl
  have hn : KO prog_12_method_1_code κ → (k_me κ).name = "<init>" := fun _ => hn0
  unfold B_R_init
  exact (S_sq (pc1 := 4) (S_so w_o_R_1 w_oi w_oc ho (rk2 hR rfl) d_R_init_0 d_R_init_1)
    (S_sq (pc1 := 12) (S_FR f_R_7 ho hn (fun _ => ⟨rfl, rfl⟩) (pc1 := 5) (pc2 := 9) (E_aln d_R_init_4 rfl) (E_NI rfl w_arrI (pc1 := 7) (E_bi d_R_init_5 rfl) d_R_init_7) d_R_init_9)
    (S_sq (pc1 := 20) (S_FR f_R_13 ho hn (fun _ => ⟨rfl, rfl⟩) (pc1 := 13) (pc2 := 17) (E_aln d_R_init_12 rfl) (E_NI rfl w_arrI (pc1 := 15) (E_bi d_R_init_13 rfl) d_R_init_15) d_R_init_17)
    (S_sq (pc1 := 28) (S_FR f_R_16 ho hn (fun _ => ⟨rfl, rfl⟩) (pc1 := 21) (pc2 := 25) (E_aln d_R_init_20 rfl) (E_NI rfl w_arrI (pc1 := 23) (E_bi d_R_init_21 rfl) d_R_init_23) d_R_init_25)
    (S_sq (pc1 := 36) (S_FR f_R_19 ho hn (fun _ => ⟨rfl, rfl⟩) (pc1 := 29) (pc2 := 33) (E_aln d_R_init_28 rfl) (E_NI rfl w_arrI (pc1 := 31) (E_bi d_R_init_29 rfl) d_R_init_31) d_R_init_33)
    (S_sq (pc1 := 44) (S_FR f_R_22 ho hn (fun _ => ⟨rfl, rfl⟩) (pc1 := 37) (pc2 := 41) (E_aln d_R_init_36 rfl) (E_NI rfl w_arrI (pc1 := 39) (E_bi d_R_init_37 rfl) d_R_init_39) d_R_init_41)
    (S_sq (pc1 := 52) (S_FR f_R_25 ho hn (fun _ => ⟨rfl, rfl⟩) (pc1 := 45) (pc2 := 49) (E_aln d_R_init_44 rfl) (E_NI rfl w_arrI (pc1 := 47) (E_bi d_R_init_45 rfl) d_R_init_47) d_R_init_49)
    (S_sq (pc1 := 60) (S_FR f_R_28 ho hn (fun _ => ⟨rfl, rfl⟩) (pc1 := 53) (pc2 := 57) (E_aln d_R_init_52 rfl) (E_NI rfl w_arrI (pc1 := 55) (E_bi d_R_init_53 rfl) d_R_init_55) d_R_init_57)
    (S_sq (pc1 := 69) (S_FR f_R_31 ho hn (fun _ => ⟨rfl, rfl⟩) (pc1 := 61) (pc2 := 66) (E_aln d_R_init_60 rfl) (E_NI rfl w_arrI (pc1 := 64) (E_si d_R_init_61 rfl) d_R_init_64) d_R_init_66)
    (S_sq (pc1 := 77) (S_FR f_R_34 ho hn (fun _ => ⟨rfl, rfl⟩) (pc1 := 70) (pc2 := 74) (E_aln d_R_init_69 rfl) (E_NI rfl w_arrI (pc1 := 72) (E_bi d_R_init_70 rfl) d_R_init_72) d_R_init_74)
    (S_sq (pc1 := 84) (S_FR f_R_37 ho hn (fun _ => ⟨rfl, rfl⟩) (pc1 := 78) (pc2 := 81) (E_aln d_R_init_77 rfl) (E_NZ rfl w_arrZ (pc1 := 79) (E_ic d_R_init_78 rfl) d_R_init_79) d_R_init_81)
    (S_sq (pc1 := 92) (S_FR f_R_41 ho hn (fun _ => ⟨rfl, rfl⟩) (pc1 := 85) (pc2 := 89) (E_aln d_R_init_84 rfl) (E_NI rfl w_arrI (pc1 := 87) (E_bi d_R_init_85 rfl) d_R_init_87) d_R_init_89)
    (S_sq (pc1 := 100) (S_FR f_R_44 ho hn (fun _ => ⟨rfl, rfl⟩) (pc1 := 93) (pc2 := 97) (E_aln d_R_init_92 rfl) (E_NI rfl w_arrI (pc1 := 95) (E_bi d_R_init_93 rfl) d_R_init_95) d_R_init_97)
    (S_sq (pc1 := 108) (S_FR f_R_47 ho hn (fun _ => ⟨rfl, rfl⟩) (pc1 := 101) (pc2 := 105) (E_aln d_R_init_100 rfl) (E_NI rfl w_arrI (pc1 := 103) (E_bi d_R_init_101 rfl) d_R_init_103) d_R_init_105)
    (S_sq (pc1 := 116) (S_FR f_R_50 ho hn (fun _ => ⟨rfl, rfl⟩) (pc1 := 109) (pc2 := 113) (E_aln d_R_init_108 rfl) (E_NI rfl w_arrI (pc1 := 111) (E_bi d_R_init_109 rfl) d_R_init_111) d_R_init_113)
    (S_sq (pc1 := 124) (S_FR f_R_53 ho hn (fun _ => ⟨rfl, rfl⟩) (pc1 := 117) (pc2 := 121) (E_aln d_R_init_116 rfl) (E_NI rfl w_arrI (pc1 := 119) (E_bi d_R_init_117 rfl) d_R_init_119) d_R_init_121)
    (S_sq (pc1 := 132) (S_FR f_R_56 ho hn (fun _ => ⟨rfl, rfl⟩) (pc1 := 125) (pc2 := 129) (E_aln d_R_init_124 rfl) (E_NI rfl w_arrI (pc1 := 127) (E_bi d_R_init_125 rfl) d_R_init_127) d_R_init_129)
    (S_sq (pc1 := 140) (S_FR f_R_59 ho hn (fun _ => ⟨rfl, rfl⟩) (pc1 := 133) (pc2 := 137) (E_aln d_R_init_132 rfl) (E_NI rfl w_arrI (pc1 := 135) (E_bi d_R_init_133 rfl) d_R_init_135) d_R_init_137)
    (S_sq (pc1 := 148) (S_FR f_R_62 ho hn (fun _ => ⟨rfl, rfl⟩) (pc1 := 141) (pc2 := 145) (E_aln d_R_init_140 rfl) (E_NI rfl w_arrI (pc1 := 143) (E_bi d_R_init_141 rfl) d_R_init_143) d_R_init_145)
    (S_sq (pc1 := 156) (S_FR f_R_65 ho hn (fun _ => ⟨rfl, rfl⟩) (pc1 := 149) (pc2 := 153) (E_aln d_R_init_148 rfl) (E_NI rfl w_arrI (pc1 := 151) (E_bi d_R_init_149 rfl) d_R_init_151) d_R_init_153)
    (S_sq (pc1 := 164) (S_FR f_R_68 ho hn (fun _ => ⟨rfl, rfl⟩) (pc1 := 157) (pc2 := 161) (E_aln d_R_init_156 rfl) (E_NI rfl w_arrI (pc1 := 159) (E_bi d_R_init_157 rfl) d_R_init_159) d_R_init_161)
    (S_sq (pc1 := 172) (S_FR f_R_71 ho hn (fun _ => ⟨rfl, rfl⟩) (pc1 := 165) (pc2 := 169) (E_aln d_R_init_164 rfl) (E_NI rfl w_arrI (pc1 := 167) (E_bi d_R_init_165 rfl) d_R_init_167) d_R_init_169)
    (S_sq (pc1 := 180) (S_FR f_R_74 ho hn (fun _ => ⟨rfl, rfl⟩) (pc1 := 173) (pc2 := 177) (E_aln d_R_init_172 rfl) (E_NI rfl w_arrI (pc1 := 175) (E_bi d_R_init_173 rfl) d_R_init_175) d_R_init_177)
    (S_sq (pc1 := 188) (S_FR f_R_77 ho hn (fun _ => ⟨rfl, rfl⟩) (pc1 := 181) (pc2 := 185) (E_aln d_R_init_180 rfl) (E_NI rfl w_arrI (pc1 := 183) (E_bi d_R_init_181 rfl) d_R_init_183) d_R_init_185)
    (S_sq (pc1 := 196) (S_FR f_R_80 ho hn (fun _ => ⟨rfl, rfl⟩) (pc1 := 189) (pc2 := 193) (E_aln d_R_init_188 rfl) (E_NI rfl w_arrI (pc1 := 191) (E_bi d_R_init_189 rfl) d_R_init_191) d_R_init_193)
    (S_sq (pc1 := 204) (S_FR f_R_83 ho hn (fun _ => ⟨rfl, rfl⟩) (pc1 := 197) (pc2 := 201) (E_aln d_R_init_196 rfl) (E_NI rfl w_arrI (pc1 := 199) (E_bi d_R_init_197 rfl) d_R_init_199) d_R_init_201)
    (S_sq (pc1 := 212) (S_FR f_R_86 ho hn (fun _ => ⟨rfl, rfl⟩) (pc1 := 205) (pc2 := 209) (E_aln d_R_init_204 rfl) (E_NI rfl w_arrI (pc1 := 207) (E_bi d_R_init_205 rfl) d_R_init_207) d_R_init_209)
    (S_sq (pc1 := 220) (S_FR f_R_89 ho hn (fun _ => ⟨rfl, rfl⟩) (pc1 := 213) (pc2 := 217) (E_aln d_R_init_212 rfl) (E_NI rfl w_arrI (pc1 := 215) (E_bi d_R_init_213 rfl) d_R_init_215) d_R_init_217)
    (S_sq (pc1 := 228) (S_FR f_R_92 ho hn (fun _ => ⟨rfl, rfl⟩) (pc1 := 221) (pc2 := 225) (E_aln d_R_init_220 rfl) (E_NI rfl w_arrI (pc1 := 223) (E_bi d_R_init_221 rfl) d_R_init_223) d_R_init_225)
    (S_sq (pc1 := 235) (S_X (O_S k_R_95 (v_R_first _) ⟨rfl, rfl⟩ ho (rk hR rfl) (by decide) (pc2 := 232) (A_c catR (pc1 := 232) (E_fR f_R_25 ho (pc1 := 229) (E_aln d_R_init_228 rfl) d_R_init_229) A_n) d_R_init_232))
    (S_sq (pc1 := 244) (S_AI (pc1 := 239) (pc2 := 241) (pc3 := 243) (E_fR f_R_25 ho (pc1 := 236) (E_aln d_R_init_235 rfl) d_R_init_236) (E_bi d_R_init_239 rfl) (E_bi d_R_init_241 rfl) d_R_init_243)
    (S_sq (pc1 := 252) (S_AI (pc1 := 248) (pc2 := 250) (pc3 := 251) (E_fR f_R_25 ho (pc1 := 245) (E_aln d_R_init_244 rfl) d_R_init_245) (E_bi d_R_init_248 rfl) (E_ic d_R_init_250 rfl) d_R_init_251)
    (S_sq (pc1 := 260) (S_AI (pc1 := 256) (pc2 := 258) (pc3 := 259) (E_fR f_R_25 ho (pc1 := 253) (E_aln d_R_init_252 rfl) d_R_init_253) (E_bi d_R_init_256 rfl) (E_ic d_R_init_258 rfl) d_R_init_259)
    (S_rv hrt d_R_init_260))))))))))))))))))))))))))))))))))
