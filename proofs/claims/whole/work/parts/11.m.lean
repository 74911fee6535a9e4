/-! methods: the decoded rows, the meaning (B, X), the contract (v) -/
theorem d_Pack_followedBy_0 : decode prog_6_method_11_code 0 = .ok (.iconst 0, 1) := by decide +kernel
theorem d_Pack_followedBy_1 : decode prog_6_method_11_code 1 = .ok (.istore_n 2, 1) := by decide +kernel
theorem d_Pack_followedBy_2 : decode prog_6_method_11_code 2 = .ok (.iconst 0, 1) := by decide +kernel
theorem d_Pack_followedBy_3 : decode prog_6_method_11_code 3 = .ok (.istore_n 3, 1) := by decide +kernel
theorem d_Pack_followedBy_4 : decode prog_6_method_11_code 4 = .ok (.iload_n 3, 1) := by decide +kernel
theorem d_Pack_followedBy_5 : decode prog_6_method_11_code 5 = .ok (.aload_n 0, 1) := by decide +kernel
theorem d_Pack_followedBy_6 : decode prog_6_method_11_code 6 = .ok (.getfield 46, 3) := by decide +kernel
theorem d_Pack_followedBy_9 : decode prog_6_method_11_code 9 = .ok (.getfield 106, 3) := by decide +kernel
theorem d_Pack_followedBy_12 : decode prog_6_method_11_code 12 = .ok (.if_icmp .ge 29, 3) := by decide +kernel
theorem d_Pack_followedBy_15 : decode prog_6_method_11_code 15 = .ok (.iload_n 1, 1) := by decide +kernel
theorem d_Pack_followedBy_16 : decode prog_6_method_11_code 16 = .ok (.iload_n 3, 1) := by decide +kernel
theorem d_Pack_followedBy_17 : decode prog_6_method_11_code 17 = .ok (.invokestatic 123, 3) := by decide +kernel
theorem d_Pack_followedBy_20 : decode prog_6_method_11_code 20 = .ok (.ifCond .eq 15, 3) := by decide +kernel
theorem d_Pack_followedBy_23 : decode prog_6_method_11_code 23 = .ok (.iload_n 2, 1) := by decide +kernel
theorem d_Pack_followedBy_24 : decode prog_6_method_11_code 24 = .ok (.aload_n 0, 1) := by decide +kernel
theorem d_Pack_followedBy_25 : decode prog_6_method_11_code 25 = .ok (.getfield 55, 3) := by decide +kernel
theorem d_Pack_followedBy_28 : decode prog_6_method_11_code 28 = .ok (.getfield 153, 3) := by decide +kernel
theorem d_Pack_followedBy_31 : decode prog_6_method_11_code 31 = .ok (.iload_n 3, 1) := by decide +kernel
theorem d_Pack_followedBy_32 : decode prog_6_method_11_code 32 = .ok (.iaload, 1) := by decide +kernel
theorem d_Pack_followedBy_33 : decode prog_6_method_11_code 33 = .ok (.ior, 1) := by decide +kernel
theorem d_Pack_followedBy_34 : decode prog_6_method_11_code 34 = .ok (.istore_n 2, 1) := by decide +kernel
theorem d_Pack_followedBy_35 : decode prog_6_method_11_code 35 = .ok (.iinc 3 1, 3) := by decide +kernel
theorem d_Pack_followedBy_38 : decode prog_6_method_11_code 38 = .ok (.goto (-34), 3) := by decide +kernel
theorem d_Pack_followedBy_41 : decode prog_6_method_11_code 41 = .ok (.iload_n 2, 1) := by decide +kernel
theorem d_Pack_followedBy_42 : decode prog_6_method_11_code 42 = .ok (.ireturn, 1) := by decide +kernel
def B_Pack_followedBy (_ : Nat × Nat) : PS :=
  (sSq (sI 2 (eV (0 : Int32)))
    (sSq (sCut 3 (sSq (sI 3 (eV (0 : Int32)))
    (sLp 4 (e2 (fun x y : Int32 => decide (x < y)) (eI 3) (eFI 1 6 (eFR 4 0 (eR 0))))
    (sIf (e1 (fun x : Int32 => decide (¬ x = 0)) (eX .int (xS 2 X_PL_holds (aC .int (eI 1) (aC .int (eI 3) aN))))) (sI 2 (e2 (fun x y : Int32 => x ||| y) (eI 2) (eAI (eFR 2 1 (eFR 4 1 (eR 0))) (eI 3)))) sSk)
    (sInc 3 (1)))))
    (sRt .int (eI 2))))
def X_Pack_followedBy : PM := fun vs h Q => (lx vs).length ≤ 4 ∧ B_Pack_followedBy (h.length + 0, hsz h + 0) (fun _ _ => False) (fun _ _ => False) (fun _ _ => False) Q (lini 4 vs) h
theorem v_Pack_followedBy (l : Launch) : Ctr l y_Pack_followedBy prog_6_method_11_code 4 (some .int) rm_Pack_followedBy X_Pack_followedBy := by
  refine Ctr_of (own := "PackLanes$Packer") (B := B_Pack_followedBy) (KR := fun _ Q => Q) (by decide) rfl (fun _ _ _ z => z) (fun _ _ _ _ z => ⟨Or.inl ⟨rfl, rfl⟩, z⟩) (Or.inr (Or.inl rfl)) (fun κ hl ho hR hrt hn0 => ?_)
  subst hl
  unfold B_Pack_followedBy
  exact (S_sq (pc1 := 2) (S_In (pc1 := 1) (E_ic d_Pack_followedBy_0 rfl) d_Pack_followedBy_1 rfl)
    (S_sq (pc1 := 41) (S_cut (S_sq (pc1 := 4) (S_In (pc1 := 3) (E_ic d_Pack_followedBy_2 rfl) d_Pack_followedBy_3 rfl)
    (S_lp (pT := 15) (pF := 41) (pS := 35) (pG := 38) (J2_lt (pF := 41) (pc1 := 5) (pc2 := 12) (E_iln d_Pack_followedBy_4 rfl) (E_fI f_Pack_106 ho (pc1 := 9) (E_fR f_Pack_46 ho (pc1 := 6) (E_aln d_Pack_followedBy_5 rfl) d_Pack_followedBy_6) d_Pack_followedBy_9) d_Pack_followedBy_12 rfl)
    (S_if1 (pT := 23) (pF := 35) (J1_ne (pF := 35) (pc2 := 20) (E_x (O_SN k_Pack_123 (v_PL_holds _) ⟨rfl, rfl⟩ ho (rk hR rfl) (by decide) (pc2 := 17) (A_c catI (pc1 := 16) (E_iln d_Pack_followedBy_15 rfl) (A_c catI (pc1 := 17) (E_iln d_Pack_followedBy_16 rfl) A_n)) d_Pack_followedBy_17)) d_Pack_followedBy_20 rfl) (S_In (pc1 := 34) (E_ior (pc1 := 24) (pc2 := 33) (E_iln d_Pack_followedBy_23 rfl) (E_aI (pc1 := 31) (pc2 := 32) (E_fR f_Pack_153 ho (pc1 := 28) (E_fR f_Pack_55 ho (pc1 := 25) (E_aln d_Pack_followedBy_24 rfl) d_Pack_followedBy_25) d_Pack_followedBy_28) (E_iln d_Pack_followedBy_31 rfl) d_Pack_followedBy_32) d_Pack_followedBy_33) d_Pack_followedBy_34 rfl))
    (S_Inc d_Pack_followedBy_35 rfl) d_Pack_followedBy_38 rfl)))
    (S_ri hrt (pc1 := 42) (E_iln d_Pack_followedBy_41 rfl) d_Pack_followedBy_42)))
theorem d_Pack_leastReady_0 : decode prog_6_method_10_code 0 = .ok (.iconst 0, 1) := by decide +kernel
theorem d_Pack_leastReady_1 : decode prog_6_method_10_code 1 = .ok (.istore_n 2, 1) := by decide +kernel
theorem d_Pack_leastReady_2 : decode prog_6_method_10_code 2 = .ok (.iload_n 2, 1) := by decide +kernel
theorem d_Pack_leastReady_3 : decode prog_6_method_10_code 3 = .ok (.aload_n 0, 1) := by decide +kernel
theorem d_Pack_leastReady_4 : decode prog_6_method_10_code 4 = .ok (.getfield 46, 3) := by decide +kernel
theorem d_Pack_leastReady_7 : decode prog_6_method_10_code 7 = .ok (.getfield 106, 3) := by decide +kernel
theorem d_Pack_leastReady_10 : decode prog_6_method_10_code 10 = .ok (.if_icmp .ge 43, 3) := by decide +kernel
theorem d_Pack_leastReady_13 : decode prog_6_method_10_code 13 = .ok (.iload_n 1, 1) := by decide +kernel
theorem d_Pack_leastReady_14 : decode prog_6_method_10_code 14 = .ok (.iload_n 2, 1) := by decide +kernel
theorem d_Pack_leastReady_15 : decode prog_6_method_10_code 15 = .ok (.invokestatic 123, 3) := by decide +kernel
theorem d_Pack_leastReady_18 : decode prog_6_method_10_code 18 = .ok (.ifCond .ne 29, 3) := by decide +kernel
theorem d_Pack_leastReady_21 : decode prog_6_method_10_code 21 = .ok (.aload_n 0, 1) := by decide +kernel
theorem d_Pack_leastReady_22 : decode prog_6_method_10_code 22 = .ok (.aload_n 0, 1) := by decide +kernel
theorem d_Pack_leastReady_23 : decode prog_6_method_10_code 23 = .ok (.getfield 15, 3) := by decide +kernel
theorem d_Pack_leastReady_26 : decode prog_6_method_10_code 26 = .ok (.iload_n 2, 1) := by decide +kernel
theorem d_Pack_leastReady_27 : decode prog_6_method_10_code 27 = .ok (.iaload, 1) := by decide +kernel
theorem d_Pack_leastReady_28 : decode prog_6_method_10_code 28 = .ok (.invokevirtual 150, 3) := by decide +kernel
theorem d_Pack_leastReady_31 : decode prog_6_method_10_code 31 = .ok (.iload_n 1, 1) := by decide +kernel
theorem d_Pack_leastReady_32 : decode prog_6_method_10_code 32 = .ok (.aload_n 0, 1) := by decide +kernel
theorem d_Pack_leastReady_33 : decode prog_6_method_10_code 33 = .ok (.getfield 15, 3) := by decide +kernel
theorem d_Pack_leastReady_36 : decode prog_6_method_10_code 36 = .ok (.iload_n 2, 1) := by decide +kernel
theorem d_Pack_leastReady_37 : decode prog_6_method_10_code 37 = .ok (.iaload, 1) := by decide +kernel
theorem d_Pack_leastReady_38 : decode prog_6_method_10_code 38 = .ok (.ior, 1) := by decide +kernel
theorem d_Pack_leastReady_39 : decode prog_6_method_10_code 39 = .ok (.iconst (-1), 1) := by decide +kernel
theorem d_Pack_leastReady_40 : decode prog_6_method_10_code 40 = .ok (.ixor, 1) := by decide +kernel
theorem d_Pack_leastReady_41 : decode prog_6_method_10_code 41 = .ok (.iand, 1) := by decide +kernel
theorem d_Pack_leastReady_42 : decode prog_6_method_10_code 42 = .ok (.ifCond .ne 5, 3) := by decide +kernel
theorem d_Pack_leastReady_45 : decode prog_6_method_10_code 45 = .ok (.iload_n 2, 1) := by decide +kernel
theorem d_Pack_leastReady_46 : decode prog_6_method_10_code 46 = .ok (.ireturn, 1) := by decide +kernel
theorem d_Pack_leastReady_47 : decode prog_6_method_10_code 47 = .ok (.iinc 2 1, 3) := by decide +kernel
theorem d_Pack_leastReady_50 : decode prog_6_method_10_code 50 = .ok (.goto (-48), 3) := by decide +kernel
theorem d_Pack_leastReady_53 : decode prog_6_method_10_code 53 = .ok (.bipush (-9), 2) := by decide +kernel
theorem d_Pack_leastReady_55 : decode prog_6_method_10_code 55 = .ok (.ireturn, 1) := by decide +kernel
def B_Pack_leastReady (_ : Nat × Nat) : PS :=
  (sSq (sCut 2 (sSq (sI 2 (eV (0 : Int32)))
    (sLp 3 (e2 (fun x y : Int32 => decide (x < y)) (eI 2) (eFI 1 6 (eFR 4 0 (eR 0))))
    (sIf (cA (cN (e1 (fun x : Int32 => decide (¬ x = 0)) (eX .int (xS 2 X_PL_holds (aC .int (eI 1) (aC .int (eI 2) aN)))))) (e1 (fun x : Int32 => decide (x = 0)) (e2 (fun x y : Int32 => x &&& y) (eX .int (xV 4 1 X_Pack_followedBy (eR 0) (aC .int (eAI (eFR 4 4 (eR 0)) (eI 2)) aN))) (e2 (fun x y : Int32 => x ^^^ y) (e2 (fun x y : Int32 => x ||| y) (eI 1) (eAI (eFR 4 4 (eR 0)) (eI 2))) (eV (-1 : Int32)))))) (sRt .int (eI 2)) sSk)
    (sInc 2 (1)))))
    (sRt .int (eV (-9 : Int32))))
def X_Pack_leastReady : PM := fun vs h Q => (lx vs).length ≤ 3 ∧ B_Pack_leastReady (h.length + 0, hsz h + 0) (fun _ _ => False) (fun _ _ => False) (fun _ _ => False) Q (lini 3 vs) h
theorem v_Pack_leastReady (l : Launch) : Ctr l y_Pack_leastReady prog_6_method_10_code 3 (some .int) rm_Pack_leastReady X_Pack_leastReady := by
  refine Ctr_of (own := "PackLanes$Packer") (B := B_Pack_leastReady) (KR := fun _ Q => Q) (by decide) rfl (fun _ _ _ z => z) (fun _ _ _ _ z => ⟨Or.inl ⟨rfl, rfl⟩, z⟩) (Or.inr (Or.inl rfl)) (fun κ hl ho hR hrt hn0 => ?_)
  subst hl
  unfold B_Pack_leastReady
  exact (S_sq (pc1 := 53) (S_cut (S_sq (pc1 := 2) (S_In (pc1 := 1) (E_ic d_Pack_leastReady_0 rfl) d_Pack_leastReady_1 rfl)
    (S_lp (pT := 13) (pF := 53) (pS := 47) (pG := 50) (J2_lt (pF := 53) (pc1 := 3) (pc2 := 10) (E_iln d_Pack_leastReady_2 rfl) (E_fI f_Pack_106 ho (pc1 := 7) (E_fR f_Pack_46 ho (pc1 := 4) (E_aln d_Pack_leastReady_3 rfl) d_Pack_leastReady_4) d_Pack_leastReady_7) d_Pack_leastReady_10 rfl)
    (S_if1 (pT := 45) (pF := 47) (C_and (pc1 := 21) (C_not (T1_ne (pT := 47) (pc2 := 18) (E_x (O_SN k_Pack_123 (v_PL_holds _) ⟨rfl, rfl⟩ ho (rk hR rfl) (by decide) (pc2 := 15) (A_c catI (pc1 := 14) (E_iln d_Pack_leastReady_13 rfl) (A_c catI (pc1 := 15) (E_iln d_Pack_leastReady_14 rfl) A_n)) d_Pack_leastReady_15)) d_Pack_leastReady_18 rfl)) (J1_eq (pF := 47) (pc2 := 42) (E_iand (pc1 := 31) (pc2 := 41) (E_x (O_V k_Pack_150 (v_Pack_followedBy _) ⟨rfl, rfl⟩ ho (rk hR rfl) (by decide) (T := KT4) (N := 14) rfl (by decide) (pc1 := 22) (pc2 := 28) (E_aln d_Pack_leastReady_21 rfl) (A_c catI (pc1 := 28) (E_aI (pc1 := 26) (pc2 := 27) (E_fR f_Pack_15 ho (pc1 := 23) (E_aln d_Pack_leastReady_22 rfl) d_Pack_leastReady_23) (E_iln d_Pack_leastReady_26 rfl) d_Pack_leastReady_27) A_n) d_Pack_leastReady_28)) (E_ixor (pc1 := 39) (pc2 := 40) (E_ior (pc1 := 32) (pc2 := 38) (E_iln d_Pack_leastReady_31 rfl) (E_aI (pc1 := 36) (pc2 := 37) (E_fR f_Pack_15 ho (pc1 := 33) (E_aln d_Pack_leastReady_32 rfl) d_Pack_leastReady_33) (E_iln d_Pack_leastReady_36 rfl) d_Pack_leastReady_37) d_Pack_leastReady_38) (E_ic d_Pack_leastReady_39 rfl) d_Pack_leastReady_40) d_Pack_leastReady_41) d_Pack_leastReady_42 rfl)) (S_ri hrt (pc1 := 46) (E_iln d_Pack_leastReady_45 rfl) d_Pack_leastReady_46))
    (S_Inc d_Pack_leastReady_47 rfl) d_Pack_leastReady_50 rfl)))
    (S_ri hrt (pc1 := 55) (E_bi d_Pack_leastReady_53 rfl) d_Pack_leastReady_55))
theorem d_Pack_appendNode_0 : decode prog_6_method_12_code 0 = .ok (.iconst 0, 1) := by decide +kernel
theorem d_Pack_appendNode_1 : decode prog_6_method_12_code 1 = .ok (.istore_n 3, 1) := by decide +kernel
theorem d_Pack_appendNode_2 : decode prog_6_method_12_code 2 = .ok (.iload_n 3, 1) := by decide +kernel
theorem d_Pack_appendNode_3 : decode prog_6_method_12_code 3 = .ok (.aload_n 0, 1) := by decide +kernel
theorem d_Pack_appendNode_4 : decode prog_6_method_12_code 4 = .ok (.getfield 46, 3) := by decide +kernel
theorem d_Pack_appendNode_7 : decode prog_6_method_12_code 7 = .ok (.getfield 106, 3) := by decide +kernel
theorem d_Pack_appendNode_10 : decode prog_6_method_12_code 10 = .ok (.if_icmp .ge 53, 3) := by decide +kernel
theorem d_Pack_appendNode_13 : decode prog_6_method_12_code 13 = .ok (.iload_n 1, 1) := by decide +kernel
theorem d_Pack_appendNode_14 : decode prog_6_method_12_code 14 = .ok (.iload_n 3, 1) := by decide +kernel
theorem d_Pack_appendNode_15 : decode prog_6_method_12_code 15 = .ok (.invokestatic 123, 3) := by decide +kernel
theorem d_Pack_appendNode_18 : decode prog_6_method_12_code 18 = .ok (.ifCond .eq 39, 3) := by decide +kernel
theorem d_Pack_appendNode_21 : decode prog_6_method_12_code 21 = .ok (.aload_n 0, 1) := by decide +kernel
theorem d_Pack_appendNode_22 : decode prog_6_method_12_code 22 = .ok (.getfield 31, 3) := by decide +kernel
theorem d_Pack_appendNode_25 : decode prog_6_method_12_code 25 = .ok (.bipush 16, 2) := by decide +kernel
theorem d_Pack_appendNode_27 : decode prog_6_method_12_code 27 = .ok (.if_icmp .ge 30, 3) := by decide +kernel
theorem d_Pack_appendNode_30 : decode prog_6_method_12_code 30 = .ok (.aload_n 0, 1) := by decide +kernel
theorem d_Pack_appendNode_31 : decode prog_6_method_12_code 31 = .ok (.getfield 25, 3) := by decide +kernel
theorem d_Pack_appendNode_34 : decode prog_6_method_12_code 34 = .ok (.iload_n 3, 1) := by decide +kernel
theorem d_Pack_appendNode_35 : decode prog_6_method_12_code 35 = .ok (.iload_n 2, 1) := by decide +kernel
theorem d_Pack_appendNode_36 : decode prog_6_method_12_code 36 = .ok (.iastore, 1) := by decide +kernel
theorem d_Pack_appendNode_37 : decode prog_6_method_12_code 37 = .ok (.aload_n 0, 1) := by decide +kernel
theorem d_Pack_appendNode_38 : decode prog_6_method_12_code 38 = .ok (.getfield 28, 3) := by decide +kernel
theorem d_Pack_appendNode_41 : decode prog_6_method_12_code 41 = .ok (.aload_n 0, 1) := by decide +kernel
theorem d_Pack_appendNode_42 : decode prog_6_method_12_code 42 = .ok (.getfield 31, 3) := by decide +kernel
theorem d_Pack_appendNode_45 : decode prog_6_method_12_code 45 = .ok (.iload_n 3, 1) := by decide +kernel
theorem d_Pack_appendNode_46 : decode prog_6_method_12_code 46 = .ok (.iastore, 1) := by decide +kernel
theorem d_Pack_appendNode_47 : decode prog_6_method_12_code 47 = .ok (.aload_n 0, 1) := by decide +kernel
theorem d_Pack_appendNode_48 : decode prog_6_method_12_code 48 = .ok (.dup, 1) := by decide +kernel
theorem d_Pack_appendNode_49 : decode prog_6_method_12_code 49 = .ok (.getfield 31, 3) := by decide +kernel
theorem d_Pack_appendNode_52 : decode prog_6_method_12_code 52 = .ok (.iconst 1, 1) := by decide +kernel
theorem d_Pack_appendNode_53 : decode prog_6_method_12_code 53 = .ok (.iadd, 1) := by decide +kernel
theorem d_Pack_appendNode_54 : decode prog_6_method_12_code 54 = .ok (.putfield 31, 3) := by decide +kernel
theorem d_Pack_appendNode_57 : decode prog_6_method_12_code 57 = .ok (.iinc 3 1, 3) := by decide +kernel
theorem d_Pack_appendNode_60 : decode prog_6_method_12_code 60 = .ok (.goto (-58), 3) := by decide +kernel
theorem d_Pack_appendNode_63 : decode prog_6_method_12_code 63 = .ok (.return_, 1) := by decide +kernel
def B_Pack_appendNode (_ : Nat × Nat) : PS :=
  (sSq (sCut 3 (sSq (sI 3 (eV (0 : Int32)))
    (sLp 4 (e2 (fun x y : Int32 => decide (x < y)) (eI 3) (eFI 1 6 (eFR 4 0 (eR 0))))
    (sIf (cA (e1 (fun x : Int32 => decide (¬ x = 0)) (eX .int (xS 2 X_PL_holds (aC .int (eI 1) (aC .int (eI 3) aN))))) (e2 (fun x y : Int32 => decide (x < y)) (eFI 4 9 (eR 0)) (eV (16 : Int32)))) (sSq (sAI (eFR 4 7 (eR 0)) (eI 3) (eI 2))
    (sSq (sAI (eFR 4 8 (eR 0)) (eFI 4 9 (eR 0)) (eI 3))
    (sFO 4 9 (fun x y : Int32 => x + y) (eR 0) (eV (1 : Int32))))) sSk)
    (sInc 3 (1)))))
    sRv)
def X_Pack_appendNode : PM := fun vs h Q => (lx vs).length ≤ 4 ∧ B_Pack_appendNode (h.length + 0, hsz h + 0) (fun _ _ => False) (fun _ _ => False) (fun _ _ => False) Q (lini 4 vs) h
theorem v_Pack_appendNode (l : Launch) : Ctr l y_Pack_appendNode prog_6_method_12_code 4 none rm_Pack_appendNode X_Pack_appendNode := by
  refine Ctr_of (own := "PackLanes$Packer") (B := B_Pack_appendNode) (KR := fun _ Q => Q) (by decide) rfl (fun _ _ _ z => z) (fun _ _ _ _ z => ⟨Or.inl ⟨rfl, rfl⟩, z⟩) (Or.inl rfl) (fun κ hl ho hR hrt hn0 => ?_)
  subst hl
  unfold B_Pack_appendNode
  exact (S_sq (pc1 := 63) (S_cut (S_sq (pc1 := 2) (S_In (pc1 := 1) (E_ic d_Pack_appendNode_0 rfl) d_Pack_appendNode_1 rfl)
    (S_lp (pT := 13) (pF := 63) (pS := 57) (pG := 60) (J2_lt (pF := 63) (pc1 := 3) (pc2 := 10) (E_iln d_Pack_appendNode_2 rfl) (E_fI f_Pack_106 ho (pc1 := 7) (E_fR f_Pack_46 ho (pc1 := 4) (E_aln d_Pack_appendNode_3 rfl) d_Pack_appendNode_4) d_Pack_appendNode_7) d_Pack_appendNode_10 rfl)
    (S_if1 (pT := 30) (pF := 57) (C_and (pc1 := 21) (J1_ne (pF := 57) (pc2 := 18) (E_x (O_SN k_Pack_123 (v_PL_holds _) ⟨rfl, rfl⟩ ho (rk hR rfl) (by decide) (pc2 := 15) (A_c catI (pc1 := 14) (E_iln d_Pack_appendNode_13 rfl) (A_c catI (pc1 := 15) (E_iln d_Pack_appendNode_14 rfl) A_n)) d_Pack_appendNode_15)) d_Pack_appendNode_18 rfl) (J2_lt (pF := 57) (pc1 := 25) (pc2 := 27) (E_fI f_Pack_31 ho (pc1 := 22) (E_aln d_Pack_appendNode_21 rfl) d_Pack_appendNode_22) (E_bi d_Pack_appendNode_25 rfl) d_Pack_appendNode_27 rfl)) (S_sq (pc1 := 37) (S_AI (pc1 := 34) (pc2 := 35) (pc3 := 36) (E_fR f_Pack_25 ho (pc1 := 31) (E_aln d_Pack_appendNode_30 rfl) d_Pack_appendNode_31) (E_iln d_Pack_appendNode_34 rfl) (E_iln d_Pack_appendNode_35 rfl) d_Pack_appendNode_36)
    (S_sq (pc1 := 47) (S_AI (pc1 := 41) (pc2 := 45) (pc3 := 46) (E_fR f_Pack_28 ho (pc1 := 38) (E_aln d_Pack_appendNode_37 rfl) d_Pack_appendNode_38) (E_fI f_Pack_31 ho (pc1 := 42) (E_aln d_Pack_appendNode_41 rfl) d_Pack_appendNode_42) (E_iln d_Pack_appendNode_45 rfl) d_Pack_appendNode_46)
    (S_FO f_Pack_31 f_Pack_31 ho (pc1 := 48) (pc2 := 53) (E_aln d_Pack_appendNode_47 rfl) d_Pack_appendNode_48 d_Pack_appendNode_49 (E_ic d_Pack_appendNode_52 rfl) (fun _ _ _ _ _ k => r_iadd d_Pack_appendNode_53 k) d_Pack_appendNode_54))))
    (S_Inc d_Pack_appendNode_57 rfl) d_Pack_appendNode_60 rfl)))
    (S_rv hrt d_Pack_appendNode_63))
theorem d_Pack_putInOrder_0 : decode prog_6_method_9_code 0 = .ok (.iconst 1, 1) := by decide +kernel
theorem d_Pack_putInOrder_1 : decode prog_6_method_9_code 1 = .ok (.aload_n 0, 1) := by decide +kernel
theorem d_Pack_putInOrder_2 : decode prog_6_method_9_code 2 = .ok (.getfield 46, 3) := by decide +kernel
theorem d_Pack_putInOrder_5 : decode prog_6_method_9_code 5 = .ok (.getfield 106, 3) := by decide +kernel
theorem d_Pack_putInOrder_8 : decode prog_6_method_9_code 8 = .ok (.ishl, 1) := by decide +kernel
theorem d_Pack_putInOrder_9 : decode prog_6_method_9_code 9 = .ok (.iconst 1, 1) := by decide +kernel
theorem d_Pack_putInOrder_10 : decode prog_6_method_9_code 10 = .ok (.isub, 1) := by decide +kernel
theorem d_Pack_putInOrder_11 : decode prog_6_method_9_code 11 = .ok (.istore_n 1, 1) := by decide +kernel
theorem d_Pack_putInOrder_12 : decode prog_6_method_9_code 12 = .ok (.aload_n 0, 1) := by decide +kernel
theorem d_Pack_putInOrder_13 : decode prog_6_method_9_code 13 = .ok (.getfield 55, 3) := by decide +kernel
theorem d_Pack_putInOrder_16 : decode prog_6_method_9_code 16 = .ok (.getfield 120, 3) := by decide +kernel
theorem d_Pack_putInOrder_19 : decode prog_6_method_9_code 19 = .ok (.istore_n 2, 1) := by decide +kernel
theorem d_Pack_putInOrder_20 : decode prog_6_method_9_code 20 = .ok (.iconst 0, 1) := by decide +kernel
theorem d_Pack_putInOrder_21 : decode prog_6_method_9_code 21 = .ok (.istore_n 3, 1) := by decide +kernel
theorem d_Pack_putInOrder_22 : decode prog_6_method_9_code 22 = .ok (.aload_n 0, 1) := by decide +kernel
theorem d_Pack_putInOrder_23 : decode prog_6_method_9_code 23 = .ok (.iconst 0, 1) := by decide +kernel
theorem d_Pack_putInOrder_24 : decode prog_6_method_9_code 24 = .ok (.putfield 31, 3) := by decide +kernel
theorem d_Pack_putInOrder_27 : decode prog_6_method_9_code 27 = .ok (.iconst 0, 1) := by decide +kernel
theorem d_Pack_putInOrder_28 : decode prog_6_method_9_code 28 = .ok (.istore 4, 2) := by decide +kernel
theorem d_Pack_putInOrder_30 : decode prog_6_method_9_code 30 = .ok (.iload 4, 2) := by decide +kernel
theorem d_Pack_putInOrder_32 : decode prog_6_method_9_code 32 = .ok (.bipush 16, 2) := by decide +kernel
theorem d_Pack_putInOrder_34 : decode prog_6_method_9_code 34 = .ok (.if_icmp .ge 53, 3) := by decide +kernel
theorem d_Pack_putInOrder_37 : decode prog_6_method_9_code 37 = .ok (.iload_n 2, 1) := by decide +kernel
theorem d_Pack_putInOrder_38 : decode prog_6_method_9_code 38 = .ok (.iload_n 1, 1) := by decide +kernel
theorem d_Pack_putInOrder_39 : decode prog_6_method_9_code 39 = .ok (.if_icmp .eq 48, 3) := by decide +kernel
theorem d_Pack_putInOrder_42 : decode prog_6_method_9_code 42 = .ok (.aload_n 0, 1) := by decide +kernel
theorem d_Pack_putInOrder_43 : decode prog_6_method_9_code 43 = .ok (.iload_n 2, 1) := by decide +kernel
theorem d_Pack_putInOrder_44 : decode prog_6_method_9_code 44 = .ok (.invokevirtual 142, 3) := by decide +kernel
theorem d_Pack_putInOrder_47 : decode prog_6_method_9_code 47 = .ok (.istore 5, 2) := by decide +kernel
theorem d_Pack_putInOrder_49 : decode prog_6_method_9_code 49 = .ok (.iload 5, 2) := by decide +kernel
theorem d_Pack_putInOrder_51 : decode prog_6_method_9_code 51 = .ok (.ifCond .ge 5, 3) := by decide +kernel
theorem d_Pack_putInOrder_54 : decode prog_6_method_9_code 54 = .ok (.iconst 0, 1) := by decide +kernel
theorem d_Pack_putInOrder_55 : decode prog_6_method_9_code 55 = .ok (.ireturn, 1) := by decide +kernel
theorem d_Pack_putInOrder_56 : decode prog_6_method_9_code 56 = .ok (.aload_n 0, 1) := by decide +kernel
theorem d_Pack_putInOrder_57 : decode prog_6_method_9_code 57 = .ok (.aload_n 0, 1) := by decide +kernel
theorem d_Pack_putInOrder_58 : decode prog_6_method_9_code 58 = .ok (.getfield 15, 3) := by decide +kernel
theorem d_Pack_putInOrder_61 : decode prog_6_method_9_code 61 = .ok (.iload 5, 2) := by decide +kernel
theorem d_Pack_putInOrder_63 : decode prog_6_method_9_code 63 = .ok (.iaload, 1) := by decide +kernel
theorem d_Pack_putInOrder_64 : decode prog_6_method_9_code 64 = .ok (.iload_n 3, 1) := by decide +kernel
theorem d_Pack_putInOrder_65 : decode prog_6_method_9_code 65 = .ok (.invokevirtual 146, 3) := by decide +kernel
theorem d_Pack_putInOrder_68 : decode prog_6_method_9_code 68 = .ok (.iload_n 2, 1) := by decide +kernel
theorem d_Pack_putInOrder_69 : decode prog_6_method_9_code 69 = .ok (.aload_n 0, 1) := by decide +kernel
theorem d_Pack_putInOrder_70 : decode prog_6_method_9_code 70 = .ok (.getfield 15, 3) := by decide +kernel
theorem d_Pack_putInOrder_73 : decode prog_6_method_9_code 73 = .ok (.iload 5, 2) := by decide +kernel
theorem d_Pack_putInOrder_75 : decode prog_6_method_9_code 75 = .ok (.iaload, 1) := by decide +kernel
theorem d_Pack_putInOrder_76 : decode prog_6_method_9_code 76 = .ok (.ior, 1) := by decide +kernel
theorem d_Pack_putInOrder_77 : decode prog_6_method_9_code 77 = .ok (.istore_n 2, 1) := by decide +kernel
theorem d_Pack_putInOrder_78 : decode prog_6_method_9_code 78 = .ok (.iinc 3 1, 3) := by decide +kernel
theorem d_Pack_putInOrder_81 : decode prog_6_method_9_code 81 = .ok (.iinc 4 1, 3) := by decide +kernel
theorem d_Pack_putInOrder_84 : decode prog_6_method_9_code 84 = .ok (.goto (-54), 3) := by decide +kernel
theorem d_Pack_putInOrder_87 : decode prog_6_method_9_code 87 = .ok (.iload_n 2, 1) := by decide +kernel
theorem d_Pack_putInOrder_88 : decode prog_6_method_9_code 88 = .ok (.iload_n 1, 1) := by decide +kernel
theorem d_Pack_putInOrder_89 : decode prog_6_method_9_code 89 = .ok (.if_icmp .ne 7, 3) := by decide +kernel
theorem d_Pack_putInOrder_92 : decode prog_6_method_9_code 92 = .ok (.iconst 1, 1) := by decide +kernel
theorem d_Pack_putInOrder_93 : decode prog_6_method_9_code 93 = .ok (.goto 4, 3) := by decide +kernel
theorem d_Pack_putInOrder_96 : decode prog_6_method_9_code 96 = .ok (.iconst 0, 1) := by decide +kernel
theorem d_Pack_putInOrder_97 : decode prog_6_method_9_code 97 = .ok (.ireturn, 1) := by decide +kernel
def B_Pack_putInOrder (_ : Nat × Nat) : PS :=
  (sSq (sI 1 (e2 (fun x y : Int32 => x - y) (e2 (fun x y : Int32 => x <<< (y &&& 31)) (eV (1 : Int32)) (eFI 1 6 (eFR 4 0 (eR 0)))) (eV (1 : Int32))))
    (sSq (sI 2 (eFI 2 4 (eFR 4 1 (eR 0))))
    (sSq (sI 3 (eV (0 : Int32)))
    (sSq (sF .int 4 9 (eR 0) (eV (0 : Int32)))
    (sSq (sCut 4 (sSq (sI 4 (eV (0 : Int32)))
    (sLp 5 (cA (e2 (fun x y : Int32 => decide (x < y)) (eI 4) (eV (16 : Int32))) (e2 (fun x y : Int32 => decide (¬ x = y)) (eI 2) (eI 1)))
    (sCut 5 (sSq (sI 5 (eX .int (xV 4 1 X_Pack_leastReady (eR 0) (aC .int (eI 2) aN))))
    (sSq (sIf (e1 (fun x : Int32 => decide (x < 0)) (eI 5)) (sRz (eV (0 : Int32))) sSk)
    (sSq (sX (xV 4 2 X_Pack_appendNode (eR 0) (aC .int (eAI (eFR 4 4 (eR 0)) (eI 5)) (aC .int (eI 3) aN))))
    (sSq (sI 2 (e2 (fun x y : Int32 => x ||| y) (eI 2) (eAI (eFR 4 4 (eR 0)) (eI 5))))
    (sInc 3 (1)))))))
    (sInc 4 (1)))))
    (sRz (eC (e2 (fun x y : Int32 => decide (x = y)) (eI 2) (eI 1)))))))))
def X_Pack_putInOrder : PM := fun vs h Q => (lx vs).length ≤ 6 ∧ B_Pack_putInOrder (h.length + 0, hsz h + 0) (fun _ _ => False) (fun _ _ => False) (fun _ _ => False) Q (lini 6 vs) h
theorem v_Pack_putInOrder (l : Launch) : Ctr l y_Pack_putInOrder prog_6_method_9_code 6 (some .boolean) rm_Pack_putInOrder X_Pack_putInOrder := by
  refine Ctr_of (own := "PackLanes$Packer") (B := B_Pack_putInOrder) (KR := fun _ Q => Q) (by decide) rfl (fun _ _ _ z => z) (fun _ _ _ _ z => ⟨Or.inl ⟨rfl, rfl⟩, z⟩) (Or.inr (Or.inr (Or.inl rfl))) (fun κ hl ho hR hrt hn0 => ?_)
  subst hl
  unfold B_Pack_putInOrder
  exact (S_sq (pc1 := 12) (S_In (pc1 := 11) (E_isub (pc1 := 9) (pc2 := 10) (E_ishl (pc1 := 1) (pc2 := 8) (E_ic d_Pack_putInOrder_0 rfl) (E_fI f_Pack_106 ho (pc1 := 5) (E_fR f_Pack_46 ho (pc1 := 2) (E_aln d_Pack_putInOrder_1 rfl) d_Pack_putInOrder_2) d_Pack_putInOrder_5) d_Pack_putInOrder_8) (E_ic d_Pack_putInOrder_9 rfl) d_Pack_putInOrder_10) d_Pack_putInOrder_11 rfl)
    (S_sq (pc1 := 20) (S_In (pc1 := 19) (E_fI f_Pack_120 ho (pc1 := 16) (E_fR f_Pack_55 ho (pc1 := 13) (E_aln d_Pack_putInOrder_12 rfl) d_Pack_putInOrder_13) d_Pack_putInOrder_16) d_Pack_putInOrder_19 rfl)
    (S_sq (pc1 := 22) (S_In (pc1 := 21) (E_ic d_Pack_putInOrder_20 rfl) d_Pack_putInOrder_21 rfl)
    (S_sq (pc1 := 27) (S_FI f_Pack_31 ho (pc1 := 23) (pc2 := 24) (E_aln d_Pack_putInOrder_22 rfl) (E_ic d_Pack_putInOrder_23 rfl) d_Pack_putInOrder_24)
    (S_sq (pc1 := 87) (S_cut (S_sq (pc1 := 30) (S_I (pc1 := 28) (E_ic d_Pack_putInOrder_27 rfl) d_Pack_putInOrder_28)
    (S_lp (pT := 42) (pF := 87) (pS := 81) (pG := 84) (C_and (pc1 := 37) (J2_lt (pF := 87) (pc1 := 32) (pc2 := 34) (E_il d_Pack_putInOrder_30) (E_bi d_Pack_putInOrder_32 rfl) d_Pack_putInOrder_34 rfl) (J2_ne (pF := 87) (pc1 := 38) (pc2 := 39) (E_iln d_Pack_putInOrder_37 rfl) (E_iln d_Pack_putInOrder_38 rfl) d_Pack_putInOrder_39 rfl))
    (S_cut (S_sq (pc1 := 49) (S_I (pc1 := 47) (E_x (O_V k_Pack_142 (v_Pack_leastReady _) ⟨rfl, rfl⟩ ho (rk hR rfl) (by decide) (T := KT4) (N := 14) rfl (by decide) (pc1 := 43) (pc2 := 44) (E_aln d_Pack_putInOrder_42 rfl) (A_c catI (pc1 := 44) (E_iln d_Pack_putInOrder_43 rfl) A_n) d_Pack_putInOrder_44)) d_Pack_putInOrder_47)
    (S_sq (pc1 := 56) (S_if1 (pT := 54) (pF := 56) (J1_lt (pF := 56) (pc2 := 51) (E_il d_Pack_putInOrder_49) d_Pack_putInOrder_51 rfl) (S_rz hrt (pc1 := 55) (E_ic d_Pack_putInOrder_54 rfl) d_Pack_putInOrder_55))
    (S_sq (pc1 := 68) (S_X (O_V k_Pack_146 (v_Pack_appendNode _) ⟨rfl, rfl⟩ ho (rk hR rfl) (by decide) (T := KT4) (N := 14) rfl (by decide) (pc1 := 57) (pc2 := 65) (E_aln d_Pack_putInOrder_56 rfl) (A_c catI (pc1 := 64) (E_aI (pc1 := 61) (pc2 := 63) (E_fR f_Pack_15 ho (pc1 := 58) (E_aln d_Pack_putInOrder_57 rfl) d_Pack_putInOrder_58) (E_il d_Pack_putInOrder_61) d_Pack_putInOrder_63) (A_c catI (pc1 := 65) (E_iln d_Pack_putInOrder_64 rfl) A_n)) d_Pack_putInOrder_65))
    (S_sq (pc1 := 78) (S_In (pc1 := 77) (E_ior (pc1 := 69) (pc2 := 76) (E_iln d_Pack_putInOrder_68 rfl) (E_aI (pc1 := 73) (pc2 := 75) (E_fR f_Pack_15 ho (pc1 := 70) (E_aln d_Pack_putInOrder_69 rfl) d_Pack_putInOrder_70) (E_il d_Pack_putInOrder_73) d_Pack_putInOrder_75) d_Pack_putInOrder_76) d_Pack_putInOrder_77 rfl)
    (S_Inc d_Pack_putInOrder_78 rfl))))))
    (S_Inc d_Pack_putInOrder_81 rfl) d_Pack_putInOrder_84 rfl)))
    (S_rz hrt (pc1 := 97) (E_C (pT := 92) (pF := 96) (pc2 := 97) (J2_eq (pF := 96) (pc1 := 88) (pc2 := 89) (E_iln d_Pack_putInOrder_87 rfl) (E_iln d_Pack_putInOrder_88 rfl) d_Pack_putInOrder_89 rfl) d_Pack_putInOrder_92 d_Pack_putInOrder_93 rfl d_Pack_putInOrder_96 rfl) d_Pack_putInOrder_97))))))
theorem d_Tree_isTakenOut_0 : decode prog_10_method_4_code 0 = .ok (.aload_n 0, 1) := by decide +kernel
theorem d_Tree_isTakenOut_1 : decode prog_10_method_4_code 1 = .ok (.getfield 34, 3) := by decide +kernel
theorem d_Tree_isTakenOut_4 : decode prog_10_method_4_code 4 = .ok (.iload_n 1, 1) := by decide +kernel
theorem d_Tree_isTakenOut_5 : decode prog_10_method_4_code 5 = .ok (.invokestatic 67, 3) := by decide +kernel
theorem d_Tree_isTakenOut_8 : decode prog_10_method_4_code 8 = .ok (.ifCond .ne 27, 3) := by decide +kernel
theorem d_Tree_isTakenOut_11 : decode prog_10_method_4_code 11 = .ok (.aload_n 0, 1) := by decide +kernel
theorem d_Tree_isTakenOut_12 : decode prog_10_method_4_code 12 = .ok (.getfield 44, 3) := by decide +kernel
theorem d_Tree_isTakenOut_15 : decode prog_10_method_4_code 15 = .ok (.getfield 78, 3) := by decide +kernel
theorem d_Tree_isTakenOut_18 : decode prog_10_method_4_code 18 = .ok (.iload_n 1, 1) := by decide +kernel
theorem d_Tree_isTakenOut_19 : decode prog_10_method_4_code 19 = .ok (.iaload, 1) := by decide +kernel
theorem d_Tree_isTakenOut_20 : decode prog_10_method_4_code 20 = .ok (.aload_n 0, 1) := by decide +kernel
theorem d_Tree_isTakenOut_21 : decode prog_10_method_4_code 21 = .ok (.getfield 19, 3) := by decide +kernel
theorem d_Tree_isTakenOut_24 : decode prog_10_method_4_code 24 = .ok (.aload_n 0, 1) := by decide +kernel
theorem d_Tree_isTakenOut_25 : decode prog_10_method_4_code 25 = .ok (.getfield 31, 3) := by decide +kernel
theorem d_Tree_isTakenOut_28 : decode prog_10_method_4_code 28 = .ok (.ior, 1) := by decide +kernel
theorem d_Tree_isTakenOut_29 : decode prog_10_method_4_code 29 = .ok (.iconst (-1), 1) := by decide +kernel
theorem d_Tree_isTakenOut_30 : decode prog_10_method_4_code 30 = .ok (.ixor, 1) := by decide +kernel
theorem d_Tree_isTakenOut_31 : decode prog_10_method_4_code 31 = .ok (.iand, 1) := by decide +kernel
theorem d_Tree_isTakenOut_32 : decode prog_10_method_4_code 32 = .ok (.ifCond .eq 7, 3) := by decide +kernel
theorem d_Tree_isTakenOut_35 : decode prog_10_method_4_code 35 = .ok (.iconst 1, 1) := by decide +kernel
theorem d_Tree_isTakenOut_36 : decode prog_10_method_4_code 36 = .ok (.goto 4, 3) := by decide +kernel
theorem d_Tree_isTakenOut_39 : decode prog_10_method_4_code 39 = .ok (.iconst 0, 1) := by decide +kernel
theorem d_Tree_isTakenOut_40 : decode prog_10_method_4_code 40 = .ok (.ireturn, 1) := by decide +kernel
def B_Tree_isTakenOut (_ : Nat × Nat) : PS :=
  (sRz (eC (cO (e1 (fun x : Int32 => decide (¬ x = 0)) (eX .int (xS 2 X_PL_holds (aC .int (eFI 8 9 (eR 0)) (aC .int (eI 1) aN))))) (e1 (fun x : Int32 => decide (¬ x = 0)) (e2 (fun x y : Int32 => x &&& y) (eAI (eFR 2 3 (eFR 8 1 (eR 0))) (eI 1)) (e2 (fun x y : Int32 => x ^^^ y) (e2 (fun x y : Int32 => x ||| y) (eFI 8 4 (eR 0)) (eFI 8 8 (eR 0))) (eV (-1 : Int32))))))))
def X_Tree_isTakenOut : PM := fun vs h Q => (lx vs).length ≤ 2 ∧ B_Tree_isTakenOut (h.length + 0, hsz h + 0) (fun _ _ => False) (fun _ _ => False) (fun _ _ => False) Q (lini 2 vs) h
theorem v_Tree_isTakenOut (l : Launch) : Ctr l y_Tree_isTakenOut prog_10_method_4_code 2 (some .boolean) rm_Tree_isTakenOut X_Tree_isTakenOut := by
  refine Ctr_of (own := "PackLanes$Tree") (B := B_Tree_isTakenOut) (KR := fun _ Q => Q) (by decide) rfl (fun _ _ _ z => z) (fun _ _ _ _ z => ⟨Or.inl ⟨rfl, rfl⟩, z⟩) (Or.inr (Or.inr (Or.inl rfl))) (fun κ hl ho hR hrt hn0 => ?_)
  subst hl
  unfold B_Tree_isTakenOut
  exact (S_rz hrt (pc1 := 40) (E_C (pT := 35) (pF := 39) (pc2 := 40) (C_or (pc1 := 11) (T1_ne (pT := 35) (pc2 := 8) (E_x (O_SN k_Tree_67 (v_PL_holds _) ⟨rfl, rfl⟩ ho (rk hR rfl) (by decide) (pc2 := 5) (A_c catI (pc1 := 4) (E_fI f_Tree_34 ho (pc1 := 1) (E_aln d_Tree_isTakenOut_0 rfl) d_Tree_isTakenOut_1) (A_c catI (pc1 := 5) (E_iln d_Tree_isTakenOut_4 rfl) A_n)) d_Tree_isTakenOut_5)) d_Tree_isTakenOut_8 rfl) (J1_ne (pF := 39) (pc2 := 32) (E_iand (pc1 := 20) (pc2 := 31) (E_aI (pc1 := 18) (pc2 := 19) (E_fR f_Tree_78 ho (pc1 := 15) (E_fR f_Tree_44 ho (pc1 := 12) (E_aln d_Tree_isTakenOut_11 rfl) d_Tree_isTakenOut_12) d_Tree_isTakenOut_15) (E_iln d_Tree_isTakenOut_18 rfl) d_Tree_isTakenOut_19) (E_ixor (pc1 := 29) (pc2 := 30) (E_ior (pc1 := 24) (pc2 := 28) (E_fI f_Tree_19 ho (pc1 := 21) (E_aln d_Tree_isTakenOut_20 rfl) d_Tree_isTakenOut_21) (E_fI f_Tree_31 ho (pc1 := 25) (E_aln d_Tree_isTakenOut_24 rfl) d_Tree_isTakenOut_25) d_Tree_isTakenOut_28) (E_ic d_Tree_isTakenOut_29 rfl) d_Tree_isTakenOut_30) d_Tree_isTakenOut_31) d_Tree_isTakenOut_32 rfl)) d_Tree_isTakenOut_35 d_Tree_isTakenOut_36 rfl d_Tree_isTakenOut_39 rfl) d_Tree_isTakenOut_40)
theorem d_Tree_gain_0 : decode prog_10_method_3_code 0 = .ok (.aload_n 0, 1) := by decide +kernel
theorem d_Tree_gain_1 : decode prog_10_method_3_code 1 = .ok (.getfield 28, 3) := by decide +kernel
theorem d_Tree_gain_4 : decode prog_10_method_3_code 4 = .ok (.iconst 1, 1) := by decide +kernel
theorem d_Tree_gain_5 : decode prog_10_method_3_code 5 = .ok (.isub, 1) := by decide +kernel
theorem d_Tree_gain_6 : decode prog_10_method_3_code 6 = .ok (.aload_n 0, 1) := by decide +kernel
theorem d_Tree_gain_7 : decode prog_10_method_3_code 7 = .ok (.getfield 15, 3) := by decide +kernel
theorem d_Tree_gain_10 : decode prog_10_method_3_code 10 = .ok (.imul, 1) := by decide +kernel
theorem d_Tree_gain_11 : decode prog_10_method_3_code 11 = .ok (.aload_n 0, 1) := by decide +kernel
theorem d_Tree_gain_12 : decode prog_10_method_3_code 12 = .ok (.getfield 37, 3) := by decide +kernel
theorem d_Tree_gain_15 : decode prog_10_method_3_code 15 = .ok (.isub, 1) := by decide +kernel
theorem d_Tree_gain_16 : decode prog_10_method_3_code 16 = .ok (.istore_n 1, 1) := by decide +kernel
theorem d_Tree_gain_17 : decode prog_10_method_3_code 17 = .ok (.iconst 0, 1) := by decide +kernel
theorem d_Tree_gain_18 : decode prog_10_method_3_code 18 = .ok (.istore_n 2, 1) := by decide +kernel
theorem d_Tree_gain_19 : decode prog_10_method_3_code 19 = .ok (.iload_n 2, 1) := by decide +kernel
theorem d_Tree_gain_20 : decode prog_10_method_3_code 20 = .ok (.aload_n 0, 1) := by decide +kernel
theorem d_Tree_gain_21 : decode prog_10_method_3_code 21 = .ok (.getfield 40, 3) := by decide +kernel
theorem d_Tree_gain_24 : decode prog_10_method_3_code 24 = .ok (.getfield 62, 3) := by decide +kernel
theorem d_Tree_gain_27 : decode prog_10_method_3_code 27 = .ok (.if_icmp .ge 45, 3) := by decide +kernel
theorem d_Tree_gain_30 : decode prog_10_method_3_code 30 = .ok (.aload_n 0, 1) := by decide +kernel
theorem d_Tree_gain_31 : decode prog_10_method_3_code 31 = .ok (.getfield 19, 3) := by decide +kernel
theorem d_Tree_gain_34 : decode prog_10_method_3_code 34 = .ok (.iload_n 2, 1) := by decide +kernel
theorem d_Tree_gain_35 : decode prog_10_method_3_code 35 = .ok (.invokestatic 67, 3) := by decide +kernel
theorem d_Tree_gain_38 : decode prog_10_method_3_code 38 = .ok (.ifCond .eq 28, 3) := by decide +kernel
theorem d_Tree_gain_41 : decode prog_10_method_3_code 41 = .ok (.aload_n 0, 1) := by decide +kernel
theorem d_Tree_gain_42 : decode prog_10_method_3_code 42 = .ok (.getfield 40, 3) := by decide +kernel
theorem d_Tree_gain_45 : decode prog_10_method_3_code 45 = .ok (.getfield 71, 3) := by decide +kernel
theorem d_Tree_gain_48 : decode prog_10_method_3_code 48 = .ok (.iload_n 2, 1) := by decide +kernel
theorem d_Tree_gain_49 : decode prog_10_method_3_code 49 = .ok (.iaload, 1) := by decide +kernel
theorem d_Tree_gain_50 : decode prog_10_method_3_code 50 = .ok (.bipush 6, 2) := by decide +kernel
theorem d_Tree_gain_52 : decode prog_10_method_3_code 52 = .ok (.if_icmp .eq 14, 3) := by decide +kernel
theorem d_Tree_gain_55 : decode prog_10_method_3_code 55 = .ok (.aload_n 0, 1) := by decide +kernel
theorem d_Tree_gain_56 : decode prog_10_method_3_code 56 = .ok (.iload_n 2, 1) := by decide +kernel
theorem d_Tree_gain_57 : decode prog_10_method_3_code 57 = .ok (.invokevirtual 74, 3) := by decide +kernel
theorem d_Tree_gain_60 : decode prog_10_method_3_code 60 = .ok (.ifCond .eq 6, 3) := by decide +kernel
theorem d_Tree_gain_63 : decode prog_10_method_3_code 63 = .ok (.iinc 1 (-1), 3) := by decide +kernel
theorem d_Tree_gain_66 : decode prog_10_method_3_code 66 = .ok (.iinc 2 1, 3) := by decide +kernel
theorem d_Tree_gain_69 : decode prog_10_method_3_code 69 = .ok (.goto (-50), 3) := by decide +kernel
theorem d_Tree_gain_72 : decode prog_10_method_3_code 72 = .ok (.iload_n 1, 1) := by decide +kernel
theorem d_Tree_gain_73 : decode prog_10_method_3_code 73 = .ok (.ireturn, 1) := by decide +kernel
def B_Tree_gain (_ : Nat × Nat) : PS :=
  (sSq (sI 1 (e2 (fun x y : Int32 => x - y) (e2 (fun x y : Int32 => x * y) (e2 (fun x y : Int32 => x - y) (eFI 8 7 (eR 0)) (eV (1 : Int32))) (eFI 8 3 (eR 0))) (eFI 8 10 (eR 0))))
    (sSq (sCut 2 (sSq (sI 2 (eV (0 : Int32)))
    (sLp 3 (e2 (fun x y : Int32 => decide (x < y)) (eI 2) (eFI 1 6 (eFR 8 0 (eR 0))))
    (sIf (cA (cA (e1 (fun x : Int32 => decide (¬ x = 0)) (eX .int (xS 2 X_PL_holds (aC .int (eFI 8 4 (eR 0)) (aC .int (eI 2) aN))))) (e2 (fun x y : Int32 => decide (¬ x = y)) (eAI (eFR 1 0 (eFR 8 0 (eR 0))) (eI 2)) (eV (6 : Int32)))) (e1 (fun x : Int32 => decide (¬ x = 0)) (eX .int (xV 8 1 X_Tree_isTakenOut (eR 0) (aC .int (eI 2) aN))))) (sInc 1 (-1)) sSk)
    (sInc 2 (1)))))
    (sRt .int (eI 1))))
def X_Tree_gain : PM := fun vs h Q => (lx vs).length ≤ 3 ∧ B_Tree_gain (h.length + 0, hsz h + 0) (fun _ _ => False) (fun _ _ => False) (fun _ _ => False) Q (lini 3 vs) h
theorem v_Tree_gain (l : Launch) : Ctr l y_Tree_gain prog_10_method_3_code 3 (some .int) rm_Tree_gain X_Tree_gain := by
  refine Ctr_of (own := "PackLanes$Tree") (B := B_Tree_gain) (KR := fun _ Q => Q) (by decide) rfl (fun _ _ _ z => z) (fun _ _ _ _ z => ⟨Or.inl ⟨rfl, rfl⟩, z⟩) (Or.inr (Or.inl rfl)) (fun κ hl ho hR hrt hn0 => ?_)
  subst hl
  unfold B_Tree_gain
  exact (S_sq (pc1 := 17) (S_In (pc1 := 16) (E_isub (pc1 := 11) (pc2 := 15) (E_imul (pc1 := 6) (pc2 := 10) (E_isub (pc1 := 4) (pc2 := 5) (E_fI f_Tree_28 ho (pc1 := 1) (E_aln d_Tree_gain_0 rfl) d_Tree_gain_1) (E_ic d_Tree_gain_4 rfl) d_Tree_gain_5) (E_fI f_Tree_15 ho (pc1 := 7) (E_aln d_Tree_gain_6 rfl) d_Tree_gain_7) d_Tree_gain_10) (E_fI f_Tree_37 ho (pc1 := 12) (E_aln d_Tree_gain_11 rfl) d_Tree_gain_12) d_Tree_gain_15) d_Tree_gain_16 rfl)
    (S_sq (pc1 := 72) (S_cut (S_sq (pc1 := 19) (S_In (pc1 := 18) (E_ic d_Tree_gain_17 rfl) d_Tree_gain_18 rfl)
    (S_lp (pT := 30) (pF := 72) (pS := 66) (pG := 69) (J2_lt (pF := 72) (pc1 := 20) (pc2 := 27) (E_iln d_Tree_gain_19 rfl) (E_fI f_Tree_62 ho (pc1 := 24) (E_fR f_Tree_40 ho (pc1 := 21) (E_aln d_Tree_gain_20 rfl) d_Tree_gain_21) d_Tree_gain_24) d_Tree_gain_27 rfl)
    (S_if1 (pT := 63) (pF := 66) (C_and (pc1 := 55) (C_and (pc1 := 41) (J1_ne (pF := 66) (pc2 := 38) (E_x (O_SN k_Tree_67 (v_PL_holds _) ⟨rfl, rfl⟩ ho (rk hR rfl) (by decide) (pc2 := 35) (A_c catI (pc1 := 34) (E_fI f_Tree_19 ho (pc1 := 31) (E_aln d_Tree_gain_30 rfl) d_Tree_gain_31) (A_c catI (pc1 := 35) (E_iln d_Tree_gain_34 rfl) A_n)) d_Tree_gain_35)) d_Tree_gain_38 rfl) (J2_ne (pF := 66) (pc1 := 50) (pc2 := 52) (E_aI (pc1 := 48) (pc2 := 49) (E_fR f_Tree_71 ho (pc1 := 45) (E_fR f_Tree_40 ho (pc1 := 42) (E_aln d_Tree_gain_41 rfl) d_Tree_gain_42) d_Tree_gain_45) (E_iln d_Tree_gain_48 rfl) d_Tree_gain_49) (E_bi d_Tree_gain_50 rfl) d_Tree_gain_52 rfl)) (J1_ne (pF := 66) (pc2 := 60) (E_x (O_V k_Tree_74 (v_Tree_isTakenOut _) ⟨rfl, rfl⟩ ho (rk hR rfl) (by decide) (T := KT8) (N := 11) rfl (by decide) (pc1 := 56) (pc2 := 57) (E_aln d_Tree_gain_55 rfl) (A_c catI (pc1 := 57) (E_iln d_Tree_gain_56 rfl) A_n) d_Tree_gain_57)) d_Tree_gain_60 rfl)) (S_Inc d_Tree_gain_63 rfl))
    (S_Inc d_Tree_gain_66 rfl) d_Tree_gain_69 rfl)))
    (S_ri hrt (pc1 := 73) (E_iln d_Tree_gain_72 rfl) d_Tree_gain_73)))
theorem d_Tree_addPack_0 : decode prog_10_method_8_code 0 = .ok (.aload_n 0, 1) := by decide +kernel
theorem d_Tree_addPack_1 : decode prog_10_method_8_code 1 = .ok (.getfield 15, 3) := by decide +kernel
theorem d_Tree_addPack_4 : decode prog_10_method_8_code 4 = .ok (.bipush 8, 2) := by decide +kernel
theorem d_Tree_addPack_6 : decode prog_10_method_8_code 6 = .ok (.if_icmp .ge 40, 3) := by decide +kernel
theorem d_Tree_addPack_9 : decode prog_10_method_8_code 9 = .ok (.aload_n 0, 1) := by decide +kernel
theorem d_Tree_addPack_10 : decode prog_10_method_8_code 10 = .ok (.getfield 11, 3) := by decide +kernel
theorem d_Tree_addPack_13 : decode prog_10_method_8_code 13 = .ok (.aload_n 0, 1) := by decide +kernel
theorem d_Tree_addPack_14 : decode prog_10_method_8_code 14 = .ok (.getfield 15, 3) := by decide +kernel
theorem d_Tree_addPack_17 : decode prog_10_method_8_code 17 = .ok (.iload_n 1, 1) := by decide +kernel
theorem d_Tree_addPack_18 : decode prog_10_method_8_code 18 = .ok (.iastore, 1) := by decide +kernel
theorem d_Tree_addPack_19 : decode prog_10_method_8_code 19 = .ok (.aload_n 0, 1) := by decide +kernel
theorem d_Tree_addPack_20 : decode prog_10_method_8_code 20 = .ok (.dup, 1) := by decide +kernel
theorem d_Tree_addPack_21 : decode prog_10_method_8_code 21 = .ok (.getfield 15, 3) := by decide +kernel
theorem d_Tree_addPack_24 : decode prog_10_method_8_code 24 = .ok (.iconst 1, 1) := by decide +kernel
theorem d_Tree_addPack_25 : decode prog_10_method_8_code 25 = .ok (.iadd, 1) := by decide +kernel
theorem d_Tree_addPack_26 : decode prog_10_method_8_code 26 = .ok (.putfield 15, 3) := by decide +kernel
theorem d_Tree_addPack_29 : decode prog_10_method_8_code 29 = .ok (.aload_n 0, 1) := by decide +kernel
theorem d_Tree_addPack_30 : decode prog_10_method_8_code 30 = .ok (.dup, 1) := by decide +kernel
theorem d_Tree_addPack_31 : decode prog_10_method_8_code 31 = .ok (.getfield 19, 3) := by decide +kernel
theorem d_Tree_addPack_34 : decode prog_10_method_8_code 34 = .ok (.iload_n 1, 1) := by decide +kernel
theorem d_Tree_addPack_35 : decode prog_10_method_8_code 35 = .ok (.aload_n 0, 1) := by decide +kernel
theorem d_Tree_addPack_36 : decode prog_10_method_8_code 36 = .ok (.getfield 28, 3) := by decide +kernel
theorem d_Tree_addPack_39 : decode prog_10_method_8_code 39 = .ok (.invokestatic 86, 3) := by decide +kernel
theorem d_Tree_addPack_42 : decode prog_10_method_8_code 42 = .ok (.ior, 1) := by decide +kernel
theorem d_Tree_addPack_43 : decode prog_10_method_8_code 43 = .ok (.putfield 19, 3) := by decide +kernel
theorem d_Tree_addPack_46 : decode prog_10_method_8_code 46 = .ok (.return_, 1) := by decide +kernel
def B_Tree_addPack (_ : Nat × Nat) : PS :=
  (sSq (sIf (e2 (fun x y : Int32 => decide (x < y)) (eFI 8 3 (eR 0)) (eV (8 : Int32))) (sSq (sAI (eFR 8 2 (eR 0)) (eFI 8 3 (eR 0)) (eI 1))
    (sSq (sFO 8 3 (fun x y : Int32 => x + y) (eR 0) (eV (1 : Int32)))
    (sFO 8 4 (fun x y : Int32 => x ||| y) (eR 0) (eX .int (xS 2 X_PL_setOf (aC .int (eI 1) (aC .int (eFI 8 7 (eR 0)) aN))))))) sSk)
    sRv)
def X_Tree_addPack : PM := fun vs h Q => (lx vs).length ≤ 2 ∧ B_Tree_addPack (h.length + 0, hsz h + 0) (fun _ _ => False) (fun _ _ => False) (fun _ _ => False) Q (lini 2 vs) h
theorem v_Tree_addPack (l : Launch) : Ctr l y_Tree_addPack prog_10_method_8_code 2 none rm_Tree_addPack X_Tree_addPack := by
  refine Ctr_of (own := "PackLanes$Tree") (B := B_Tree_addPack) (KR := fun _ Q => Q) (by decide) rfl (fun _ _ _ z => z) (fun _ _ _ _ z => ⟨Or.inl ⟨rfl, rfl⟩, z⟩) (Or.inl rfl) (fun κ hl ho hR hrt hn0 => ?_)
  subst hl
  unfold B_Tree_addPack
  exact (S_sq (pc1 := 46) (S_if1 (pT := 9) (pF := 46) (J2_lt (pF := 46) (pc1 := 4) (pc2 := 6) (E_fI f_Tree_15 ho (pc1 := 1) (E_aln d_Tree_addPack_0 rfl) d_Tree_addPack_1) (E_bi d_Tree_addPack_4 rfl) d_Tree_addPack_6 rfl) (S_sq (pc1 := 19) (S_AI (pc1 := 13) (pc2 := 17) (pc3 := 18) (E_fR f_Tree_11 ho (pc1 := 10) (E_aln d_Tree_addPack_9 rfl) d_Tree_addPack_10) (E_fI f_Tree_15 ho (pc1 := 14) (E_aln d_Tree_addPack_13 rfl) d_Tree_addPack_14) (E_iln d_Tree_addPack_17 rfl) d_Tree_addPack_18)
    (S_sq (pc1 := 29) (S_FO f_Tree_15 f_Tree_15 ho (pc1 := 20) (pc2 := 25) (E_aln d_Tree_addPack_19 rfl) d_Tree_addPack_20 d_Tree_addPack_21 (E_ic d_Tree_addPack_24 rfl) (fun _ _ _ _ _ k => r_iadd d_Tree_addPack_25 k) d_Tree_addPack_26)
    (S_FO f_Tree_19 f_Tree_19 ho (pc1 := 30) (pc2 := 42) (E_aln d_Tree_addPack_29 rfl) d_Tree_addPack_30 d_Tree_addPack_31 (E_x (O_SN k_Tree_86 (v_PL_setOf _) ⟨rfl, rfl⟩ ho (rk hR rfl) (by decide) (pc2 := 39) (A_c catI (pc1 := 35) (E_iln d_Tree_addPack_34 rfl) (A_c catI (pc1 := 39) (E_fI f_Tree_28 ho (pc1 := 36) (E_aln d_Tree_addPack_35 rfl) d_Tree_addPack_36) A_n)) d_Tree_addPack_39)) (fun _ _ _ _ _ k => r_ior d_Tree_addPack_42 k) d_Tree_addPack_43))))
    (S_rv hrt d_Tree_addPack_46))
theorem d_Tree_append_0 : decode prog_10_method_9_code 0 = .ok (.aload_n 0, 1) := by decide +kernel
theorem d_Tree_append_1 : decode prog_10_method_9_code 1 = .ok (.getfield 25, 3) := by decide +kernel
theorem d_Tree_append_4 : decode prog_10_method_9_code 4 = .ok (.bipush 16, 2) := by decide +kernel
theorem d_Tree_append_6 : decode prog_10_method_9_code 6 = .ok (.if_icmp .ge 23, 3) := by decide +kernel
theorem d_Tree_append_9 : decode prog_10_method_9_code 9 = .ok (.aload_n 0, 1) := by decide +kernel
theorem d_Tree_append_10 : decode prog_10_method_9_code 10 = .ok (.getfield 22, 3) := by decide +kernel
theorem d_Tree_append_13 : decode prog_10_method_9_code 13 = .ok (.aload_n 0, 1) := by decide +kernel
theorem d_Tree_append_14 : decode prog_10_method_9_code 14 = .ok (.getfield 25, 3) := by decide +kernel
theorem d_Tree_append_17 : decode prog_10_method_9_code 17 = .ok (.iload_n 1, 1) := by decide +kernel
theorem d_Tree_append_18 : decode prog_10_method_9_code 18 = .ok (.iastore, 1) := by decide +kernel
theorem d_Tree_append_19 : decode prog_10_method_9_code 19 = .ok (.aload_n 0, 1) := by decide +kernel
theorem d_Tree_append_20 : decode prog_10_method_9_code 20 = .ok (.dup, 1) := by decide +kernel
theorem d_Tree_append_21 : decode prog_10_method_9_code 21 = .ok (.getfield 25, 3) := by decide +kernel
theorem d_Tree_append_24 : decode prog_10_method_9_code 24 = .ok (.iconst 1, 1) := by decide +kernel
theorem d_Tree_append_25 : decode prog_10_method_9_code 25 = .ok (.iadd, 1) := by decide +kernel
theorem d_Tree_append_26 : decode prog_10_method_9_code 26 = .ok (.putfield 25, 3) := by decide +kernel
theorem d_Tree_append_29 : decode prog_10_method_9_code 29 = .ok (.return_, 1) := by decide +kernel
def B_Tree_append (_ : Nat × Nat) : PS :=
  (sSq (sIf (e2 (fun x y : Int32 => decide (x < y)) (eFI 8 6 (eR 0)) (eV (16 : Int32))) (sSq (sAI (eFR 8 5 (eR 0)) (eFI 8 6 (eR 0)) (eI 1))
    (sFO 8 6 (fun x y : Int32 => x + y) (eR 0) (eV (1 : Int32)))) sSk)
    sRv)
def X_Tree_append : PM := fun vs h Q => (lx vs).length ≤ 2 ∧ B_Tree_append (h.length + 0, hsz h + 0) (fun _ _ => False) (fun _ _ => False) (fun _ _ => False) Q (lini 2 vs) h
theorem v_Tree_append (l : Launch) : Ctr l y_Tree_append prog_10_method_9_code 2 none rm_Tree_append X_Tree_append := by
  refine Ctr_of (own := "PackLanes$Tree") (B := B_Tree_append) (KR := fun _ Q => Q) (by decide) rfl (fun _ _ _ z => z) (fun _ _ _ _ z => ⟨Or.inl ⟨rfl, rfl⟩, z⟩) (Or.inl rfl) (fun κ hl ho hR hrt hn0 => ?_)
  subst hl
  unfold B_Tree_append
  exact (S_sq (pc1 := 29) (S_if1 (pT := 9) (pF := 29) (J2_lt (pF := 29) (pc1 := 4) (pc2 := 6) (E_fI f_Tree_25 ho (pc1 := 1) (E_aln d_Tree_append_0 rfl) d_Tree_append_1) (E_bi d_Tree_append_4 rfl) d_Tree_append_6 rfl) (S_sq (pc1 := 19) (S_AI (pc1 := 13) (pc2 := 17) (pc3 := 18) (E_fR f_Tree_22 ho (pc1 := 10) (E_aln d_Tree_append_9 rfl) d_Tree_append_10) (E_fI f_Tree_25 ho (pc1 := 14) (E_aln d_Tree_append_13 rfl) d_Tree_append_14) (E_iln d_Tree_append_17 rfl) d_Tree_append_18)
    (S_FO f_Tree_25 f_Tree_25 ho (pc1 := 20) (pc2 := 25) (E_aln d_Tree_append_19 rfl) d_Tree_append_20 d_Tree_append_21 (E_ic d_Tree_append_24 rfl) (fun _ _ _ _ _ k => r_iadd d_Tree_append_25 k) d_Tree_append_26)))
    (S_rv hrt d_Tree_append_29))
theorem d_Tree_operands_0 : decode prog_10_method_10_code 0 = .ok (.iconst 0, 1) := by decide +kernel
theorem d_Tree_operands_1 : decode prog_10_method_10_code 1 = .ok (.istore_n 3, 1) := by decide +kernel
theorem d_Tree_operands_2 : decode prog_10_method_10_code 2 = .ok (.iconst 0, 1) := by decide +kernel
theorem d_Tree_operands_3 : decode prog_10_method_10_code 3 = .ok (.istore 4, 2) := by decide +kernel
theorem d_Tree_operands_5 : decode prog_10_method_10_code 5 = .ok (.iload 4, 2) := by decide +kernel
theorem d_Tree_operands_7 : decode prog_10_method_10_code 7 = .ok (.aload_n 0, 1) := by decide +kernel
theorem d_Tree_operands_8 : decode prog_10_method_10_code 8 = .ok (.getfield 28, 3) := by decide +kernel
theorem d_Tree_operands_11 : decode prog_10_method_10_code 11 = .ok (.if_icmp .ge 56, 3) := by decide +kernel
theorem d_Tree_operands_14 : decode prog_10_method_10_code 14 = .ok (.iload_n 1, 1) := by decide +kernel
theorem d_Tree_operands_15 : decode prog_10_method_10_code 15 = .ok (.iload 4, 2) := by decide +kernel
theorem d_Tree_operands_17 : decode prog_10_method_10_code 17 = .ok (.invokestatic 89, 3) := by decide +kernel
theorem d_Tree_operands_20 : decode prog_10_method_10_code 20 = .ok (.istore 5, 2) := by decide +kernel
theorem d_Tree_operands_22 : decode prog_10_method_10_code 22 = .ok (.iload_n 3, 1) := by decide +kernel
theorem d_Tree_operands_23 : decode prog_10_method_10_code 23 = .ok (.iload 4, 2) := by decide +kernel
theorem d_Tree_operands_25 : decode prog_10_method_10_code 25 = .ok (.iload_n 2, 1) := by decide +kernel
theorem d_Tree_operands_26 : decode prog_10_method_10_code 26 = .ok (.iload 4, 2) := by decide +kernel
theorem d_Tree_operands_28 : decode prog_10_method_10_code 28 = .ok (.invokestatic 67, 3) := by decide +kernel
theorem d_Tree_operands_31 : decode prog_10_method_10_code 31 = .ok (.ifCond .eq 16, 3) := by decide +kernel
theorem d_Tree_operands_34 : decode prog_10_method_10_code 34 = .ok (.aload_n 0, 1) := by decide +kernel
theorem d_Tree_operands_35 : decode prog_10_method_10_code 35 = .ok (.getfield 40, 3) := by decide +kernel
theorem d_Tree_operands_38 : decode prog_10_method_10_code 38 = .ok (.getfield 107, 3) := by decide +kernel
theorem d_Tree_operands_41 : decode prog_10_method_10_code 41 = .ok (.iload 5, 2) := by decide +kernel
theorem d_Tree_operands_43 : decode prog_10_method_10_code 43 = .ok (.iaload, 1) := by decide +kernel
theorem d_Tree_operands_44 : decode prog_10_method_10_code 44 = .ok (.goto 13, 3) := by decide +kernel
theorem d_Tree_operands_47 : decode prog_10_method_10_code 47 = .ok (.aload_n 0, 1) := by decide +kernel
theorem d_Tree_operands_48 : decode prog_10_method_10_code 48 = .ok (.getfield 40, 3) := by decide +kernel
theorem d_Tree_operands_51 : decode prog_10_method_10_code 51 = .ok (.getfield 110, 3) := by decide +kernel
theorem d_Tree_operands_54 : decode prog_10_method_10_code 54 = .ok (.iload 5, 2) := by decide +kernel
theorem d_Tree_operands_56 : decode prog_10_method_10_code 56 = .ok (.iaload, 1) := by decide +kernel
theorem d_Tree_operands_57 : decode prog_10_method_10_code 57 = .ok (.invokestatic 113, 3) := by decide +kernel
theorem d_Tree_operands_60 : decode prog_10_method_10_code 60 = .ok (.istore_n 3, 1) := by decide +kernel
theorem d_Tree_operands_61 : decode prog_10_method_10_code 61 = .ok (.iinc 4 1, 3) := by decide +kernel
theorem d_Tree_operands_64 : decode prog_10_method_10_code 64 = .ok (.goto (-59), 3) := by decide +kernel
theorem d_Tree_operands_67 : decode prog_10_method_10_code 67 = .ok (.iload_n 3, 1) := by decide +kernel
theorem d_Tree_operands_68 : decode prog_10_method_10_code 68 = .ok (.ireturn, 1) := by decide +kernel
def B_Tree_operands (_ : Nat × Nat) : PS :=
  (sSq (sI 3 (eV (0 : Int32)))
    (sSq (sCut 4 (sSq (sI 4 (eV (0 : Int32)))
    (sLp 5 (e2 (fun x y : Int32 => decide (x < y)) (eI 4) (eFI 8 7 (eR 0)))
    (sCut 5 (sSq (sI 5 (eX .int (xS 2 X_PL_inLane (aC .int (eI 1) (aC .int (eI 4) aN)))))
    (sI 3 (eX .int (xS 3 X_PL_withLane (aC .int (eI 3) (aC .int (eI 4) (aC .int (eIf (e1 (fun x : Int32 => decide (¬ x = 0)) (eX .int (xS 2 X_PL_holds (aC .int (eI 2) (aC .int (eI 4) aN))))) (eAI (eFR 1 5 (eFR 8 0 (eR 0))) (eI 5)) (eAI (eFR 1 4 (eFR 8 0 (eR 0))) (eI 5))) aN))))))))
    (sInc 4 (1)))))
    (sRt .int (eI 3))))
def X_Tree_operands : PM := fun vs h Q => (lx vs).length ≤ 6 ∧ B_Tree_operands (h.length + 0, hsz h + 0) (fun _ _ => False) (fun _ _ => False) (fun _ _ => False) Q (lini 6 vs) h
theorem v_Tree_operands (l : Launch) : Ctr l y_Tree_operands prog_10_method_10_code 6 (some .int) rm_Tree_operands X_Tree_operands := by
  refine Ctr_of (own := "PackLanes$Tree") (B := B_Tree_operands) (KR := fun _ Q => Q) (by decide) rfl (fun _ _ _ z => z) (fun _ _ _ _ z => ⟨Or.inl ⟨rfl, rfl⟩, z⟩) (Or.inr (Or.inl rfl)) (fun κ hl ho hR hrt hn0 => ?_)
  subst hl
  unfold B_Tree_operands
  exact (S_sq (pc1 := 2) (S_In (pc1 := 1) (E_ic d_Tree_operands_0 rfl) d_Tree_operands_1 rfl)
    (S_sq (pc1 := 67) (S_cut (S_sq (pc1 := 5) (S_I (pc1 := 3) (E_ic d_Tree_operands_2 rfl) d_Tree_operands_3)
    (S_lp (pT := 14) (pF := 67) (pS := 61) (pG := 64) (J2_lt (pF := 67) (pc1 := 7) (pc2 := 11) (E_il d_Tree_operands_5) (E_fI f_Tree_28 ho (pc1 := 8) (E_aln d_Tree_operands_7 rfl) d_Tree_operands_8) d_Tree_operands_11 rfl)
    (S_cut (S_sq (pc1 := 22) (S_I (pc1 := 20) (E_x (O_SN k_Tree_89 (v_PL_inLane _) ⟨rfl, rfl⟩ ho (rk hR rfl) (by decide) (pc2 := 17) (A_c catI (pc1 := 15) (E_iln d_Tree_operands_14 rfl) (A_c catI (pc1 := 17) (E_il d_Tree_operands_15) A_n)) d_Tree_operands_17)) d_Tree_operands_20)
    (S_In (pc1 := 60) (E_x (O_SN k_Tree_113 (v_PL_withLane _) ⟨rfl, rfl⟩ ho (rk hR rfl) (by decide) (pc2 := 57) (A_c catI (pc1 := 23) (E_iln d_Tree_operands_22 rfl) (A_c catI (pc1 := 25) (E_il d_Tree_operands_23) (A_c catI (pc1 := 57) (E_if (pT := 34) (pF := 47) (pc1 := 44) (pc2 := 57) (J1_ne (pF := 47) (pc2 := 31) (E_x (O_SN k_Tree_67 (v_PL_holds _) ⟨rfl, rfl⟩ ho (rk hR rfl) (by decide) (pc2 := 28) (A_c catI (pc1 := 26) (E_iln d_Tree_operands_25 rfl) (A_c catI (pc1 := 28) (E_il d_Tree_operands_26) A_n)) d_Tree_operands_28)) d_Tree_operands_31 rfl) (E_aI (pc1 := 41) (pc2 := 43) (E_fR f_Tree_107 ho (pc1 := 38) (E_fR f_Tree_40 ho (pc1 := 35) (E_aln d_Tree_operands_34 rfl) d_Tree_operands_35) d_Tree_operands_38) (E_il d_Tree_operands_41) d_Tree_operands_43) d_Tree_operands_44 rfl (E_aI (pc1 := 54) (pc2 := 56) (E_fR f_Tree_110 ho (pc1 := 51) (E_fR f_Tree_40 ho (pc1 := 48) (E_aln d_Tree_operands_47 rfl) d_Tree_operands_48) d_Tree_operands_51) (E_il d_Tree_operands_54) d_Tree_operands_56)) A_n))) d_Tree_operands_57)) d_Tree_operands_60 rfl)))
    (S_Inc d_Tree_operands_61 rfl) d_Tree_operands_64 rfl)))
    (S_ri hrt (pc1 := 68) (E_iln d_Tree_operands_67 rfl) d_Tree_operands_68)))
theorem d_Tree_turnedLanes_0 : decode prog_10_method_11_code 0 = .ok (.iload_n 1, 1) := by decide +kernel
theorem d_Tree_turnedLanes_1 : decode prog_10_method_11_code 1 = .ok (.iconst 0, 1) := by decide +kernel
theorem d_Tree_turnedLanes_2 : decode prog_10_method_11_code 2 = .ok (.invokestatic 89, 3) := by decide +kernel
theorem d_Tree_turnedLanes_5 : decode prog_10_method_11_code 5 = .ok (.istore_n 2, 1) := by decide +kernel
theorem d_Tree_turnedLanes_6 : decode prog_10_method_11_code 6 = .ok (.aload_n 0, 1) := by decide +kernel
theorem d_Tree_turnedLanes_7 : decode prog_10_method_11_code 7 = .ok (.getfield 40, 3) := by decide +kernel
theorem d_Tree_turnedLanes_10 : decode prog_10_method_11_code 10 = .ok (.getfield 71, 3) := by decide +kernel
theorem d_Tree_turnedLanes_13 : decode prog_10_method_11_code 13 = .ok (.iload_n 2, 1) := by decide +kernel
theorem d_Tree_turnedLanes_14 : decode prog_10_method_11_code 14 = .ok (.iaload, 1) := by decide +kernel
theorem d_Tree_turnedLanes_15 : decode prog_10_method_11_code 15 = .ok (.iconst 2, 1) := by decide +kernel
theorem d_Tree_turnedLanes_16 : decode prog_10_method_11_code 16 = .ok (.if_icmp .eq 18, 3) := by decide +kernel
theorem d_Tree_turnedLanes_19 : decode prog_10_method_11_code 19 = .ok (.aload_n 0, 1) := by decide +kernel
theorem d_Tree_turnedLanes_20 : decode prog_10_method_11_code 20 = .ok (.getfield 40, 3) := by decide +kernel
theorem d_Tree_turnedLanes_23 : decode prog_10_method_11_code 23 = .ok (.getfield 71, 3) := by decide +kernel
theorem d_Tree_turnedLanes_26 : decode prog_10_method_11_code 26 = .ok (.iload_n 2, 1) := by decide +kernel
theorem d_Tree_turnedLanes_27 : decode prog_10_method_11_code 27 = .ok (.iaload, 1) := by decide +kernel
theorem d_Tree_turnedLanes_28 : decode prog_10_method_11_code 28 = .ok (.iconst 4, 1) := by decide +kernel
theorem d_Tree_turnedLanes_29 : decode prog_10_method_11_code 29 = .ok (.if_icmp .eq 5, 3) := by decide +kernel
theorem d_Tree_turnedLanes_32 : decode prog_10_method_11_code 32 = .ok (.iconst 0, 1) := by decide +kernel
theorem d_Tree_turnedLanes_33 : decode prog_10_method_11_code 33 = .ok (.ireturn, 1) := by decide +kernel
theorem d_Tree_turnedLanes_34 : decode prog_10_method_11_code 34 = .ok (.aload_n 0, 1) := by decide +kernel
theorem d_Tree_turnedLanes_35 : decode prog_10_method_11_code 35 = .ok (.getfield 40, 3) := by decide +kernel
theorem d_Tree_turnedLanes_38 : decode prog_10_method_11_code 38 = .ok (.getfield 71, 3) := by decide +kernel
theorem d_Tree_turnedLanes_41 : decode prog_10_method_11_code 41 = .ok (.aload_n 0, 1) := by decide +kernel
theorem d_Tree_turnedLanes_42 : decode prog_10_method_11_code 42 = .ok (.getfield 40, 3) := by decide +kernel
theorem d_Tree_turnedLanes_45 : decode prog_10_method_11_code 45 = .ok (.getfield 110, 3) := by decide +kernel
theorem d_Tree_turnedLanes_48 : decode prog_10_method_11_code 48 = .ok (.iload_n 2, 1) := by decide +kernel
theorem d_Tree_turnedLanes_49 : decode prog_10_method_11_code 49 = .ok (.iaload, 1) := by decide +kernel
theorem d_Tree_turnedLanes_50 : decode prog_10_method_11_code 50 = .ok (.iaload, 1) := by decide +kernel
theorem d_Tree_turnedLanes_51 : decode prog_10_method_11_code 51 = .ok (.istore_n 3, 1) := by decide +kernel
theorem d_Tree_turnedLanes_52 : decode prog_10_method_11_code 52 = .ok (.iconst 0, 1) := by decide +kernel
theorem d_Tree_turnedLanes_53 : decode prog_10_method_11_code 53 = .ok (.istore 4, 2) := by decide +kernel
theorem d_Tree_turnedLanes_55 : decode prog_10_method_11_code 55 = .ok (.iconst 1, 1) := by decide +kernel
theorem d_Tree_turnedLanes_56 : decode prog_10_method_11_code 56 = .ok (.istore 5, 2) := by decide +kernel
theorem d_Tree_turnedLanes_58 : decode prog_10_method_11_code 58 = .ok (.iload 5, 2) := by decide +kernel
theorem d_Tree_turnedLanes_60 : decode prog_10_method_11_code 60 = .ok (.aload_n 0, 1) := by decide +kernel
theorem d_Tree_turnedLanes_61 : decode prog_10_method_11_code 61 = .ok (.getfield 28, 3) := by decide +kernel
theorem d_Tree_turnedLanes_64 : decode prog_10_method_11_code 64 = .ok (.if_icmp .ge 70, 3) := by decide +kernel
theorem d_Tree_turnedLanes_67 : decode prog_10_method_11_code 67 = .ok (.iload_n 1, 1) := by decide +kernel
theorem d_Tree_turnedLanes_68 : decode prog_10_method_11_code 68 = .ok (.iload 5, 2) := by decide +kernel
theorem d_Tree_turnedLanes_70 : decode prog_10_method_11_code 70 = .ok (.invokestatic 89, 3) := by decide +kernel
theorem d_Tree_turnedLanes_73 : decode prog_10_method_11_code 73 = .ok (.istore 6, 2) := by decide +kernel
theorem d_Tree_turnedLanes_75 : decode prog_10_method_11_code 75 = .ok (.aload_n 0, 1) := by decide +kernel
theorem d_Tree_turnedLanes_76 : decode prog_10_method_11_code 76 = .ok (.getfield 40, 3) := by decide +kernel
theorem d_Tree_turnedLanes_79 : decode prog_10_method_11_code 79 = .ok (.getfield 71, 3) := by decide +kernel
theorem d_Tree_turnedLanes_82 : decode prog_10_method_11_code 82 = .ok (.aload_n 0, 1) := by decide +kernel
theorem d_Tree_turnedLanes_83 : decode prog_10_method_11_code 83 = .ok (.getfield 40, 3) := by decide +kernel
theorem d_Tree_turnedLanes_86 : decode prog_10_method_11_code 86 = .ok (.getfield 110, 3) := by decide +kernel
theorem d_Tree_turnedLanes_89 : decode prog_10_method_11_code 89 = .ok (.iload 6, 2) := by decide +kernel
theorem d_Tree_turnedLanes_91 : decode prog_10_method_11_code 91 = .ok (.iaload, 1) := by decide +kernel
theorem d_Tree_turnedLanes_92 : decode prog_10_method_11_code 92 = .ok (.iaload, 1) := by decide +kernel
theorem d_Tree_turnedLanes_93 : decode prog_10_method_11_code 93 = .ok (.iload_n 3, 1) := by decide +kernel
theorem d_Tree_turnedLanes_94 : decode prog_10_method_11_code 94 = .ok (.if_icmp .eq 34, 3) := by decide +kernel
theorem d_Tree_turnedLanes_97 : decode prog_10_method_11_code 97 = .ok (.aload_n 0, 1) := by decide +kernel
theorem d_Tree_turnedLanes_98 : decode prog_10_method_11_code 98 = .ok (.getfield 40, 3) := by decide +kernel
theorem d_Tree_turnedLanes_101 : decode prog_10_method_11_code 101 = .ok (.getfield 71, 3) := by decide +kernel
theorem d_Tree_turnedLanes_104 : decode prog_10_method_11_code 104 = .ok (.aload_n 0, 1) := by decide +kernel
theorem d_Tree_turnedLanes_105 : decode prog_10_method_11_code 105 = .ok (.getfield 40, 3) := by decide +kernel
theorem d_Tree_turnedLanes_108 : decode prog_10_method_11_code 108 = .ok (.getfield 107, 3) := by decide +kernel
theorem d_Tree_turnedLanes_111 : decode prog_10_method_11_code 111 = .ok (.iload 6, 2) := by decide +kernel
theorem d_Tree_turnedLanes_113 : decode prog_10_method_11_code 113 = .ok (.iaload, 1) := by decide +kernel
theorem d_Tree_turnedLanes_114 : decode prog_10_method_11_code 114 = .ok (.iaload, 1) := by decide +kernel
theorem d_Tree_turnedLanes_115 : decode prog_10_method_11_code 115 = .ok (.iload_n 3, 1) := by decide +kernel
theorem d_Tree_turnedLanes_116 : decode prog_10_method_11_code 116 = .ok (.if_icmp .ne 12, 3) := by decide +kernel
theorem d_Tree_turnedLanes_119 : decode prog_10_method_11_code 119 = .ok (.iload 4, 2) := by decide +kernel
theorem d_Tree_turnedLanes_121 : decode prog_10_method_11_code 121 = .ok (.iconst 1, 1) := by decide +kernel
theorem d_Tree_turnedLanes_122 : decode prog_10_method_11_code 122 = .ok (.iload 5, 2) := by decide +kernel
theorem d_Tree_turnedLanes_124 : decode prog_10_method_11_code 124 = .ok (.ishl, 1) := by decide +kernel
theorem d_Tree_turnedLanes_125 : decode prog_10_method_11_code 125 = .ok (.ior, 1) := by decide +kernel
theorem d_Tree_turnedLanes_126 : decode prog_10_method_11_code 126 = .ok (.istore 4, 2) := by decide +kernel
theorem d_Tree_turnedLanes_128 : decode prog_10_method_11_code 128 = .ok (.iinc 5 1, 3) := by decide +kernel
theorem d_Tree_turnedLanes_131 : decode prog_10_method_11_code 131 = .ok (.goto (-73), 3) := by decide +kernel
theorem d_Tree_turnedLanes_134 : decode prog_10_method_11_code 134 = .ok (.iload 4, 2) := by decide +kernel
theorem d_Tree_turnedLanes_136 : decode prog_10_method_11_code 136 = .ok (.ireturn, 1) := by decide +kernel
def B_Tree_turnedLanes (_ : Nat × Nat) : PS :=
  (sSq (sI 2 (eX .int (xS 2 X_PL_inLane (aC .int (eI 1) (aC .int (eV (0 : Int32)) aN)))))
    (sSq (sIf (cA (e2 (fun x y : Int32 => decide (¬ x = y)) (eAI (eFR 1 0 (eFR 8 0 (eR 0))) (eI 2)) (eV (2 : Int32))) (e2 (fun x y : Int32 => decide (¬ x = y)) (eAI (eFR 1 0 (eFR 8 0 (eR 0))) (eI 2)) (eV (4 : Int32)))) (sRt .int (eV (0 : Int32))) sSk)
    (sSq (sI 3 (eAI (eFR 1 0 (eFR 8 0 (eR 0))) (eAI (eFR 1 4 (eFR 8 0 (eR 0))) (eI 2))))
    (sSq (sI 4 (eV (0 : Int32)))
    (sSq (sCut 5 (sSq (sI 5 (eV (1 : Int32)))
    (sLp 6 (e2 (fun x y : Int32 => decide (x < y)) (eI 5) (eFI 8 7 (eR 0)))
    (sCut 6 (sSq (sI 6 (eX .int (xS 2 X_PL_inLane (aC .int (eI 1) (aC .int (eI 5) aN)))))
    (sIf (cA (e2 (fun x y : Int32 => decide (¬ x = y)) (eAI (eFR 1 0 (eFR 8 0 (eR 0))) (eAI (eFR 1 4 (eFR 8 0 (eR 0))) (eI 6))) (eI 3)) (e2 (fun x y : Int32 => decide (x = y)) (eAI (eFR 1 0 (eFR 8 0 (eR 0))) (eAI (eFR 1 5 (eFR 8 0 (eR 0))) (eI 6))) (eI 3))) (sI 4 (e2 (fun x y : Int32 => x ||| y) (eI 4) (e2 (fun x y : Int32 => x <<< (y &&& 31)) (eV (1 : Int32)) (eI 5)))) sSk)))
    (sInc 5 (1)))))
    (sRt .int (eI 4)))))))
def X_Tree_turnedLanes : PM := fun vs h Q => (lx vs).length ≤ 7 ∧ B_Tree_turnedLanes (h.length + 0, hsz h + 0) (fun _ _ => False) (fun _ _ => False) (fun _ _ => False) Q (lini 7 vs) h
theorem v_Tree_turnedLanes (l : Launch) : Ctr l y_Tree_turnedLanes prog_10_method_11_code 7 (some .int) rm_Tree_turnedLanes X_Tree_turnedLanes := by
  refine Ctr_of (own := "PackLanes$Tree") (B := B_Tree_turnedLanes) (KR := fun _ Q => Q) (by decide) rfl (fun _ _ _ z => z) (fun _ _ _ _ z => ⟨Or.inl ⟨rfl, rfl⟩, z⟩) (Or.inr (Or.inl rfl)) (fun κ hl ho hR hrt hn0 => ?_)
  subst hl
  unfold B_Tree_turnedLanes
  exact (S_sq (pc1 := 6) (S_In (pc1 := 5) (E_x (O_SN k_Tree_89 (v_PL_inLane _) ⟨rfl, rfl⟩ ho (rk hR rfl) (by decide) (pc2 := 2) (A_c catI (pc1 := 1) (E_iln d_Tree_turnedLanes_0 rfl) (A_c catI (pc1 := 2) (E_ic d_Tree_turnedLanes_1 rfl) A_n)) d_Tree_turnedLanes_2)) d_Tree_turnedLanes_5 rfl)
    (S_sq (pc1 := 34) (S_if1 (pT := 32) (pF := 34) (C_and (pc1 := 19) (J2_ne (pF := 34) (pc1 := 15) (pc2 := 16) (E_aI (pc1 := 13) (pc2 := 14) (E_fR f_Tree_71 ho (pc1 := 10) (E_fR f_Tree_40 ho (pc1 := 7) (E_aln d_Tree_turnedLanes_6 rfl) d_Tree_turnedLanes_7) d_Tree_turnedLanes_10) (E_iln d_Tree_turnedLanes_13 rfl) d_Tree_turnedLanes_14) (E_ic d_Tree_turnedLanes_15 rfl) d_Tree_turnedLanes_16 rfl) (J2_ne (pF := 34) (pc1 := 28) (pc2 := 29) (E_aI (pc1 := 26) (pc2 := 27) (E_fR f_Tree_71 ho (pc1 := 23) (E_fR f_Tree_40 ho (pc1 := 20) (E_aln d_Tree_turnedLanes_19 rfl) d_Tree_turnedLanes_20) d_Tree_turnedLanes_23) (E_iln d_Tree_turnedLanes_26 rfl) d_Tree_turnedLanes_27) (E_ic d_Tree_turnedLanes_28 rfl) d_Tree_turnedLanes_29 rfl)) (S_ri hrt (pc1 := 33) (E_ic d_Tree_turnedLanes_32 rfl) d_Tree_turnedLanes_33))
    (S_sq (pc1 := 52) (S_In (pc1 := 51) (E_aI (pc1 := 41) (pc2 := 50) (E_fR f_Tree_71 ho (pc1 := 38) (E_fR f_Tree_40 ho (pc1 := 35) (E_aln d_Tree_turnedLanes_34 rfl) d_Tree_turnedLanes_35) d_Tree_turnedLanes_38) (E_aI (pc1 := 48) (pc2 := 49) (E_fR f_Tree_110 ho (pc1 := 45) (E_fR f_Tree_40 ho (pc1 := 42) (E_aln d_Tree_turnedLanes_41 rfl) d_Tree_turnedLanes_42) d_Tree_turnedLanes_45) (E_iln d_Tree_turnedLanes_48 rfl) d_Tree_turnedLanes_49) d_Tree_turnedLanes_50) d_Tree_turnedLanes_51 rfl)
    (S_sq (pc1 := 55) (S_I (pc1 := 53) (E_ic d_Tree_turnedLanes_52 rfl) d_Tree_turnedLanes_53)
    (S_sq (pc1 := 134) (S_cut (S_sq (pc1 := 58) (S_I (pc1 := 56) (E_ic d_Tree_turnedLanes_55 rfl) d_Tree_turnedLanes_56)
    (S_lp (pT := 67) (pF := 134) (pS := 128) (pG := 131) (J2_lt (pF := 134) (pc1 := 60) (pc2 := 64) (E_il d_Tree_turnedLanes_58) (E_fI f_Tree_28 ho (pc1 := 61) (E_aln d_Tree_turnedLanes_60 rfl) d_Tree_turnedLanes_61) d_Tree_turnedLanes_64 rfl)
    (S_cut (S_sq (pc1 := 75) (S_I (pc1 := 73) (E_x (O_SN k_Tree_89 (v_PL_inLane _) ⟨rfl, rfl⟩ ho (rk hR rfl) (by decide) (pc2 := 70) (A_c catI (pc1 := 68) (E_iln d_Tree_turnedLanes_67 rfl) (A_c catI (pc1 := 70) (E_il d_Tree_turnedLanes_68) A_n)) d_Tree_turnedLanes_70)) d_Tree_turnedLanes_73)
    (S_if1 (pT := 119) (pF := 128) (C_and (pc1 := 97) (J2_ne (pF := 128) (pc1 := 93) (pc2 := 94) (E_aI (pc1 := 82) (pc2 := 92) (E_fR f_Tree_71 ho (pc1 := 79) (E_fR f_Tree_40 ho (pc1 := 76) (E_aln d_Tree_turnedLanes_75 rfl) d_Tree_turnedLanes_76) d_Tree_turnedLanes_79) (E_aI (pc1 := 89) (pc2 := 91) (E_fR f_Tree_110 ho (pc1 := 86) (E_fR f_Tree_40 ho (pc1 := 83) (E_aln d_Tree_turnedLanes_82 rfl) d_Tree_turnedLanes_83) d_Tree_turnedLanes_86) (E_il d_Tree_turnedLanes_89) d_Tree_turnedLanes_91) d_Tree_turnedLanes_92) (E_iln d_Tree_turnedLanes_93 rfl) d_Tree_turnedLanes_94 rfl) (J2_eq (pF := 128) (pc1 := 115) (pc2 := 116) (E_aI (pc1 := 104) (pc2 := 114) (E_fR f_Tree_71 ho (pc1 := 101) (E_fR f_Tree_40 ho (pc1 := 98) (E_aln d_Tree_turnedLanes_97 rfl) d_Tree_turnedLanes_98) d_Tree_turnedLanes_101) (E_aI (pc1 := 111) (pc2 := 113) (E_fR f_Tree_107 ho (pc1 := 108) (E_fR f_Tree_40 ho (pc1 := 105) (E_aln d_Tree_turnedLanes_104 rfl) d_Tree_turnedLanes_105) d_Tree_turnedLanes_108) (E_il d_Tree_turnedLanes_111) d_Tree_turnedLanes_113) d_Tree_turnedLanes_114) (E_iln d_Tree_turnedLanes_115 rfl) d_Tree_turnedLanes_116 rfl)) (S_I (pc1 := 126) (E_ior (pc1 := 121) (pc2 := 125) (E_il d_Tree_turnedLanes_119) (E_ishl (pc1 := 122) (pc2 := 124) (E_ic d_Tree_turnedLanes_121 rfl) (E_il d_Tree_turnedLanes_122) d_Tree_turnedLanes_124) d_Tree_turnedLanes_125) d_Tree_turnedLanes_126))))
    (S_Inc d_Tree_turnedLanes_128 rfl) d_Tree_turnedLanes_131 rfl)))
    (S_ri hrt (pc1 := 136) (E_il d_Tree_turnedLanes_134) d_Tree_turnedLanes_136))))))
theorem d_Tree_hasPack_0 : decode prog_10_method_7_code 0 = .ok (.iconst 0, 1) := by decide +kernel
theorem d_Tree_hasPack_1 : decode prog_10_method_7_code 1 = .ok (.istore_n 2, 1) := by decide +kernel
theorem d_Tree_hasPack_2 : decode prog_10_method_7_code 2 = .ok (.iload_n 2, 1) := by decide +kernel
theorem d_Tree_hasPack_3 : decode prog_10_method_7_code 3 = .ok (.aload_n 0, 1) := by decide +kernel
theorem d_Tree_hasPack_4 : decode prog_10_method_7_code 4 = .ok (.getfield 15, 3) := by decide +kernel
theorem d_Tree_hasPack_7 : decode prog_10_method_7_code 7 = .ok (.if_icmp .ge 21, 3) := by decide +kernel
theorem d_Tree_hasPack_10 : decode prog_10_method_7_code 10 = .ok (.aload_n 0, 1) := by decide +kernel
theorem d_Tree_hasPack_11 : decode prog_10_method_7_code 11 = .ok (.getfield 11, 3) := by decide +kernel
theorem d_Tree_hasPack_14 : decode prog_10_method_7_code 14 = .ok (.iload_n 2, 1) := by decide +kernel
theorem d_Tree_hasPack_15 : decode prog_10_method_7_code 15 = .ok (.iaload, 1) := by decide +kernel
theorem d_Tree_hasPack_16 : decode prog_10_method_7_code 16 = .ok (.iload_n 1, 1) := by decide +kernel
theorem d_Tree_hasPack_17 : decode prog_10_method_7_code 17 = .ok (.if_icmp .ne 5, 3) := by decide +kernel
theorem d_Tree_hasPack_20 : decode prog_10_method_7_code 20 = .ok (.iconst 1, 1) := by decide +kernel
theorem d_Tree_hasPack_21 : decode prog_10_method_7_code 21 = .ok (.ireturn, 1) := by decide +kernel
theorem d_Tree_hasPack_22 : decode prog_10_method_7_code 22 = .ok (.iinc 2 1, 3) := by decide +kernel
theorem d_Tree_hasPack_25 : decode prog_10_method_7_code 25 = .ok (.goto (-23), 3) := by decide +kernel
theorem d_Tree_hasPack_28 : decode prog_10_method_7_code 28 = .ok (.iconst 0, 1) := by decide +kernel
theorem d_Tree_hasPack_29 : decode prog_10_method_7_code 29 = .ok (.ireturn, 1) := by decide +kernel
def B_Tree_hasPack (_ : Nat × Nat) : PS :=
  (sSq (sCut 2 (sSq (sI 2 (eV (0 : Int32)))
    (sLp 3 (e2 (fun x y : Int32 => decide (x < y)) (eI 2) (eFI 8 3 (eR 0)))
    (sIf (e2 (fun x y : Int32 => decide (x = y)) (eAI (eFR 8 2 (eR 0)) (eI 2)) (eI 1)) (sRz (eV (1 : Int32))) sSk)
    (sInc 2 (1)))))
    (sRz (eV (0 : Int32))))
def X_Tree_hasPack : PM := fun vs h Q => (lx vs).length ≤ 3 ∧ B_Tree_hasPack (h.length + 0, hsz h + 0) (fun _ _ => False) (fun _ _ => False) (fun _ _ => False) Q (lini 3 vs) h
theorem v_Tree_hasPack (l : Launch) : Ctr l y_Tree_hasPack prog_10_method_7_code 3 (some .boolean) rm_Tree_hasPack X_Tree_hasPack := by
  refine Ctr_of (own := "PackLanes$Tree") (B := B_Tree_hasPack) (KR := fun _ Q => Q) (by decide) rfl (fun _ _ _ z => z) (fun _ _ _ _ z => ⟨Or.inl ⟨rfl, rfl⟩, z⟩) (Or.inr (Or.inr (Or.inl rfl))) (fun κ hl ho hR hrt hn0 => ?_)
  subst hl
  unfold B_Tree_hasPack
  exact (S_sq (pc1 := 28) (S_cut (S_sq (pc1 := 2) (S_In (pc1 := 1) (E_ic d_Tree_hasPack_0 rfl) d_Tree_hasPack_1 rfl)
    (S_lp (pT := 10) (pF := 28) (pS := 22) (pG := 25) (J2_lt (pF := 28) (pc1 := 3) (pc2 := 7) (E_iln d_Tree_hasPack_2 rfl) (E_fI f_Tree_15 ho (pc1 := 4) (E_aln d_Tree_hasPack_3 rfl) d_Tree_hasPack_4) d_Tree_hasPack_7 rfl)
    (S_if1 (pT := 20) (pF := 22) (J2_eq (pF := 22) (pc1 := 16) (pc2 := 17) (E_aI (pc1 := 14) (pc2 := 15) (E_fR f_Tree_11 ho (pc1 := 11) (E_aln d_Tree_hasPack_10 rfl) d_Tree_hasPack_11) (E_iln d_Tree_hasPack_14 rfl) d_Tree_hasPack_15) (E_iln d_Tree_hasPack_16 rfl) d_Tree_hasPack_17 rfl) (S_rz hrt (pc1 := 21) (E_ic d_Tree_hasPack_20 rfl) d_Tree_hasPack_21))
    (S_Inc d_Tree_hasPack_22 rfl) d_Tree_hasPack_25 rfl)))
    (S_rz hrt (pc1 := 29) (E_ic d_Tree_hasPack_28 rfl) d_Tree_hasPack_29))
theorem d_Tree_takeOneByOne_0 : decode prog_10_method_6_code 0 = .ok (.iload_n 1, 1) := by decide +kernel
theorem d_Tree_takeOneByOne_1 : decode prog_10_method_6_code 1 = .ok (.aload_n 0, 1) := by decide +kernel
theorem d_Tree_takeOneByOne_2 : decode prog_10_method_6_code 2 = .ok (.getfield 28, 3) := by decide +kernel
theorem d_Tree_takeOneByOne_5 : decode prog_10_method_6_code 5 = .ok (.invokestatic 86, 3) := by decide +kernel
theorem d_Tree_takeOneByOne_8 : decode prog_10_method_6_code 8 = .ok (.istore_n 2, 1) := by decide +kernel
theorem d_Tree_takeOneByOne_9 : decode prog_10_method_6_code 9 = .ok (.iconst 1, 1) := by decide +kernel
theorem d_Tree_takeOneByOne_10 : decode prog_10_method_6_code 10 = .ok (.istore_n 3, 1) := by decide +kernel
theorem d_Tree_takeOneByOne_11 : decode prog_10_method_6_code 11 = .ok (.iconst 0, 1) := by decide +kernel
theorem d_Tree_takeOneByOne_12 : decode prog_10_method_6_code 12 = .ok (.istore 4, 2) := by decide +kernel
theorem d_Tree_takeOneByOne_14 : decode prog_10_method_6_code 14 = .ok (.iload 4, 2) := by decide +kernel
theorem d_Tree_takeOneByOne_16 : decode prog_10_method_6_code 16 = .ok (.aload_n 0, 1) := by decide +kernel
theorem d_Tree_takeOneByOne_17 : decode prog_10_method_6_code 17 = .ok (.getfield 28, 3) := by decide +kernel
theorem d_Tree_takeOneByOne_20 : decode prog_10_method_6_code 20 = .ok (.if_icmp .ge 29, 3) := by decide +kernel
theorem d_Tree_takeOneByOne_23 : decode prog_10_method_6_code 23 = .ok (.aload_n 0, 1) := by decide +kernel
theorem d_Tree_takeOneByOne_24 : decode prog_10_method_6_code 24 = .ok (.getfield 40, 3) := by decide +kernel
theorem d_Tree_takeOneByOne_27 : decode prog_10_method_6_code 27 = .ok (.getfield 71, 3) := by decide +kernel
theorem d_Tree_takeOneByOne_30 : decode prog_10_method_6_code 30 = .ok (.iload_n 1, 1) := by decide +kernel
theorem d_Tree_takeOneByOne_31 : decode prog_10_method_6_code 31 = .ok (.iload 4, 2) := by decide +kernel
theorem d_Tree_takeOneByOne_33 : decode prog_10_method_6_code 33 = .ok (.invokestatic 89, 3) := by decide +kernel
theorem d_Tree_takeOneByOne_36 : decode prog_10_method_6_code 36 = .ok (.iaload, 1) := by decide +kernel
theorem d_Tree_takeOneByOne_37 : decode prog_10_method_6_code 37 = .ok (.iconst 1, 1) := by decide +kernel
theorem d_Tree_takeOneByOne_38 : decode prog_10_method_6_code 38 = .ok (.if_icmp .eq 5, 3) := by decide +kernel
theorem d_Tree_takeOneByOne_41 : decode prog_10_method_6_code 41 = .ok (.iconst 0, 1) := by decide +kernel
theorem d_Tree_takeOneByOne_42 : decode prog_10_method_6_code 42 = .ok (.istore_n 3, 1) := by decide +kernel
theorem d_Tree_takeOneByOne_43 : decode prog_10_method_6_code 43 = .ok (.iinc 4 1, 3) := by decide +kernel
theorem d_Tree_takeOneByOne_46 : decode prog_10_method_6_code 46 = .ok (.goto (-32), 3) := by decide +kernel
theorem d_Tree_takeOneByOne_49 : decode prog_10_method_6_code 49 = .ok (.aload_n 0, 1) := by decide +kernel
theorem d_Tree_takeOneByOne_50 : decode prog_10_method_6_code 50 = .ok (.dup, 1) := by decide +kernel
theorem d_Tree_takeOneByOne_51 : decode prog_10_method_6_code 51 = .ok (.getfield 34, 3) := by decide +kernel
theorem d_Tree_takeOneByOne_54 : decode prog_10_method_6_code 54 = .ok (.iload_n 2, 1) := by decide +kernel
theorem d_Tree_takeOneByOne_55 : decode prog_10_method_6_code 55 = .ok (.ior, 1) := by decide +kernel
theorem d_Tree_takeOneByOne_56 : decode prog_10_method_6_code 56 = .ok (.putfield 34, 3) := by decide +kernel
theorem d_Tree_takeOneByOne_59 : decode prog_10_method_6_code 59 = .ok (.aload_n 0, 1) := by decide +kernel
theorem d_Tree_takeOneByOne_60 : decode prog_10_method_6_code 60 = .ok (.dup, 1) := by decide +kernel
theorem d_Tree_takeOneByOne_61 : decode prog_10_method_6_code 61 = .ok (.getfield 37, 3) := by decide +kernel
theorem d_Tree_takeOneByOne_64 : decode prog_10_method_6_code 64 = .ok (.iload_n 3, 1) := by decide +kernel
theorem d_Tree_takeOneByOne_65 : decode prog_10_method_6_code 65 = .ok (.ifCond .ne 11, 3) := by decide +kernel
theorem d_Tree_takeOneByOne_68 : decode prog_10_method_6_code 68 = .ok (.iload_n 2, 1) := by decide +kernel
theorem d_Tree_takeOneByOne_69 : decode prog_10_method_6_code 69 = .ok (.invokestatic 102, 3) := by decide +kernel
theorem d_Tree_takeOneByOne_72 : decode prog_10_method_6_code 72 = .ok (.iconst 1, 1) := by decide +kernel
theorem d_Tree_takeOneByOne_73 : decode prog_10_method_6_code 73 = .ok (.if_icmp .ne 7, 3) := by decide +kernel
theorem d_Tree_takeOneByOne_76 : decode prog_10_method_6_code 76 = .ok (.iconst 1, 1) := by decide +kernel
theorem d_Tree_takeOneByOne_77 : decode prog_10_method_6_code 77 = .ok (.goto 7, 3) := by decide +kernel
theorem d_Tree_takeOneByOne_80 : decode prog_10_method_6_code 80 = .ok (.aload_n 0, 1) := by decide +kernel
theorem d_Tree_takeOneByOne_81 : decode prog_10_method_6_code 81 = .ok (.getfield 28, 3) := by decide +kernel
theorem d_Tree_takeOneByOne_84 : decode prog_10_method_6_code 84 = .ok (.iadd, 1) := by decide +kernel
theorem d_Tree_takeOneByOne_85 : decode prog_10_method_6_code 85 = .ok (.putfield 37, 3) := by decide +kernel
theorem d_Tree_takeOneByOne_88 : decode prog_10_method_6_code 88 = .ok (.return_, 1) := by decide +kernel
def B_Tree_takeOneByOne (_ : Nat × Nat) : PS :=
  (sSq (sI 2 (eX .int (xS 2 X_PL_setOf (aC .int (eI 1) (aC .int (eFI 8 7 (eR 0)) aN)))))
    (sSq (sI 3 (eV (1 : Int32)))
    (sSq (sCut 4 (sSq (sI 4 (eV (0 : Int32)))
    (sLp 5 (e2 (fun x y : Int32 => decide (x < y)) (eI 4) (eFI 8 7 (eR 0)))
    (sIf (e2 (fun x y : Int32 => decide (¬ x = y)) (eAI (eFR 1 0 (eFR 8 0 (eR 0))) (eX .int (xS 2 X_PL_inLane (aC .int (eI 1) (aC .int (eI 4) aN))))) (eV (1 : Int32))) (sI 3 (eV (0 : Int32))) sSk)
    (sInc 4 (1)))))
    (sSq (sFO 8 9 (fun x y : Int32 => x ||| y) (eR 0) (eI 2))
    (sSq (sFO 8 10 (fun x y : Int32 => x + y) (eR 0) (eIf (cO (e1 (fun x : Int32 => decide (¬ x = 0)) (eI 3)) (e2 (fun x y : Int32 => decide (x = y)) (eX .int (xS 1 X_Int_bitCount (aC .int (eI 2) aN))) (eV (1 : Int32)))) (eV (1 : Int32)) (eFI 8 7 (eR 0))))
    sRv)))))
def X_Tree_takeOneByOne : PM := fun vs h Q => (lx vs).length ≤ 5 ∧ B_Tree_takeOneByOne (h.length + 0, hsz h + 0) (fun _ _ => False) (fun _ _ => False) (fun _ _ => False) Q (lini 5 vs) h
theorem v_Tree_takeOneByOne (l : Launch) : Ctr l y_Tree_takeOneByOne prog_10_method_6_code 5 none rm_Tree_takeOneByOne X_Tree_takeOneByOne := by
  refine Ctr_of (own := "PackLanes$Tree") (B := B_Tree_takeOneByOne) (KR := fun _ Q => Q) (by decide) rfl (fun _ _ _ z => z) (fun _ _ _ _ z => ⟨Or.inl ⟨rfl, rfl⟩, z⟩) (Or.inl rfl) (fun κ hl ho hR hrt hn0 => ?_)
  subst hl
  unfold B_Tree_takeOneByOne
  exact (S_sq (pc1 := 9) (S_In (pc1 := 8) (E_x (O_SN k_Tree_86 (v_PL_setOf _) ⟨rfl, rfl⟩ ho (rk hR rfl) (by decide) (pc2 := 5) (A_c catI (pc1 := 1) (E_iln d_Tree_takeOneByOne_0 rfl) (A_c catI (pc1 := 5) (E_fI f_Tree_28 ho (pc1 := 2) (E_aln d_Tree_takeOneByOne_1 rfl) d_Tree_takeOneByOne_2) A_n)) d_Tree_takeOneByOne_5)) d_Tree_takeOneByOne_8 rfl)
    (S_sq (pc1 := 11) (S_In (pc1 := 10) (E_ic d_Tree_takeOneByOne_9 rfl) d_Tree_takeOneByOne_10 rfl)
    (S_sq (pc1 := 49) (S_cut (S_sq (pc1 := 14) (S_I (pc1 := 12) (E_ic d_Tree_takeOneByOne_11 rfl) d_Tree_takeOneByOne_12)
    (S_lp (pT := 23) (pF := 49) (pS := 43) (pG := 46) (J2_lt (pF := 49) (pc1 := 16) (pc2 := 20) (E_il d_Tree_takeOneByOne_14) (E_fI f_Tree_28 ho (pc1 := 17) (E_aln d_Tree_takeOneByOne_16 rfl) d_Tree_takeOneByOne_17) d_Tree_takeOneByOne_20 rfl)
    (S_if1 (pT := 41) (pF := 43) (J2_ne (pF := 43) (pc1 := 37) (pc2 := 38) (E_aI (pc1 := 30) (pc2 := 36) (E_fR f_Tree_71 ho (pc1 := 27) (E_fR f_Tree_40 ho (pc1 := 24) (E_aln d_Tree_takeOneByOne_23 rfl) d_Tree_takeOneByOne_24) d_Tree_takeOneByOne_27) (E_x (O_SN k_Tree_89 (v_PL_inLane _) ⟨rfl, rfl⟩ ho (rk hR rfl) (by decide) (pc2 := 33) (A_c catI (pc1 := 31) (E_iln d_Tree_takeOneByOne_30 rfl) (A_c catI (pc1 := 33) (E_il d_Tree_takeOneByOne_31) A_n)) d_Tree_takeOneByOne_33)) d_Tree_takeOneByOne_36) (E_ic d_Tree_takeOneByOne_37 rfl) d_Tree_takeOneByOne_38 rfl) (S_In (pc1 := 42) (E_ic d_Tree_takeOneByOne_41 rfl) d_Tree_takeOneByOne_42 rfl))
    (S_Inc d_Tree_takeOneByOne_43 rfl) d_Tree_takeOneByOne_46 rfl)))
    (S_sq (pc1 := 59) (S_FO f_Tree_34 f_Tree_34 ho (pc1 := 50) (pc2 := 55) (E_aln d_Tree_takeOneByOne_49 rfl) d_Tree_takeOneByOne_50 d_Tree_takeOneByOne_51 (E_iln d_Tree_takeOneByOne_54 rfl) (fun _ _ _ _ _ k => r_ior d_Tree_takeOneByOne_55 k) d_Tree_takeOneByOne_56)
    (S_sq (pc1 := 88) (S_FO f_Tree_37 f_Tree_37 ho (pc1 := 60) (pc2 := 84) (E_aln d_Tree_takeOneByOne_59 rfl) d_Tree_takeOneByOne_60 d_Tree_takeOneByOne_61 (E_if (pT := 76) (pF := 80) (pc1 := 77) (pc2 := 84) (C_or (pc1 := 68) (T1_ne (pT := 76) (pc2 := 65) (E_iln d_Tree_takeOneByOne_64 rfl) d_Tree_takeOneByOne_65 rfl) (J2_eq (pF := 80) (pc1 := 72) (pc2 := 73) (E_x (O_S k_Tree_102 (v_Int_bitCount _) ⟨rfl, rfl⟩ ho (rk hR rfl) (by decide) (pc2 := 69) (A_c catI (pc1 := 69) (E_iln d_Tree_takeOneByOne_68 rfl) A_n) d_Tree_takeOneByOne_69)) (E_ic d_Tree_takeOneByOne_72 rfl) d_Tree_takeOneByOne_73 rfl)) (E_ic d_Tree_takeOneByOne_76 rfl) d_Tree_takeOneByOne_77 rfl (E_fI f_Tree_28 ho (pc1 := 81) (E_aln d_Tree_takeOneByOne_80 rfl) d_Tree_takeOneByOne_81)) (fun _ _ _ _ _ k => r_iadd d_Tree_takeOneByOne_84 k) d_Tree_takeOneByOne_85)
    (S_rv hrt d_Tree_takeOneByOne_88))))))
theorem d_Tree_handle_0 : decode prog_10_method_5_code 0 = .ok (.aload_n 0, 1) := by decide +kernel
theorem d_Tree_handle_1 : decode prog_10_method_5_code 1 = .ok (.getfield 44, 3) := by decide +kernel
theorem d_Tree_handle_4 : decode prog_10_method_5_code 4 = .ok (.iload_n 1, 1) := by decide +kernel
theorem d_Tree_handle_5 : decode prog_10_method_5_code 5 = .ok (.aload_n 0, 1) := by decide +kernel
theorem d_Tree_handle_6 : decode prog_10_method_5_code 6 = .ok (.getfield 28, 3) := by decide +kernel
theorem d_Tree_handle_9 : decode prog_10_method_5_code 9 = .ok (.invokevirtual 83, 3) := by decide +kernel
theorem d_Tree_handle_12 : decode prog_10_method_5_code 12 = .ok (.ifCond .eq 76, 3) := by decide +kernel
theorem d_Tree_handle_15 : decode prog_10_method_5_code 15 = .ok (.iload_n 1, 1) := by decide +kernel
theorem d_Tree_handle_16 : decode prog_10_method_5_code 16 = .ok (.aload_n 0, 1) := by decide +kernel
theorem d_Tree_handle_17 : decode prog_10_method_5_code 17 = .ok (.getfield 28, 3) := by decide +kernel
theorem d_Tree_handle_20 : decode prog_10_method_5_code 20 = .ok (.invokestatic 86, 3) := by decide +kernel
theorem d_Tree_handle_23 : decode prog_10_method_5_code 23 = .ok (.aload_n 0, 1) := by decide +kernel
theorem d_Tree_handle_24 : decode prog_10_method_5_code 24 = .ok (.getfield 19, 3) := by decide +kernel
theorem d_Tree_handle_27 : decode prog_10_method_5_code 27 = .ok (.aload_n 0, 1) := by decide +kernel
theorem d_Tree_handle_28 : decode prog_10_method_5_code 28 = .ok (.getfield 31, 3) := by decide +kernel
theorem d_Tree_handle_31 : decode prog_10_method_5_code 31 = .ok (.ior, 1) := by decide +kernel
theorem d_Tree_handle_32 : decode prog_10_method_5_code 32 = .ok (.iand, 1) := by decide +kernel
theorem d_Tree_handle_33 : decode prog_10_method_5_code 33 = .ok (.ifCond .ne 55, 3) := by decide +kernel
theorem d_Tree_handle_36 : decode prog_10_method_5_code 36 = .ok (.aload_n 0, 1) := by decide +kernel
theorem d_Tree_handle_37 : decode prog_10_method_5_code 37 = .ok (.iload_n 1, 1) := by decide +kernel
theorem d_Tree_handle_38 : decode prog_10_method_5_code 38 = .ok (.invokevirtual 48, 3) := by decide +kernel
theorem d_Tree_handle_41 : decode prog_10_method_5_code 41 = .ok (.aload_n 0, 1) := by decide +kernel
theorem d_Tree_handle_42 : decode prog_10_method_5_code 42 = .ok (.getfield 40, 3) := by decide +kernel
theorem d_Tree_handle_45 : decode prog_10_method_5_code 45 = .ok (.getfield 71, 3) := by decide +kernel
theorem d_Tree_handle_48 : decode prog_10_method_5_code 48 = .ok (.iload_n 1, 1) := by decide +kernel
theorem d_Tree_handle_49 : decode prog_10_method_5_code 49 = .ok (.iconst 0, 1) := by decide +kernel
theorem d_Tree_handle_50 : decode prog_10_method_5_code 50 = .ok (.invokestatic 89, 3) := by decide +kernel
theorem d_Tree_handle_53 : decode prog_10_method_5_code 53 = .ok (.iaload, 1) := by decide +kernel
theorem d_Tree_handle_54 : decode prog_10_method_5_code 54 = .ok (.ifCond .eq 47, 3) := by decide +kernel
theorem d_Tree_handle_57 : decode prog_10_method_5_code 57 = .ok (.aload_n 0, 1) := by decide +kernel
theorem d_Tree_handle_58 : decode prog_10_method_5_code 58 = .ok (.iload_n 1, 1) := by decide +kernel
theorem d_Tree_handle_59 : decode prog_10_method_5_code 59 = .ok (.invokevirtual 92, 3) := by decide +kernel
theorem d_Tree_handle_62 : decode prog_10_method_5_code 62 = .ok (.istore_n 2, 1) := by decide +kernel
theorem d_Tree_handle_63 : decode prog_10_method_5_code 63 = .ok (.aload_n 0, 1) := by decide +kernel
theorem d_Tree_handle_64 : decode prog_10_method_5_code 64 = .ok (.aload_n 0, 1) := by decide +kernel
theorem d_Tree_handle_65 : decode prog_10_method_5_code 65 = .ok (.iload_n 1, 1) := by decide +kernel
theorem d_Tree_handle_66 : decode prog_10_method_5_code 66 = .ok (.iload_n 2, 1) := by decide +kernel
theorem d_Tree_handle_67 : decode prog_10_method_5_code 67 = .ok (.invokevirtual 52, 3) := by decide +kernel
theorem d_Tree_handle_70 : decode prog_10_method_5_code 70 = .ok (.invokevirtual 56, 3) := by decide +kernel
theorem d_Tree_handle_73 : decode prog_10_method_5_code 73 = .ok (.aload_n 0, 1) := by decide +kernel
theorem d_Tree_handle_74 : decode prog_10_method_5_code 74 = .ok (.aload_n 0, 1) := by decide +kernel
theorem d_Tree_handle_75 : decode prog_10_method_5_code 75 = .ok (.iload_n 1, 1) := by decide +kernel
theorem d_Tree_handle_76 : decode prog_10_method_5_code 76 = .ok (.iload_n 2, 1) := by decide +kernel
theorem d_Tree_handle_77 : decode prog_10_method_5_code 77 = .ok (.iconst (-1), 1) := by decide +kernel
theorem d_Tree_handle_78 : decode prog_10_method_5_code 78 = .ok (.ixor, 1) := by decide +kernel
theorem d_Tree_handle_79 : decode prog_10_method_5_code 79 = .ok (.invokevirtual 52, 3) := by decide +kernel
theorem d_Tree_handle_82 : decode prog_10_method_5_code 82 = .ok (.invokevirtual 56, 3) := by decide +kernel
theorem d_Tree_handle_85 : decode prog_10_method_5_code 85 = .ok (.goto 16, 3) := by decide +kernel
theorem d_Tree_handle_88 : decode prog_10_method_5_code 88 = .ok (.aload_n 0, 1) := by decide +kernel
theorem d_Tree_handle_89 : decode prog_10_method_5_code 89 = .ok (.iload_n 1, 1) := by decide +kernel
theorem d_Tree_handle_90 : decode prog_10_method_5_code 90 = .ok (.invokevirtual 96, 3) := by decide +kernel
theorem d_Tree_handle_93 : decode prog_10_method_5_code 93 = .ok (.ifCond .ne 8, 3) := by decide +kernel
theorem d_Tree_handle_96 : decode prog_10_method_5_code 96 = .ok (.aload_n 0, 1) := by decide +kernel
theorem d_Tree_handle_97 : decode prog_10_method_5_code 97 = .ok (.iload_n 1, 1) := by decide +kernel
theorem d_Tree_handle_98 : decode prog_10_method_5_code 98 = .ok (.invokevirtual 99, 3) := by decide +kernel
theorem d_Tree_handle_101 : decode prog_10_method_5_code 101 = .ok (.return_, 1) := by decide +kernel
def B_Tree_handle (_ : Nat × Nat) : PS :=
  (sSq (sIf (cA (e1 (fun x : Int32 => decide (¬ x = 0)) (eX .int (xV 2 2 X_Links_isPack (eFR 8 1 (eR 0)) (aC .int (eI 1) (aC .int (eFI 8 7 (eR 0)) aN))))) (e1 (fun x : Int32 => decide (x = 0)) (e2 (fun x y : Int32 => x &&& y) (eX .int (xS 2 X_PL_setOf (aC .int (eI 1) (aC .int (eFI 8 7 (eR 0)) aN)))) (e2 (fun x y : Int32 => x ||| y) (eFI 8 4 (eR 0)) (eFI 8 8 (eR 0)))))) (sSq (sX (xV 8 1 X_Tree_addPack (eR 0) (aC .int (eI 1) aN)))
    (sIf (e1 (fun x : Int32 => decide (¬ x = 0)) (eAI (eFR 1 0 (eFR 8 0 (eR 0))) (eX .int (xS 2 X_PL_inLane (aC .int (eI 1) (aC .int (eV (0 : Int32)) aN)))))) (sCut 2 (sSq (sI 2 (eX .int (xV 8 1 X_Tree_turnedLanes (eR 0) (aC .int (eI 1) aN))))
    (sSq (sX (xV 8 1 X_Tree_append (eR 0) (aC .int (eX .int (xV 8 2 X_Tree_operands (eR 0) (aC .int (eI 1) (aC .int (eI 2) aN)))) aN)))
    (sX (xV 8 1 X_Tree_append (eR 0) (aC .int (eX .int (xV 8 2 X_Tree_operands (eR 0) (aC .int (eI 1) (aC .int (e2 (fun x y : Int32 => x ^^^ y) (eI 2) (eV (-1 : Int32))) aN)))) aN)))))) sSk)) (sIf (cN (e1 (fun x : Int32 => decide (¬ x = 0)) (eX .int (xV 8 1 X_Tree_hasPack (eR 0) (aC .int (eI 1) aN))))) (sX (xV 8 1 X_Tree_takeOneByOne (eR 0) (aC .int (eI 1) aN))) sSk))
    sRv)
def X_Tree_handle : PM := fun vs h Q => (lx vs).length ≤ 3 ∧ B_Tree_handle (h.length + 0, hsz h + 0) (fun _ _ => False) (fun _ _ => False) (fun _ _ => False) Q (lini 3 vs) h
theorem v_Tree_handle (l : Launch) : Ctr l y_Tree_handle prog_10_method_5_code 3 none rm_Tree_handle X_Tree_handle := by
  refine Ctr_of (own := "PackLanes$Tree") (B := B_Tree_handle) (KR := fun _ Q => Q) (by decide) rfl (fun _ _ _ z => z) (fun _ _ _ _ z => ⟨Or.inl ⟨rfl, rfl⟩, z⟩) (Or.inl rfl) (fun κ hl ho hR hrt hn0 => ?_)
  subst hl
  unfold B_Tree_handle
  exact (S_sq (pc1 := 101) (S_if2 (pT := 36) (pF := 88) (pN := 101) (C_and (pc1 := 15) (J1_ne (pF := 88) (pc2 := 12) (E_x (O_V k_Tree_83 (v_Links_isPack _) ⟨rfl, rfl⟩ ho (rk hR rfl) (by decide) (T := KT2) (N := 5) rfl (by decide) (pc1 := 4) (pc2 := 9) (E_fR f_Tree_44 ho (pc1 := 1) (E_aln d_Tree_handle_0 rfl) d_Tree_handle_1) (A_c catI (pc1 := 5) (E_iln d_Tree_handle_4 rfl) (A_c catI (pc1 := 9) (E_fI f_Tree_28 ho (pc1 := 6) (E_aln d_Tree_handle_5 rfl) d_Tree_handle_6) A_n)) d_Tree_handle_9)) d_Tree_handle_12 rfl) (J1_eq (pF := 88) (pc2 := 33) (E_iand (pc1 := 23) (pc2 := 32) (E_x (O_SN k_Tree_86 (v_PL_setOf _) ⟨rfl, rfl⟩ ho (rk hR rfl) (by decide) (pc2 := 20) (A_c catI (pc1 := 16) (E_iln d_Tree_handle_15 rfl) (A_c catI (pc1 := 20) (E_fI f_Tree_28 ho (pc1 := 17) (E_aln d_Tree_handle_16 rfl) d_Tree_handle_17) A_n)) d_Tree_handle_20)) (E_ior (pc1 := 27) (pc2 := 31) (E_fI f_Tree_19 ho (pc1 := 24) (E_aln d_Tree_handle_23 rfl) d_Tree_handle_24) (E_fI f_Tree_31 ho (pc1 := 28) (E_aln d_Tree_handle_27 rfl) d_Tree_handle_28) d_Tree_handle_31) d_Tree_handle_32) d_Tree_handle_33 rfl)) (S_sq (pc1 := 41) (S_X (O_V k_Tree_48 (v_Tree_addPack _) ⟨rfl, rfl⟩ ho (rk hR rfl) (by decide) (T := KT8) (N := 11) rfl (by decide) (pc1 := 37) (pc2 := 38) (E_aln d_Tree_handle_36 rfl) (A_c catI (pc1 := 38) (E_iln d_Tree_handle_37 rfl) A_n) d_Tree_handle_38))
    (S_if1 (pT := 57) (pF := 101) (J1_ne (pF := 101) (pc2 := 54) (E_aI (pc1 := 48) (pc2 := 53) (E_fR f_Tree_71 ho (pc1 := 45) (E_fR f_Tree_40 ho (pc1 := 42) (E_aln d_Tree_handle_41 rfl) d_Tree_handle_42) d_Tree_handle_45) (E_x (O_SN k_Tree_89 (v_PL_inLane _) ⟨rfl, rfl⟩ ho (rk hR rfl) (by decide) (pc2 := 50) (A_c catI (pc1 := 49) (E_iln d_Tree_handle_48 rfl) (A_c catI (pc1 := 50) (E_ic d_Tree_handle_49 rfl) A_n)) d_Tree_handle_50)) d_Tree_handle_53) d_Tree_handle_54 rfl) (S_go (pc1 := 85) (S_cut (S_sq (pc1 := 63) (S_In (pc1 := 62) (E_x (O_V k_Tree_92 (v_Tree_turnedLanes _) ⟨rfl, rfl⟩ ho (rk hR rfl) (by decide) (T := KT8) (N := 11) rfl (by decide) (pc1 := 58) (pc2 := 59) (E_aln d_Tree_handle_57 rfl) (A_c catI (pc1 := 59) (E_iln d_Tree_handle_58 rfl) A_n) d_Tree_handle_59)) d_Tree_handle_62 rfl)
    (S_sq (pc1 := 73) (S_X (O_V k_Tree_56 (v_Tree_append _) ⟨rfl, rfl⟩ ho (rk hR rfl) (by decide) (T := KT8) (N := 11) rfl (by decide) (pc1 := 64) (pc2 := 70) (E_aln d_Tree_handle_63 rfl) (A_c catI (pc1 := 70) (E_x (O_V k_Tree_52 (v_Tree_operands _) ⟨rfl, rfl⟩ ho (rk hR rfl) (by decide) (T := KT8) (N := 11) rfl (by decide) (pc1 := 65) (pc2 := 67) (E_aln d_Tree_handle_64 rfl) (A_c catI (pc1 := 66) (E_iln d_Tree_handle_65 rfl) (A_c catI (pc1 := 67) (E_iln d_Tree_handle_66 rfl) A_n)) d_Tree_handle_67)) A_n) d_Tree_handle_70))
    (S_X (O_V k_Tree_56 (v_Tree_append _) ⟨rfl, rfl⟩ ho (rk hR rfl) (by decide) (T := KT8) (N := 11) rfl (by decide) (pc1 := 74) (pc2 := 82) (E_aln d_Tree_handle_73 rfl) (A_c catI (pc1 := 82) (E_x (O_V k_Tree_52 (v_Tree_operands _) ⟨rfl, rfl⟩ ho (rk hR rfl) (by decide) (T := KT8) (N := 11) rfl (by decide) (pc1 := 75) (pc2 := 79) (E_aln d_Tree_handle_74 rfl) (A_c catI (pc1 := 76) (E_iln d_Tree_handle_75 rfl) (A_c catI (pc1 := 79) (E_ixor (pc1 := 77) (pc2 := 78) (E_iln d_Tree_handle_76 rfl) (E_ic d_Tree_handle_77 rfl) d_Tree_handle_78) A_n)) d_Tree_handle_79)) A_n) d_Tree_handle_82))))) d_Tree_handle_85 rfl))) (S_if1 (pT := 96) (pF := 101) (C_not (T1_ne (pT := 101) (pc2 := 93) (E_x (O_V k_Tree_96 (v_Tree_hasPack _) ⟨rfl, rfl⟩ ho (rk hR rfl) (by decide) (T := KT8) (N := 11) rfl (by decide) (pc1 := 89) (pc2 := 90) (E_aln d_Tree_handle_88 rfl) (A_c catI (pc1 := 90) (E_iln d_Tree_handle_89 rfl) A_n) d_Tree_handle_90)) d_Tree_handle_93 rfl)) (S_X (O_V k_Tree_99 (v_Tree_takeOneByOne _) ⟨rfl, rfl⟩ ho (rk hR rfl) (by decide) (T := KT8) (N := 11) rfl (by decide) (pc1 := 97) (pc2 := 98) (E_aln d_Tree_handle_96 rfl) (A_c catI (pc1 := 98) (E_iln d_Tree_handle_97 rfl) A_n) d_Tree_handle_98))))
    (S_rv hrt d_Tree_handle_101))
theorem d_Tree_grow_0 : decode prog_10_method_2_code 0 = .ok (.aload_n 0, 1) := by decide +kernel
theorem d_Tree_grow_1 : decode prog_10_method_2_code 1 = .ok (.iload_n 2, 1) := by decide +kernel
theorem d_Tree_grow_2 : decode prog_10_method_2_code 2 = .ok (.putfield 28, 3) := by decide +kernel
theorem d_Tree_grow_5 : decode prog_10_method_2_code 5 = .ok (.aload_n 0, 1) := by decide +kernel
theorem d_Tree_grow_6 : decode prog_10_method_2_code 6 = .ok (.iload_n 3, 1) := by decide +kernel
theorem d_Tree_grow_7 : decode prog_10_method_2_code 7 = .ok (.putfield 31, 3) := by decide +kernel
theorem d_Tree_grow_10 : decode prog_10_method_2_code 10 = .ok (.aload_n 0, 1) := by decide +kernel
theorem d_Tree_grow_11 : decode prog_10_method_2_code 11 = .ok (.iconst 0, 1) := by decide +kernel
theorem d_Tree_grow_12 : decode prog_10_method_2_code 12 = .ok (.putfield 15, 3) := by decide +kernel
theorem d_Tree_grow_15 : decode prog_10_method_2_code 15 = .ok (.aload_n 0, 1) := by decide +kernel
theorem d_Tree_grow_16 : decode prog_10_method_2_code 16 = .ok (.iconst 0, 1) := by decide +kernel
theorem d_Tree_grow_17 : decode prog_10_method_2_code 17 = .ok (.putfield 19, 3) := by decide +kernel
theorem d_Tree_grow_20 : decode prog_10_method_2_code 20 = .ok (.aload_n 0, 1) := by decide +kernel
theorem d_Tree_grow_21 : decode prog_10_method_2_code 21 = .ok (.iconst 0, 1) := by decide +kernel
theorem d_Tree_grow_22 : decode prog_10_method_2_code 22 = .ok (.putfield 25, 3) := by decide +kernel
theorem d_Tree_grow_25 : decode prog_10_method_2_code 25 = .ok (.aload_n 0, 1) := by decide +kernel
theorem d_Tree_grow_26 : decode prog_10_method_2_code 26 = .ok (.iconst 0, 1) := by decide +kernel
theorem d_Tree_grow_27 : decode prog_10_method_2_code 27 = .ok (.putfield 34, 3) := by decide +kernel
theorem d_Tree_grow_30 : decode prog_10_method_2_code 30 = .ok (.aload_n 0, 1) := by decide +kernel
theorem d_Tree_grow_31 : decode prog_10_method_2_code 31 = .ok (.iconst 0, 1) := by decide +kernel
theorem d_Tree_grow_32 : decode prog_10_method_2_code 32 = .ok (.putfield 37, 3) := by decide +kernel
theorem d_Tree_grow_35 : decode prog_10_method_2_code 35 = .ok (.aload_n 0, 1) := by decide +kernel
theorem d_Tree_grow_36 : decode prog_10_method_2_code 36 = .ok (.iload_n 1, 1) := by decide +kernel
theorem d_Tree_grow_37 : decode prog_10_method_2_code 37 = .ok (.invokevirtual 48, 3) := by decide +kernel
theorem d_Tree_grow_40 : decode prog_10_method_2_code 40 = .ok (.aload_n 0, 1) := by decide +kernel
theorem d_Tree_grow_41 : decode prog_10_method_2_code 41 = .ok (.aload_n 0, 1) := by decide +kernel
theorem d_Tree_grow_42 : decode prog_10_method_2_code 42 = .ok (.iload_n 1, 1) := by decide +kernel
theorem d_Tree_grow_43 : decode prog_10_method_2_code 43 = .ok (.iconst 0, 1) := by decide +kernel
theorem d_Tree_grow_44 : decode prog_10_method_2_code 44 = .ok (.invokevirtual 52, 3) := by decide +kernel
theorem d_Tree_grow_47 : decode prog_10_method_2_code 47 = .ok (.invokevirtual 56, 3) := by decide +kernel
theorem d_Tree_grow_50 : decode prog_10_method_2_code 50 = .ok (.iconst 0, 1) := by decide +kernel
theorem d_Tree_grow_51 : decode prog_10_method_2_code 51 = .ok (.istore 4, 2) := by decide +kernel
theorem d_Tree_grow_53 : decode prog_10_method_2_code 53 = .ok (.iload 4, 2) := by decide +kernel
theorem d_Tree_grow_55 : decode prog_10_method_2_code 55 = .ok (.aload_n 0, 1) := by decide +kernel
theorem d_Tree_grow_56 : decode prog_10_method_2_code 56 = .ok (.getfield 25, 3) := by decide +kernel
theorem d_Tree_grow_59 : decode prog_10_method_2_code 59 = .ok (.if_icmp .ge 27, 3) := by decide +kernel
theorem d_Tree_grow_62 : decode prog_10_method_2_code 62 = .ok (.iload 4, 2) := by decide +kernel
theorem d_Tree_grow_64 : decode prog_10_method_2_code 64 = .ok (.bipush 16, 2) := by decide +kernel
theorem d_Tree_grow_66 : decode prog_10_method_2_code 66 = .ok (.if_icmp .ge 20, 3) := by decide +kernel
theorem d_Tree_grow_69 : decode prog_10_method_2_code 69 = .ok (.aload_n 0, 1) := by decide +kernel
theorem d_Tree_grow_70 : decode prog_10_method_2_code 70 = .ok (.aload_n 0, 1) := by decide +kernel
theorem d_Tree_grow_71 : decode prog_10_method_2_code 71 = .ok (.getfield 22, 3) := by decide +kernel
theorem d_Tree_grow_74 : decode prog_10_method_2_code 74 = .ok (.iload 4, 2) := by decide +kernel
theorem d_Tree_grow_76 : decode prog_10_method_2_code 76 = .ok (.iaload, 1) := by decide +kernel
theorem d_Tree_grow_77 : decode prog_10_method_2_code 77 = .ok (.invokevirtual 59, 3) := by decide +kernel
theorem d_Tree_grow_80 : decode prog_10_method_2_code 80 = .ok (.iinc 4 1, 3) := by decide +kernel
theorem d_Tree_grow_83 : decode prog_10_method_2_code 83 = .ok (.goto (-30), 3) := by decide +kernel
theorem d_Tree_grow_86 : decode prog_10_method_2_code 86 = .ok (.return_, 1) := by decide +kernel
def B_Tree_grow (_ : Nat × Nat) : PS :=
  (sSq (sF .int 8 7 (eR 0) (eI 2))
    (sSq (sF .int 8 8 (eR 0) (eI 3))
    (sSq (sF .int 8 3 (eR 0) (eV (0 : Int32)))
    (sSq (sF .int 8 4 (eR 0) (eV (0 : Int32)))
    (sSq (sF .int 8 6 (eR 0) (eV (0 : Int32)))
    (sSq (sF .int 8 9 (eR 0) (eV (0 : Int32)))
    (sSq (sF .int 8 10 (eR 0) (eV (0 : Int32)))
    (sSq (sX (xV 8 1 X_Tree_addPack (eR 0) (aC .int (eI 1) aN)))
    (sSq (sX (xV 8 1 X_Tree_append (eR 0) (aC .int (eX .int (xV 8 2 X_Tree_operands (eR 0) (aC .int (eI 1) (aC .int (eV (0 : Int32)) aN)))) aN)))
    (sSq (sCut 4 (sSq (sI 4 (eV (0 : Int32)))
    (sLp 5 (cA (e2 (fun x y : Int32 => decide (x < y)) (eI 4) (eFI 8 6 (eR 0))) (e2 (fun x y : Int32 => decide (x < y)) (eI 4) (eV (16 : Int32))))
    (sX (xV 8 1 X_Tree_handle (eR 0) (aC .int (eAI (eFR 8 5 (eR 0)) (eI 4)) aN)))
    (sInc 4 (1)))))
    sRv))))))))))
def X_Tree_grow : PM := fun vs h Q => (lx vs).length ≤ 5 ∧ B_Tree_grow (h.length + 0, hsz h + 0) (fun _ _ => False) (fun _ _ => False) (fun _ _ => False) Q (lini 5 vs) h
theorem v_Tree_grow (l : Launch) : Ctr l y_Tree_grow prog_10_method_2_code 5 none rm_Tree_grow X_Tree_grow := by
  refine Ctr_of (own := "PackLanes$Tree") (B := B_Tree_grow) (KR := fun _ Q => Q) (by decide) rfl (fun _ _ _ z => z) (fun _ _ _ _ z => ⟨Or.inl ⟨rfl, rfl⟩, z⟩) (Or.inl rfl) (fun κ hl ho hR hrt hn0 => ?_)
  subst hl
  unfold B_Tree_grow
  exact (S_sq (pc1 := 5) (S_FI f_Tree_28 ho (pc1 := 1) (pc2 := 2) (E_aln d_Tree_grow_0 rfl) (E_iln d_Tree_grow_1 rfl) d_Tree_grow_2)
    (S_sq (pc1 := 10) (S_FI f_Tree_31 ho (pc1 := 6) (pc2 := 7) (E_aln d_Tree_grow_5 rfl) (E_iln d_Tree_grow_6 rfl) d_Tree_grow_7)
    (S_sq (pc1 := 15) (S_FI f_Tree_15 ho (pc1 := 11) (pc2 := 12) (E_aln d_Tree_grow_10 rfl) (E_ic d_Tree_grow_11 rfl) d_Tree_grow_12)
    (S_sq (pc1 := 20) (S_FI f_Tree_19 ho (pc1 := 16) (pc2 := 17) (E_aln d_Tree_grow_15 rfl) (E_ic d_Tree_grow_16 rfl) d_Tree_grow_17)
    (S_sq (pc1 := 25) (S_FI f_Tree_25 ho (pc1 := 21) (pc2 := 22) (E_aln d_Tree_grow_20 rfl) (E_ic d_Tree_grow_21 rfl) d_Tree_grow_22)
    (S_sq (pc1 := 30) (S_FI f_Tree_34 ho (pc1 := 26) (pc2 := 27) (E_aln d_Tree_grow_25 rfl) (E_ic d_Tree_grow_26 rfl) d_Tree_grow_27)
    (S_sq (pc1 := 35) (S_FI f_Tree_37 ho (pc1 := 31) (pc2 := 32) (E_aln d_Tree_grow_30 rfl) (E_ic d_Tree_grow_31 rfl) d_Tree_grow_32)
    (S_sq (pc1 := 40) (S_X (O_V k_Tree_48 (v_Tree_addPack _) ⟨rfl, rfl⟩ ho (rk hR rfl) (by decide) (T := KT8) (N := 11) rfl (by decide) (pc1 := 36) (pc2 := 37) (E_aln d_Tree_grow_35 rfl) (A_c catI (pc1 := 37) (E_iln d_Tree_grow_36 rfl) A_n) d_Tree_grow_37))
    (S_sq (pc1 := 50) (S_X (O_V k_Tree_56 (v_Tree_append _) ⟨rfl, rfl⟩ ho (rk hR rfl) (by decide) (T := KT8) (N := 11) rfl (by decide) (pc1 := 41) (pc2 := 47) (E_aln d_Tree_grow_40 rfl) (A_c catI (pc1 := 47) (E_x (O_V k_Tree_52 (v_Tree_operands _) ⟨rfl, rfl⟩ ho (rk hR rfl) (by decide) (T := KT8) (N := 11) rfl (by decide) (pc1 := 42) (pc2 := 44) (E_aln d_Tree_grow_41 rfl) (A_c catI (pc1 := 43) (E_iln d_Tree_grow_42 rfl) (A_c catI (pc1 := 44) (E_ic d_Tree_grow_43 rfl) A_n)) d_Tree_grow_44)) A_n) d_Tree_grow_47))
    (S_sq (pc1 := 86) (S_cut (S_sq (pc1 := 53) (S_I (pc1 := 51) (E_ic d_Tree_grow_50 rfl) d_Tree_grow_51)
    (S_lp (pT := 69) (pF := 86) (pS := 80) (pG := 83) (C_and (pc1 := 62) (J2_lt (pF := 86) (pc1 := 55) (pc2 := 59) (E_il d_Tree_grow_53) (E_fI f_Tree_25 ho (pc1 := 56) (E_aln d_Tree_grow_55 rfl) d_Tree_grow_56) d_Tree_grow_59 rfl) (J2_lt (pF := 86) (pc1 := 64) (pc2 := 66) (E_il d_Tree_grow_62) (E_bi d_Tree_grow_64 rfl) d_Tree_grow_66 rfl))
    (S_X (O_V k_Tree_59 (v_Tree_handle _) ⟨rfl, rfl⟩ ho (rk hR rfl) (by decide) (T := KT8) (N := 11) rfl (by decide) (pc1 := 70) (pc2 := 77) (E_aln d_Tree_grow_69 rfl) (A_c catI (pc1 := 77) (E_aI (pc1 := 74) (pc2 := 76) (E_fR f_Tree_22 ho (pc1 := 71) (E_aln d_Tree_grow_70 rfl) d_Tree_grow_71) (E_il d_Tree_grow_74) d_Tree_grow_76) A_n) d_Tree_grow_77))
    (S_Inc d_Tree_grow_80 rfl) d_Tree_grow_83 rfl)))
    (S_rv hrt d_Tree_grow_86)))))))))))
theorem d_Pack_considerRoot_0 : decode prog_6_method_7_code 0 = .ok (.aload_n 0, 1) := by decide +kernel
theorem d_Pack_considerRoot_1 : decode prog_6_method_7_code 1 = .ok (.getfield 64, 3) := by decide +kernel
theorem d_Pack_considerRoot_4 : decode prog_6_method_7_code 4 = .ok (.iload_n 1, 1) := by decide +kernel
theorem d_Pack_considerRoot_5 : decode prog_6_method_7_code 5 = .ok (.aload_n 0, 1) := by decide +kernel
theorem d_Pack_considerRoot_6 : decode prog_6_method_7_code 6 = .ok (.getfield 9, 3) := by decide +kernel
theorem d_Pack_considerRoot_9 : decode prog_6_method_7_code 9 = .ok (.aload_n 0, 1) := by decide +kernel
theorem d_Pack_considerRoot_10 : decode prog_6_method_7_code 10 = .ok (.getfield 37, 3) := by decide +kernel
theorem d_Pack_considerRoot_13 : decode prog_6_method_7_code 13 = .ok (.invokevirtual 99, 3) := by decide +kernel
theorem d_Pack_considerRoot_16 : decode prog_6_method_7_code 16 = .ok (.aload_n 0, 1) := by decide +kernel
theorem d_Pack_considerRoot_17 : decode prog_6_method_7_code 17 = .ok (.getfield 64, 3) := by decide +kernel
theorem d_Pack_considerRoot_20 : decode prog_6_method_7_code 20 = .ok (.invokevirtual 102, 3) := by decide +kernel
theorem d_Pack_considerRoot_23 : decode prog_6_method_7_code 23 = .ok (.istore_n 2, 1) := by decide +kernel
theorem d_Pack_considerRoot_24 : decode prog_6_method_7_code 24 = .ok (.iload_n 2, 1) := by decide +kernel
theorem d_Pack_considerRoot_25 : decode prog_6_method_7_code 25 = .ok (.ifCond .gt 4, 3) := by decide +kernel
theorem d_Pack_considerRoot_28 : decode prog_6_method_7_code 28 = .ok (.return_, 1) := by decide +kernel
theorem d_Pack_considerRoot_29 : decode prog_6_method_7_code 29 = .ok (.aload_n 0, 1) := by decide +kernel
theorem d_Pack_considerRoot_30 : decode prog_6_method_7_code 30 = .ok (.iconst 1, 1) := by decide +kernel
theorem d_Pack_considerRoot_31 : decode prog_6_method_7_code 31 = .ok (.invokevirtual 126, 3) := by decide +kernel
theorem d_Pack_considerRoot_34 : decode prog_6_method_7_code 34 = .ok (.aload_n 0, 1) := by decide +kernel
theorem d_Pack_considerRoot_35 : decode prog_6_method_7_code 35 = .ok (.invokevirtual 84, 3) := by decide +kernel
theorem d_Pack_considerRoot_38 : decode prog_6_method_7_code 38 = .ok (.ifCond .ne 9, 3) := by decide +kernel
theorem d_Pack_considerRoot_41 : decode prog_6_method_7_code 41 = .ok (.aload_n 0, 1) := by decide +kernel
theorem d_Pack_considerRoot_42 : decode prog_6_method_7_code 42 = .ok (.iconst 0, 1) := by decide +kernel
theorem d_Pack_considerRoot_43 : decode prog_6_method_7_code 43 = .ok (.invokevirtual 126, 3) := by decide +kernel
theorem d_Pack_considerRoot_46 : decode prog_6_method_7_code 46 = .ok (.return_, 1) := by decide +kernel
theorem d_Pack_considerRoot_47 : decode prog_6_method_7_code 47 = .ok (.iconst 0, 1) := by decide +kernel
theorem d_Pack_considerRoot_48 : decode prog_6_method_7_code 48 = .ok (.istore_n 3, 1) := by decide +kernel
theorem d_Pack_considerRoot_49 : decode prog_6_method_7_code 49 = .ok (.iload_n 3, 1) := by decide +kernel
theorem d_Pack_considerRoot_50 : decode prog_6_method_7_code 50 = .ok (.aload_n 0, 1) := by decide +kernel
theorem d_Pack_considerRoot_51 : decode prog_6_method_7_code 51 = .ok (.getfield 64, 3) := by decide +kernel
theorem d_Pack_considerRoot_54 : decode prog_6_method_7_code 54 = .ok (.getfield 130, 3) := by decide +kernel
theorem d_Pack_considerRoot_57 : decode prog_6_method_7_code 57 = .ok (.if_icmp .ge 73, 3) := by decide +kernel
theorem d_Pack_considerRoot_60 : decode prog_6_method_7_code 60 = .ok (.iconst 0, 1) := by decide +kernel
theorem d_Pack_considerRoot_61 : decode prog_6_method_7_code 61 = .ok (.istore 4, 2) := by decide +kernel
theorem d_Pack_considerRoot_63 : decode prog_6_method_7_code 63 = .ok (.iload 4, 2) := by decide +kernel
theorem d_Pack_considerRoot_65 : decode prog_6_method_7_code 65 = .ok (.aload_n 0, 1) := by decide +kernel
theorem d_Pack_considerRoot_66 : decode prog_6_method_7_code 66 = .ok (.getfield 9, 3) := by decide +kernel
theorem d_Pack_considerRoot_69 : decode prog_6_method_7_code 69 = .ok (.if_icmp .ge 45, 3) := by decide +kernel
theorem d_Pack_considerRoot_72 : decode prog_6_method_7_code 72 = .ok (.aload_n 0, 1) := by decide +kernel
theorem d_Pack_considerRoot_73 : decode prog_6_method_7_code 73 = .ok (.getfield 64, 3) := by decide +kernel
theorem d_Pack_considerRoot_76 : decode prog_6_method_7_code 76 = .ok (.getfield 133, 3) := by decide +kernel
theorem d_Pack_considerRoot_79 : decode prog_6_method_7_code 79 = .ok (.iload_n 3, 1) := by decide +kernel
theorem d_Pack_considerRoot_80 : decode prog_6_method_7_code 80 = .ok (.iaload, 1) := by decide +kernel
theorem d_Pack_considerRoot_81 : decode prog_6_method_7_code 81 = .ok (.iload 4, 2) := by decide +kernel
theorem d_Pack_considerRoot_83 : decode prog_6_method_7_code 83 = .ok (.invokestatic 135, 3) := by decide +kernel
theorem d_Pack_considerRoot_86 : decode prog_6_method_7_code 86 = .ok (.istore 5, 2) := by decide +kernel
theorem d_Pack_considerRoot_88 : decode prog_6_method_7_code 88 = .ok (.aload_n 0, 1) := by decide +kernel
theorem d_Pack_considerRoot_89 : decode prog_6_method_7_code 89 = .ok (.getfield 19, 3) := by decide +kernel
theorem d_Pack_considerRoot_92 : decode prog_6_method_7_code 92 = .ok (.iload 5, 2) := by decide +kernel
theorem d_Pack_considerRoot_94 : decode prog_6_method_7_code 94 = .ok (.aload_n 0, 1) := by decide +kernel
theorem d_Pack_considerRoot_95 : decode prog_6_method_7_code 95 = .ok (.getfield 34, 3) := by decide +kernel
theorem d_Pack_considerRoot_98 : decode prog_6_method_7_code 98 = .ok (.iastore, 1) := by decide +kernel
theorem d_Pack_considerRoot_99 : decode prog_6_method_7_code 99 = .ok (.aload_n 0, 1) := by decide +kernel
theorem d_Pack_considerRoot_100 : decode prog_6_method_7_code 100 = .ok (.getfield 22, 3) := by decide +kernel
theorem d_Pack_considerRoot_103 : decode prog_6_method_7_code 103 = .ok (.iload 5, 2) := by decide +kernel
theorem d_Pack_considerRoot_105 : decode prog_6_method_7_code 105 = .ok (.iload 4, 2) := by decide +kernel
theorem d_Pack_considerRoot_107 : decode prog_6_method_7_code 107 = .ok (.iastore, 1) := by decide +kernel
theorem d_Pack_considerRoot_108 : decode prog_6_method_7_code 108 = .ok (.iinc 4 1, 3) := by decide +kernel
theorem d_Pack_considerRoot_111 : decode prog_6_method_7_code 111 = .ok (.goto (-48), 3) := by decide +kernel
theorem d_Pack_considerRoot_114 : decode prog_6_method_7_code 114 = .ok (.aload_n 0, 1) := by decide +kernel
theorem d_Pack_considerRoot_115 : decode prog_6_method_7_code 115 = .ok (.dup, 1) := by decide +kernel
theorem d_Pack_considerRoot_116 : decode prog_6_method_7_code 116 = .ok (.getfield 34, 3) := by decide +kernel
theorem d_Pack_considerRoot_119 : decode prog_6_method_7_code 119 = .ok (.iconst 1, 1) := by decide +kernel
theorem d_Pack_considerRoot_120 : decode prog_6_method_7_code 120 = .ok (.iadd, 1) := by decide +kernel
theorem d_Pack_considerRoot_121 : decode prog_6_method_7_code 121 = .ok (.putfield 34, 3) := by decide +kernel
theorem d_Pack_considerRoot_124 : decode prog_6_method_7_code 124 = .ok (.iinc 3 1, 3) := by decide +kernel
theorem d_Pack_considerRoot_127 : decode prog_6_method_7_code 127 = .ok (.goto (-78), 3) := by decide +kernel
theorem d_Pack_considerRoot_130 : decode prog_6_method_7_code 130 = .ok (.aload_n 0, 1) := by decide +kernel
theorem d_Pack_considerRoot_131 : decode prog_6_method_7_code 131 = .ok (.dup, 1) := by decide +kernel
theorem d_Pack_considerRoot_132 : decode prog_6_method_7_code 132 = .ok (.getfield 37, 3) := by decide +kernel
theorem d_Pack_considerRoot_135 : decode prog_6_method_7_code 135 = .ok (.aload_n 0, 1) := by decide +kernel
theorem d_Pack_considerRoot_136 : decode prog_6_method_7_code 136 = .ok (.getfield 64, 3) := by decide +kernel
theorem d_Pack_considerRoot_139 : decode prog_6_method_7_code 139 = .ok (.getfield 138, 3) := by decide +kernel
theorem d_Pack_considerRoot_142 : decode prog_6_method_7_code 142 = .ok (.ior, 1) := by decide +kernel
theorem d_Pack_considerRoot_143 : decode prog_6_method_7_code 143 = .ok (.putfield 37, 3) := by decide +kernel
theorem d_Pack_considerRoot_146 : decode prog_6_method_7_code 146 = .ok (.aload_n 0, 1) := by decide +kernel
theorem d_Pack_considerRoot_147 : decode prog_6_method_7_code 147 = .ok (.dup, 1) := by decide +kernel
theorem d_Pack_considerRoot_148 : decode prog_6_method_7_code 148 = .ok (.getfield 40, 3) := by decide +kernel
theorem d_Pack_considerRoot_151 : decode prog_6_method_7_code 151 = .ok (.iconst 1, 1) := by decide +kernel
theorem d_Pack_considerRoot_152 : decode prog_6_method_7_code 152 = .ok (.iadd, 1) := by decide +kernel
theorem d_Pack_considerRoot_153 : decode prog_6_method_7_code 153 = .ok (.putfield 40, 3) := by decide +kernel
theorem d_Pack_considerRoot_156 : decode prog_6_method_7_code 156 = .ok (.aload_n 0, 1) := by decide +kernel
theorem d_Pack_considerRoot_157 : decode prog_6_method_7_code 157 = .ok (.dup, 1) := by decide +kernel
theorem d_Pack_considerRoot_158 : decode prog_6_method_7_code 158 = .ok (.getfield 43, 3) := by decide +kernel
theorem d_Pack_considerRoot_161 : decode prog_6_method_7_code 161 = .ok (.iload_n 2, 1) := by decide +kernel
theorem d_Pack_considerRoot_162 : decode prog_6_method_7_code 162 = .ok (.iadd, 1) := by decide +kernel
theorem d_Pack_considerRoot_163 : decode prog_6_method_7_code 163 = .ok (.putfield 43, 3) := by decide +kernel
theorem d_Pack_considerRoot_166 : decode prog_6_method_7_code 166 = .ok (.return_, 1) := by decide +kernel
def B_Pack_considerRoot (_ : Nat × Nat) : PS :=
  (sSq (sX (xV 8 3 X_Tree_grow (eFR 4 2 (eR 0)) (aC .int (eI 1) (aC .int (eFI 4 3 (eR 0)) (aC .int (eFI 4 11 (eR 0)) aN)))))
    (sSq (sI 2 (eX .int (xV 8 0 X_Tree_gain (eFR 4 2 (eR 0)) aN)))
    (sSq (sIf (e1 (fun x : Int32 => decide (x ≤ 0)) (eI 2)) sRv sSk)
    (sSq (sX (xV 4 1 X_Pack_joinTree (eR 0) (aC .int (eV (1 : Int32)) aN)))
    (sSq (sIf (cN (e1 (fun x : Int32 => decide (¬ x = 0)) (eX .int (xV 4 0 X_Pack_putInOrder (eR 0) aN)))) (sSq (sX (xV 4 1 X_Pack_joinTree (eR 0) (aC .int (eV (0 : Int32)) aN)))
    sRv) sSk)
    (sSq (sCut 3 (sSq (sI 3 (eV (0 : Int32)))
    (sLp 4 (e2 (fun x y : Int32 => decide (x < y)) (eI 3) (eFI 8 3 (eFR 4 2 (eR 0))))
    (sSq (sCut 4 (sSq (sI 4 (eV (0 : Int32)))
    (sLp 5 (e2 (fun x y : Int32 => decide (x < y)) (eI 4) (eFI 4 3 (eR 0)))
    (sCut 5 (sSq (sI 5 (eX .int (xS 2 X_PL_inLane (aC .int (eAI (eFR 8 2 (eFR 4 2 (eR 0))) (eI 3)) (aC .int (eI 4) aN)))))
    (sSq (sAI (eFR 4 5 (eR 0)) (eI 5) (eFI 4 10 (eR 0)))
    (sAI (eFR 4 6 (eR 0)) (eI 5) (eI 4)))))
    (sInc 4 (1)))))
    (sFO 4 10 (fun x y : Int32 => x + y) (eR 0) (eV (1 : Int32))))
    (sInc 3 (1)))))
    (sSq (sFO 4 11 (fun x y : Int32 => x ||| y) (eR 0) (eFI 8 4 (eFR 4 2 (eR 0))))
    (sSq (sFO 4 12 (fun x y : Int32 => x + y) (eR 0) (eV (1 : Int32)))
    (sSq (sFO 4 13 (fun x y : Int32 => x + y) (eR 0) (eI 2))
    sRv)))))))))
def X_Pack_considerRoot : PM := fun vs h Q => (lx vs).length ≤ 6 ∧ B_Pack_considerRoot (h.length + 0, hsz h + 0) (fun _ _ => False) (fun _ _ => False) (fun _ _ => False) Q (lini 6 vs) h
theorem v_Pack_considerRoot (l : Launch) : Ctr l y_Pack_considerRoot prog_6_method_7_code 6 none rm_Pack_considerRoot X_Pack_considerRoot := by
  refine Ctr_of (own := "PackLanes$Packer") (B := B_Pack_considerRoot) (KR := fun _ Q => Q) (by decide) rfl (fun _ _ _ z => z) (fun _ _ _ _ z => ⟨Or.inl ⟨rfl, rfl⟩, z⟩) (Or.inl rfl) (fun κ hl ho hR hrt hn0 => ?_)
  subst hl
  unfold B_Pack_considerRoot
  exact (S_sq (pc1 := 16) (S_X (O_V k_Pack_99 (v_Tree_grow _) ⟨rfl, rfl⟩ ho (rk hR rfl) (by decide) (T := KT8) (N := 11) rfl (by decide) (pc1 := 4) (pc2 := 13) (E_fR f_Pack_64 ho (pc1 := 1) (E_aln d_Pack_considerRoot_0 rfl) d_Pack_considerRoot_1) (A_c catI (pc1 := 5) (E_iln d_Pack_considerRoot_4 rfl) (A_c catI (pc1 := 9) (E_fI f_Pack_9 ho (pc1 := 6) (E_aln d_Pack_considerRoot_5 rfl) d_Pack_considerRoot_6) (A_c catI (pc1 := 13) (E_fI f_Pack_37 ho (pc1 := 10) (E_aln d_Pack_considerRoot_9 rfl) d_Pack_considerRoot_10) A_n))) d_Pack_considerRoot_13))
    (S_sq (pc1 := 24) (S_In (pc1 := 23) (E_x (O_V k_Pack_102 (v_Tree_gain _) ⟨rfl, rfl⟩ ho (rk hR rfl) (by decide) (T := KT8) (N := 11) rfl (by decide) (pc1 := 20) (pc2 := 20) (E_fR f_Pack_64 ho (pc1 := 17) (E_aln d_Pack_considerRoot_16 rfl) d_Pack_considerRoot_17) A_n d_Pack_considerRoot_20)) d_Pack_considerRoot_23 rfl)
    (S_sq (pc1 := 29) (S_if1 (pT := 28) (pF := 29) (J1_le (pF := 29) (pc2 := 25) (E_iln d_Pack_considerRoot_24 rfl) d_Pack_considerRoot_25 rfl) (S_rv hrt d_Pack_considerRoot_28))
    (S_sq (pc1 := 34) (S_X (O_V k_Pack_126 (v_Pack_joinTree _) ⟨rfl, rfl⟩ ho (rk hR rfl) (by decide) (T := KT4) (N := 14) rfl (by decide) (pc1 := 30) (pc2 := 31) (E_aln d_Pack_considerRoot_29 rfl) (A_c catI (pc1 := 31) (E_ic d_Pack_considerRoot_30 rfl) A_n) d_Pack_considerRoot_31))
    (S_sq (pc1 := 47) (S_if1 (pT := 41) (pF := 47) (C_not (T1_ne (pT := 47) (pc2 := 38) (E_x (O_V k_Pack_84 (v_Pack_putInOrder _) ⟨rfl, rfl⟩ ho (rk hR rfl) (by decide) (T := KT4) (N := 14) rfl (by decide) (pc1 := 35) (pc2 := 35) (E_aln d_Pack_considerRoot_34 rfl) A_n d_Pack_considerRoot_35)) d_Pack_considerRoot_38 rfl)) (S_sq (pc1 := 46) (S_X (O_V k_Pack_126 (v_Pack_joinTree _) ⟨rfl, rfl⟩ ho (rk hR rfl) (by decide) (T := KT4) (N := 14) rfl (by decide) (pc1 := 42) (pc2 := 43) (E_aln d_Pack_considerRoot_41 rfl) (A_c catI (pc1 := 43) (E_ic d_Pack_considerRoot_42 rfl) A_n) d_Pack_considerRoot_43))
    (S_rv hrt d_Pack_considerRoot_46)))
    (S_sq (pc1 := 130) (S_cut (S_sq (pc1 := 49) (S_In (pc1 := 48) (E_ic d_Pack_considerRoot_47 rfl) d_Pack_considerRoot_48 rfl)
    (S_lp (pT := 60) (pF := 130) (pS := 124) (pG := 127) (J2_lt (pF := 130) (pc1 := 50) (pc2 := 57) (E_iln d_Pack_considerRoot_49 rfl) (E_fI f_Pack_130 ho (pc1 := 54) (E_fR f_Pack_64 ho (pc1 := 51) (E_aln d_Pack_considerRoot_50 rfl) d_Pack_considerRoot_51) d_Pack_considerRoot_54) d_Pack_considerRoot_57 rfl)
    (S_sq (pc1 := 114) (S_cut (S_sq (pc1 := 63) (S_I (pc1 := 61) (E_ic d_Pack_considerRoot_60 rfl) d_Pack_considerRoot_61)
    (S_lp (pT := 72) (pF := 114) (pS := 108) (pG := 111) (J2_lt (pF := 114) (pc1 := 65) (pc2 := 69) (E_il d_Pack_considerRoot_63) (E_fI f_Pack_9 ho (pc1 := 66) (E_aln d_Pack_considerRoot_65 rfl) d_Pack_considerRoot_66) d_Pack_considerRoot_69 rfl)
    (S_cut (S_sq (pc1 := 88) (S_I (pc1 := 86) (E_x (O_SN k_Pack_135 (v_PL_inLane _) ⟨rfl, rfl⟩ ho (rk hR rfl) (by decide) (pc2 := 83) (A_c catI (pc1 := 81) (E_aI (pc1 := 79) (pc2 := 80) (E_fR f_Pack_133 ho (pc1 := 76) (E_fR f_Pack_64 ho (pc1 := 73) (E_aln d_Pack_considerRoot_72 rfl) d_Pack_considerRoot_73) d_Pack_considerRoot_76) (E_iln d_Pack_considerRoot_79 rfl) d_Pack_considerRoot_80) (A_c catI (pc1 := 83) (E_il d_Pack_considerRoot_81) A_n)) d_Pack_considerRoot_83)) d_Pack_considerRoot_86)
    (S_sq (pc1 := 99) (S_AI (pc1 := 92) (pc2 := 94) (pc3 := 98) (E_fR f_Pack_19 ho (pc1 := 89) (E_aln d_Pack_considerRoot_88 rfl) d_Pack_considerRoot_89) (E_il d_Pack_considerRoot_92) (E_fI f_Pack_34 ho (pc1 := 95) (E_aln d_Pack_considerRoot_94 rfl) d_Pack_considerRoot_95) d_Pack_considerRoot_98)
    (S_AI (pc1 := 103) (pc2 := 105) (pc3 := 107) (E_fR f_Pack_22 ho (pc1 := 100) (E_aln d_Pack_considerRoot_99 rfl) d_Pack_considerRoot_100) (E_il d_Pack_considerRoot_103) (E_il d_Pack_considerRoot_105) d_Pack_considerRoot_107))))
    (S_Inc d_Pack_considerRoot_108 rfl) d_Pack_considerRoot_111 rfl)))
    (S_FO f_Pack_34 f_Pack_34 ho (pc1 := 115) (pc2 := 120) (E_aln d_Pack_considerRoot_114 rfl) d_Pack_considerRoot_115 d_Pack_considerRoot_116 (E_ic d_Pack_considerRoot_119 rfl) (fun _ _ _ _ _ k => r_iadd d_Pack_considerRoot_120 k) d_Pack_considerRoot_121))
    (S_Inc d_Pack_considerRoot_124 rfl) d_Pack_considerRoot_127 rfl)))
    (S_sq (pc1 := 146) (S_FO f_Pack_37 f_Pack_37 ho (pc1 := 131) (pc2 := 142) (E_aln d_Pack_considerRoot_130 rfl) d_Pack_considerRoot_131 d_Pack_considerRoot_132 (E_fI f_Pack_138 ho (pc1 := 139) (E_fR f_Pack_64 ho (pc1 := 136) (E_aln d_Pack_considerRoot_135 rfl) d_Pack_considerRoot_136) d_Pack_considerRoot_139) (fun _ _ _ _ _ k => r_ior d_Pack_considerRoot_142 k) d_Pack_considerRoot_143)
    (S_sq (pc1 := 156) (S_FO f_Pack_40 f_Pack_40 ho (pc1 := 147) (pc2 := 152) (E_aln d_Pack_considerRoot_146 rfl) d_Pack_considerRoot_147 d_Pack_considerRoot_148 (E_ic d_Pack_considerRoot_151 rfl) (fun _ _ _ _ _ k => r_iadd d_Pack_considerRoot_152 k) d_Pack_considerRoot_153)
    (S_sq (pc1 := 166) (S_FO f_Pack_43 f_Pack_43 ho (pc1 := 157) (pc2 := 162) (E_aln d_Pack_considerRoot_156 rfl) d_Pack_considerRoot_157 d_Pack_considerRoot_158 (E_iln d_Pack_considerRoot_161 rfl) (fun _ _ _ _ _ k => r_iadd d_Pack_considerRoot_162 k) d_Pack_considerRoot_163)
    (S_rv hrt d_Pack_considerRoot_166))))))))))
theorem d_Pack_choosePacks_0 : decode prog_6_method_3_code 0 = .ok (.aload_n 0, 1) := by decide +kernel
theorem d_Pack_choosePacks_1 : decode prog_6_method_3_code 1 = .ok (.aload_n 1, 1) := by decide +kernel
theorem d_Pack_choosePacks_2 : decode prog_6_method_3_code 2 = .ok (.iload_n 2, 1) := by decide +kernel
theorem d_Pack_choosePacks_3 : decode prog_6_method_3_code 3 = .ok (.invokevirtual 72, 3) := by decide +kernel
theorem d_Pack_choosePacks_6 : decode prog_6_method_3_code 6 = .ok (.iconst 0, 1) := by decide +kernel
theorem d_Pack_choosePacks_7 : decode prog_6_method_3_code 7 = .ok (.istore_n 3, 1) := by decide +kernel
theorem d_Pack_choosePacks_8 : decode prog_6_method_3_code 8 = .ok (.iload_n 3, 1) := by decide +kernel
theorem d_Pack_choosePacks_9 : decode prog_6_method_3_code 9 = .ok (.iconst 2, 1) := by decide +kernel
theorem d_Pack_choosePacks_10 : decode prog_6_method_3_code 10 = .ok (.if_icmp .ge 50, 3) := by decide +kernel
theorem d_Pack_choosePacks_13 : decode prog_6_method_3_code 13 = .ok (.iconst 0, 1) := by decide +kernel
theorem d_Pack_choosePacks_14 : decode prog_6_method_3_code 14 = .ok (.istore 4, 2) := by decide +kernel
theorem d_Pack_choosePacks_16 : decode prog_6_method_3_code 16 = .ok (.iload 4, 2) := by decide +kernel
theorem d_Pack_choosePacks_18 : decode prog_6_method_3_code 18 = .ok (.bipush 8, 2) := by decide +kernel
theorem d_Pack_choosePacks_20 : decode prog_6_method_3_code 20 = .ok (.aload_n 0, 1) := by decide +kernel
theorem d_Pack_choosePacks_21 : decode prog_6_method_3_code 21 = .ok (.getfield 9, 3) := by decide +kernel
theorem d_Pack_choosePacks_24 : decode prog_6_method_3_code 24 = .ok (.isub, 1) := by decide +kernel
theorem d_Pack_choosePacks_25 : decode prog_6_method_3_code 25 = .ok (.if_icmp .gt 29, 3) := by decide +kernel
theorem d_Pack_choosePacks_28 : decode prog_6_method_3_code 28 = .ok (.aload_n 0, 1) := by decide +kernel
theorem d_Pack_choosePacks_29 : decode prog_6_method_3_code 29 = .ok (.iload_n 3, 1) := by decide +kernel
theorem d_Pack_choosePacks_30 : decode prog_6_method_3_code 30 = .ok (.iload 4, 2) := by decide +kernel
theorem d_Pack_choosePacks_32 : decode prog_6_method_3_code 32 = .ok (.invokevirtual 76, 3) := by decide +kernel
theorem d_Pack_choosePacks_35 : decode prog_6_method_3_code 35 = .ok (.istore 5, 2) := by decide +kernel
theorem d_Pack_choosePacks_37 : decode prog_6_method_3_code 37 = .ok (.iload 5, 2) := by decide +kernel
theorem d_Pack_choosePacks_39 : decode prog_6_method_3_code 39 = .ok (.ifCond .lt 9, 3) := by decide +kernel
theorem d_Pack_choosePacks_42 : decode prog_6_method_3_code 42 = .ok (.aload_n 0, 1) := by decide +kernel
theorem d_Pack_choosePacks_43 : decode prog_6_method_3_code 43 = .ok (.iload 5, 2) := by decide +kernel
theorem d_Pack_choosePacks_45 : decode prog_6_method_3_code 45 = .ok (.invokevirtual 80, 3) := by decide +kernel
theorem d_Pack_choosePacks_48 : decode prog_6_method_3_code 48 = .ok (.iinc 4 1, 3) := by decide +kernel
theorem d_Pack_choosePacks_51 : decode prog_6_method_3_code 51 = .ok (.goto (-35), 3) := by decide +kernel
theorem d_Pack_choosePacks_54 : decode prog_6_method_3_code 54 = .ok (.iinc 3 1, 3) := by decide +kernel
theorem d_Pack_choosePacks_57 : decode prog_6_method_3_code 57 = .ok (.goto (-49), 3) := by decide +kernel
theorem d_Pack_choosePacks_60 : decode prog_6_method_3_code 60 = .ok (.aload_n 0, 1) := by decide +kernel
theorem d_Pack_choosePacks_61 : decode prog_6_method_3_code 61 = .ok (.invokevirtual 84, 3) := by decide +kernel
theorem d_Pack_choosePacks_64 : decode prog_6_method_3_code 64 = .ok (.pop, 1) := by decide +kernel
theorem d_Pack_choosePacks_65 : decode prog_6_method_3_code 65 = .ok (.return_, 1) := by decide +kernel
def B_Pack_choosePacks (_ : Nat × Nat) : PS :=
  (sSq (sX (xV 4 2 X_Pack_keepNothing (eR 0) (aC .ref (eR 1) (aC .int (eI 2) aN))))
    (sSq (sCut 3 (sSq (sI 3 (eV (0 : Int32)))
    (sLp 4 (e2 (fun x y : Int32 => decide (x < y)) (eI 3) (eV (2 : Int32)))
    (sCut 4 (sSq (sI 4 (eV (0 : Int32)))
    (sLp 5 (e2 (fun x y : Int32 => decide (x ≤ y)) (eI 4) (e2 (fun x y : Int32 => x - y) (eV (8 : Int32)) (eFI 4 3 (eR 0))))
    (sCut 5 (sSq (sI 5 (eX .int (xV 4 2 X_Pack_rootAt (eR 0) (aC .int (eI 3) (aC .int (eI 4) aN)))))
    (sIf (e1 (fun x : Int32 => decide (0 ≤ x)) (eI 5)) (sX (xV 4 1 X_Pack_considerRoot (eR 0) (aC .int (eI 5) aN))) sSk)))
    (sInc 4 (1)))))
    (sInc 3 (1)))))
    (sSq (sXp (xV 4 0 X_Pack_putInOrder (eR 0) aN))
    sRv)))
def X_Pack_choosePacks : PM := fun vs h Q => (lx vs).length ≤ 6 ∧ B_Pack_choosePacks (h.length + 0, hsz h + 0) (fun _ _ => False) (fun _ _ => False) (fun _ _ => False) Q (lini 6 vs) h
theorem v_Pack_choosePacks (l : Launch) : Ctr l y_Pack_choosePacks prog_6_method_3_code 6 none rm_Pack_choosePacks X_Pack_choosePacks := by
  refine Ctr_of (own := "PackLanes$Packer") (B := B_Pack_choosePacks) (KR := fun _ Q => Q) (by decide) rfl (fun _ _ _ z => z) (fun _ _ _ _ z => ⟨Or.inl ⟨rfl, rfl⟩, z⟩) (Or.inl rfl) (fun κ hl ho hR hrt hn0 => ?_)
  subst hl
  unfold B_Pack_choosePacks
  exact (S_sq (pc1 := 6) (S_X (O_V k_Pack_72 (v_Pack_keepNothing _) ⟨rfl, rfl⟩ ho (rk hR rfl) (by decide) (T := KT4) (N := 14) rfl (by decide) (pc1 := 1) (pc2 := 3) (E_aln d_Pack_choosePacks_0 rfl) (A_c catR (pc1 := 2) (E_aln d_Pack_choosePacks_1 rfl) (A_c catI (pc1 := 3) (E_iln d_Pack_choosePacks_2 rfl) A_n)) d_Pack_choosePacks_3))
    (S_sq (pc1 := 60) (S_cut (S_sq (pc1 := 8) (S_In (pc1 := 7) (E_ic d_Pack_choosePacks_6 rfl) d_Pack_choosePacks_7 rfl)
    (S_lp (pT := 13) (pF := 60) (pS := 54) (pG := 57) (J2_lt (pF := 60) (pc1 := 9) (pc2 := 10) (E_iln d_Pack_choosePacks_8 rfl) (E_ic d_Pack_choosePacks_9 rfl) d_Pack_choosePacks_10 rfl)
    (S_cut (S_sq (pc1 := 16) (S_I (pc1 := 14) (E_ic d_Pack_choosePacks_13 rfl) d_Pack_choosePacks_14)
    (S_lp (pT := 28) (pF := 54) (pS := 48) (pG := 51) (J2_le (pF := 54) (pc1 := 18) (pc2 := 25) (E_il d_Pack_choosePacks_16) (E_isub (pc1 := 20) (pc2 := 24) (E_bi d_Pack_choosePacks_18 rfl) (E_fI f_Pack_9 ho (pc1 := 21) (E_aln d_Pack_choosePacks_20 rfl) d_Pack_choosePacks_21) d_Pack_choosePacks_24) d_Pack_choosePacks_25 rfl)
    (S_cut (S_sq (pc1 := 37) (S_I (pc1 := 35) (E_x (O_V k_Pack_76 (v_Pack_rootAt _) ⟨rfl, rfl⟩ ho (rk hR rfl) (by decide) (T := KT4) (N := 14) rfl (by decide) (pc1 := 29) (pc2 := 32) (E_aln d_Pack_choosePacks_28 rfl) (A_c catI (pc1 := 30) (E_iln d_Pack_choosePacks_29 rfl) (A_c catI (pc1 := 32) (E_il d_Pack_choosePacks_30) A_n)) d_Pack_choosePacks_32)) d_Pack_choosePacks_35)
    (S_if1 (pT := 42) (pF := 48) (J1_ge (pF := 48) (pc2 := 39) (E_il d_Pack_choosePacks_37) d_Pack_choosePacks_39 rfl) (S_X (O_V k_Pack_80 (v_Pack_considerRoot _) ⟨rfl, rfl⟩ ho (rk hR rfl) (by decide) (T := KT4) (N := 14) rfl (by decide) (pc1 := 43) (pc2 := 45) (E_aln d_Pack_choosePacks_42 rfl) (A_c catI (pc1 := 45) (E_il d_Pack_choosePacks_43) A_n) d_Pack_choosePacks_45)))))
    (S_Inc d_Pack_choosePacks_48 rfl) d_Pack_choosePacks_51 rfl)))
    (S_Inc d_Pack_choosePacks_54 rfl) d_Pack_choosePacks_57 rfl)))
    (S_sq (pc1 := 65) (S_Xp (pc1 := 64) (O_V k_Pack_84 (v_Pack_putInOrder _) ⟨rfl, rfl⟩ ho (rk hR rfl) (by decide) (T := KT4) (N := 14) rfl (by decide) (pc1 := 61) (pc2 := 61) (E_aln d_Pack_choosePacks_60 rfl) A_n d_Pack_choosePacks_61) d_Pack_choosePacks_64)
    (S_rv hrt d_Pack_choosePacks_65))))
theorem d_PL_init_0 : decode prog_1_method_1_code 0 = .ok (.aload_n 0, 1) := by decide +kernel
theorem d_PL_init_1 : decode prog_1_method_1_code 1 = .ok (.invokespecial 1, 3) := by decide +kernel
theorem d_PL_init_4 : decode prog_1_method_1_code 4 = .ok (.aload_n 0, 1) := by decide +kernel
theorem d_PL_init_5 : decode prog_1_method_1_code 5 = .ok (.new 7, 3) := by decide +kernel
theorem d_PL_init_8 : decode prog_1_method_1_code 8 = .ok (.dup, 1) := by decide +kernel
theorem d_PL_init_9 : decode prog_1_method_1_code 9 = .ok (.invokespecial 9, 3) := by decide +kernel
theorem d_PL_init_12 : decode prog_1_method_1_code 12 = .ok (.putfield 10, 3) := by decide +kernel
theorem d_PL_init_15 : decode prog_1_method_1_code 15 = .ok (.aload_n 0, 1) := by decide +kernel
theorem d_PL_init_16 : decode prog_1_method_1_code 16 = .ok (.new 16, 3) := by decide +kernel
theorem d_PL_init_19 : decode prog_1_method_1_code 19 = .ok (.dup, 1) := by decide +kernel
theorem d_PL_init_20 : decode prog_1_method_1_code 20 = .ok (.invokespecial 18, 3) := by decide +kernel
theorem d_PL_init_23 : decode prog_1_method_1_code 23 = .ok (.putfield 19, 3) := by decide +kernel
theorem d_PL_init_26 : decode prog_1_method_1_code 26 = .ok (.aload_n 0, 1) := by decide +kernel
theorem d_PL_init_27 : decode prog_1_method_1_code 27 = .ok (.new 16, 3) := by decide +kernel
theorem d_PL_init_30 : decode prog_1_method_1_code 30 = .ok (.dup, 1) := by decide +kernel
theorem d_PL_init_31 : decode prog_1_method_1_code 31 = .ok (.invokespecial 18, 3) := by decide +kernel
theorem d_PL_init_34 : decode prog_1_method_1_code 34 = .ok (.putfield 23, 3) := by decide +kernel
theorem d_PL_init_37 : decode prog_1_method_1_code 37 = .ok (.aload_n 0, 1) := by decide +kernel
theorem d_PL_init_38 : decode prog_1_method_1_code 38 = .ok (.bipush 19, 2) := by decide +kernel
theorem d_PL_init_40 : decode prog_1_method_1_code 40 = .ok (.newarray .int, 2) := by decide +kernel
theorem d_PL_init_42 : decode prog_1_method_1_code 42 = .ok (.putfield 26, 3) := by decide +kernel
theorem d_PL_init_45 : decode prog_1_method_1_code 45 = .ok (.aload_n 0, 1) := by decide +kernel
theorem d_PL_init_46 : decode prog_1_method_1_code 46 = .ok (.bipush 19, 2) := by decide +kernel
theorem d_PL_init_48 : decode prog_1_method_1_code 48 = .ok (.newarray .int, 2) := by decide +kernel
theorem d_PL_init_50 : decode prog_1_method_1_code 50 = .ok (.putfield 30, 3) := by decide +kernel
theorem d_PL_init_53 : decode prog_1_method_1_code 53 = .ok (.aload_n 0, 1) := by decide +kernel
theorem d_PL_init_54 : decode prog_1_method_1_code 54 = .ok (.bipush 19, 2) := by decide +kernel
theorem d_PL_init_56 : decode prog_1_method_1_code 56 = .ok (.newarray .int, 2) := by decide +kernel
theorem d_PL_init_58 : decode prog_1_method_1_code 58 = .ok (.putfield 33, 3) := by decide +kernel
theorem d_PL_init_61 : decode prog_1_method_1_code 61 = .ok (.aload_n 0, 1) := by decide +kernel
theorem d_PL_init_62 : decode prog_1_method_1_code 62 = .ok (.iconst 3, 1) := by decide +kernel
theorem d_PL_init_63 : decode prog_1_method_1_code 63 = .ok (.newarray .int, 2) := by decide +kernel
theorem d_PL_init_65 : decode prog_1_method_1_code 65 = .ok (.putfield 36, 3) := by decide +kernel
theorem d_PL_init_68 : decode prog_1_method_1_code 68 = .ok (.aload_n 0, 1) := by decide +kernel
theorem d_PL_init_69 : decode prog_1_method_1_code 69 = .ok (.new 39, 3) := by decide +kernel
theorem d_PL_init_72 : decode prog_1_method_1_code 72 = .ok (.dup, 1) := by decide +kernel
theorem d_PL_init_73 : decode prog_1_method_1_code 73 = .ok (.invokespecial 41, 3) := by decide +kernel
theorem d_PL_init_76 : decode prog_1_method_1_code 76 = .ok (.putfield 42, 3) := by decide +kernel
theorem d_PL_init_79 : decode prog_1_method_1_code 79 = .ok (.aload_n 0, 1) := by decide +kernel
theorem d_PL_init_80 : decode prog_1_method_1_code 80 = .ok (.new 46, 3) := by decide +kernel
theorem d_PL_init_83 : decode prog_1_method_1_code 83 = .ok (.dup, 1) := by decide +kernel
theorem d_PL_init_84 : decode prog_1_method_1_code 84 = .ok (.invokespecial 48, 3) := by decide +kernel
theorem d_PL_init_87 : decode prog_1_method_1_code 87 = .ok (.putfield 49, 3) := by decide +kernel
theorem d_PL_init_90 : decode prog_1_method_1_code 90 = .ok (.aload_n 0, 1) := by decide +kernel
theorem d_PL_init_91 : decode prog_1_method_1_code 91 = .ok (.new 53, 3) := by decide +kernel
theorem d_PL_init_94 : decode prog_1_method_1_code 94 = .ok (.dup, 1) := by decide +kernel
theorem d_PL_init_95 : decode prog_1_method_1_code 95 = .ok (.invokespecial 55, 3) := by decide +kernel
theorem d_PL_init_98 : decode prog_1_method_1_code 98 = .ok (.putfield 56, 3) := by decide +kernel
theorem d_PL_init_101 : decode prog_1_method_1_code 101 = .ok (.aload_n 0, 1) := by decide +kernel
theorem d_PL_init_102 : decode prog_1_method_1_code 102 = .ok (.new 60, 3) := by decide +kernel
theorem d_PL_init_105 : decode prog_1_method_1_code 105 = .ok (.dup, 1) := by decide +kernel
theorem d_PL_init_106 : decode prog_1_method_1_code 106 = .ok (.aload_n 0, 1) := by decide +kernel
theorem d_PL_init_107 : decode prog_1_method_1_code 107 = .ok (.getfield 19, 3) := by decide +kernel
theorem d_PL_init_110 : decode prog_1_method_1_code 110 = .ok (.invokespecial 62, 3) := by decide +kernel
theorem d_PL_init_113 : decode prog_1_method_1_code 113 = .ok (.putfield 65, 3) := by decide +kernel
theorem d_PL_init_116 : decode prog_1_method_1_code 116 = .ok (.aload_n 0, 1) := by decide +kernel
theorem d_PL_init_117 : decode prog_1_method_1_code 117 = .ok (.new 60, 3) := by decide +kernel
theorem d_PL_init_120 : decode prog_1_method_1_code 120 = .ok (.dup, 1) := by decide +kernel
theorem d_PL_init_121 : decode prog_1_method_1_code 121 = .ok (.aload_n 0, 1) := by decide +kernel
theorem d_PL_init_122 : decode prog_1_method_1_code 122 = .ok (.getfield 19, 3) := by decide +kernel
theorem d_PL_init_125 : decode prog_1_method_1_code 125 = .ok (.invokespecial 62, 3) := by decide +kernel
theorem d_PL_init_128 : decode prog_1_method_1_code 128 = .ok (.putfield 69, 3) := by decide +kernel
theorem d_PL_init_131 : decode prog_1_method_1_code 131 = .ok (.aload_n 0, 1) := by decide +kernel
theorem d_PL_init_132 : decode prog_1_method_1_code 132 = .ok (.new 72, 3) := by decide +kernel
theorem d_PL_init_135 : decode prog_1_method_1_code 135 = .ok (.dup, 1) := by decide +kernel
theorem d_PL_init_136 : decode prog_1_method_1_code 136 = .ok (.aload_n 0, 1) := by decide +kernel
theorem d_PL_init_137 : decode prog_1_method_1_code 137 = .ok (.getfield 19, 3) := by decide +kernel
theorem d_PL_init_140 : decode prog_1_method_1_code 140 = .ok (.invokespecial 74, 3) := by decide +kernel
theorem d_PL_init_143 : decode prog_1_method_1_code 143 = .ok (.putfield 75, 3) := by decide +kernel
theorem d_PL_init_146 : decode prog_1_method_1_code 146 = .ok (.aload_n 0, 1) := by decide +kernel
theorem d_PL_init_147 : decode prog_1_method_1_code 147 = .ok (.bipush 64, 2) := by decide +kernel
theorem d_PL_init_149 : decode prog_1_method_1_code 149 = .ok (.newarray .int, 2) := by decide +kernel
theorem d_PL_init_151 : decode prog_1_method_1_code 151 = .ok (.putfield 79, 3) := by decide +kernel
theorem d_PL_init_154 : decode prog_1_method_1_code 154 = .ok (.aload_n 0, 1) := by decide +kernel
theorem d_PL_init_155 : decode prog_1_method_1_code 155 = .ok (.lconst 0, 1) := by decide +kernel
theorem d_PL_init_156 : decode prog_1_method_1_code 156 = .ok (.putfield 82, 3) := by decide +kernel
theorem d_PL_init_159 : decode prog_1_method_1_code 159 = .ok (.aload_n 0, 1) := by decide +kernel
theorem d_PL_init_160 : decode prog_1_method_1_code 160 = .ok (.bipush 8, 2) := by decide +kernel
theorem d_PL_init_162 : decode prog_1_method_1_code 162 = .ok (.iconst 1, 1) := by decide +kernel
theorem d_PL_init_163 : decode prog_1_method_1_code 163 = .ok (.iconst 2, 1) := by decide +kernel
theorem d_PL_init_164 : decode prog_1_method_1_code 164 = .ok (.invokevirtual 86, 3) := by decide +kernel
theorem d_PL_init_167 : decode prog_1_method_1_code 167 = .ok (.aload_n 0, 1) := by decide +kernel
theorem d_PL_init_168 : decode prog_1_method_1_code 168 = .ok (.getfield 65, 3) := by decide +kernel
theorem d_PL_init_171 : decode prog_1_method_1_code 171 = .ok (.aload_n 0, 1) := by decide +kernel
theorem d_PL_init_172 : decode prog_1_method_1_code 172 = .ok (.getfield 26, 3) := by decide +kernel
theorem d_PL_init_175 : decode prog_1_method_1_code 175 = .ok (.iconst 0, 1) := by decide +kernel
theorem d_PL_init_176 : decode prog_1_method_1_code 176 = .ok (.invokevirtual 90, 3) := by decide +kernel
theorem d_PL_init_179 : decode prog_1_method_1_code 179 = .ok (.return_, 1) := by decide +kernel
def B_PL_init (g : Nat × Nat) : PS :=
  (sSq sSO
    (sSq (sF .ref 9 0 (eR 0) (eNew g 7 [.null, .null, .int 0] rm_Src_init 0 X_Src_init aN))
    (sSq (sF .ref 9 1 (eR 0) (eNew g 1 [.null, .null, .null, .null, .null, .null, .int 0] rm_Code_init 0 X_Code_init aN))
    (sSq (sF .ref 9 2 (eR 0) (eNew g 1 [.null, .null, .null, .null, .null, .null, .int 0] rm_Code_init 0 X_Code_init aN))
    (sSq (sF .ref 9 3 (eR 0) (eNA g 20 (eV (19 : Int32))))
    (sSq (sF .ref 9 4 (eR 0) (eNA g 20 (eV (19 : Int32))))
    (sSq (sF .ref 9 5 (eR 0) (eNA g 20 (eV (19 : Int32))))
    (sSq (sF .ref 9 6 (eR 0) (eNA g 20 (eV (3 : Int32))))
    (sSq (sF .ref 9 7 (eR 0) (eNew g 0 [.null, .null, .int 0] rm_Acts_init 0 X_Acts_init aN))
    (sSq (sF .ref 9 8 (eR 0) (eNew g 6 [.null, .null] rm_Slots_init 0 X_Slots_init aN))
    (sSq (sF .ref 9 9 (eR 0) (eNew g 5 [.null, .null, .int 0] rm_Sights_init 0 X_Sights_init aN))
    (sSq (sF .ref 9 10 (eR 0) (eNew g 4 [.null, .null, .null, .int 0, .null, .null, .null, .null, .null, .int 0, .int 0, .int 0, .int 0, .int 0] rm_Pack_init 1 X_Pack_init (aC .ref (eFR 9 1 (eR 0)) aN)))
    (sSq (sF .ref 9 11 (eR 0) (eNew g 4 [.null, .null, .null, .int 0, .null, .null, .null, .null, .null, .int 0, .int 0, .int 0, .int 0, .int 0] rm_Pack_init 1 X_Pack_init (aC .ref (eFR 9 1 (eR 0)) aN)))
    (sSq (sF .ref 9 12 (eR 0) (eNew g 3 [.null, .null, .null, .int 0, .int 0] rm_Mach_init 1 X_Mach_init (aC .ref (eFR 9 1 (eR 0)) aN)))
    (sSq (sF .ref 9 13 (eR 0) (eNA g 20 (eV (64 : Int32))))
    (sSq (sF .long 9 14 (eR 0) (eV (0 : Int64)))
    (sSq (sX (xV 9 3 X_PL_restart (eR 0) (aC .int (eV (8 : Int32)) (aC .int (eV (1 : Int32)) (aC .int (eV (2 : Int32)) aN)))))
    (sSq (sX (xV 4 2 X_Pack_choosePacks (eFR 9 10 (eR 0)) (aC .ref (eFR 9 3 (eR 0)) (aC .int (eV (0 : Int32)) aN))))
    sRv))))))))))))))))))
def X_PL_init : PM := fun vs h Q => (lx vs).length ≤ 1 ∧ B_PL_init (h.length + 62, hsz h + 908) (fun _ _ => False) (fun _ _ => False) (fun _ _ => False) (fun o h' => (h'.length = h.length + 62 ∧ hsz h' = hsz h + 908) ∧ Q o h') (lini 1 vs) h
theorem v_PL_init (l : Launch) : Ctr l y_PL_init prog_1_method_1_code 1 none rm_PL_init X_PL_init := by
  refine Ctr_of (own := "PackLanes") (B := B_PL_init) (KR := fun h Q o h' => (h'.length = h.length + 62 ∧ hsz h' = hsz h + 908) ∧ Q o h') (by decide) rfl (fun _ _ _ z => z) (fun _ _ _ _ z => ⟨Or.inr z.1, z.2⟩) (Or.inl rfl) (fun κ hl ho hR hrt hn0 => ?_)
  subst hl
  have hn : KO prog_1_method_1_code κ → (k_me κ).name = "<init>" := fun _ => hn0
  unfold B_PL_init
  exact (S_sq (pc1 := 4) (S_so w_o_PL_1 w_oi w_oc ho (rk2 hR rfl) d_PL_init_0 d_PL_init_1)
    (S_sq (pc1 := 15) (S_FR f_PL_10 ho hn (fun _ => ⟨rfl, rfl⟩) (pc1 := 5) (pc2 := 12) (E_aln d_PL_init_4 rfl) (E_new rfl n_PL_7 k_PL_9 (v_Src_init _) ho (rk hR rfl) (by decide) d_PL_init_5 d_PL_init_8 (pc1 := 9) A_n d_PL_init_9) d_PL_init_12)
    (S_sq (pc1 := 26) (S_FR f_PL_19 ho hn (fun _ => ⟨rfl, rfl⟩) (pc1 := 16) (pc2 := 23) (E_aln d_PL_init_15 rfl) (E_new rfl n_PL_16 k_PL_18 (v_Code_init _) ho (rk hR rfl) (by decide) d_PL_init_16 d_PL_init_19 (pc1 := 20) A_n d_PL_init_20) d_PL_init_23)
    (S_sq (pc1 := 37) (S_FR f_PL_23 ho hn (fun _ => ⟨rfl, rfl⟩) (pc1 := 27) (pc2 := 34) (E_aln d_PL_init_26 rfl) (E_new rfl n_PL_16 k_PL_18 (v_Code_init _) ho (rk hR rfl) (by decide) d_PL_init_27 d_PL_init_30 (pc1 := 31) A_n d_PL_init_31) d_PL_init_34)
    (S_sq (pc1 := 45) (S_FR f_PL_26 ho hn (fun _ => ⟨rfl, rfl⟩) (pc1 := 38) (pc2 := 42) (E_aln d_PL_init_37 rfl) (E_NI rfl w_arrI (pc1 := 40) (E_bi d_PL_init_38 rfl) d_PL_init_40) d_PL_init_42)
    (S_sq (pc1 := 53) (S_FR f_PL_30 ho hn (fun _ => ⟨rfl, rfl⟩) (pc1 := 46) (pc2 := 50) (E_aln d_PL_init_45 rfl) (E_NI rfl w_arrI (pc1 := 48) (E_bi d_PL_init_46 rfl) d_PL_init_48) d_PL_init_50)
    (S_sq (pc1 := 61) (S_FR f_PL_33 ho hn (fun _ => ⟨rfl, rfl⟩) (pc1 := 54) (pc2 := 58) (E_aln d_PL_init_53 rfl) (E_NI rfl w_arrI (pc1 := 56) (E_bi d_PL_init_54 rfl) d_PL_init_56) d_PL_init_58)
    (S_sq (pc1 := 68) (S_FR f_PL_36 ho hn (fun _ => ⟨rfl, rfl⟩) (pc1 := 62) (pc2 := 65) (E_aln d_PL_init_61 rfl) (E_NI rfl w_arrI (pc1 := 63) (E_ic d_PL_init_62 rfl) d_PL_init_63) d_PL_init_65)
    (S_sq (pc1 := 79) (S_FR f_PL_42 ho hn (fun _ => ⟨rfl, rfl⟩) (pc1 := 69) (pc2 := 76) (E_aln d_PL_init_68 rfl) (E_new rfl n_PL_39 k_PL_41 (v_Acts_init _) ho (rk hR rfl) (by decide) d_PL_init_69 d_PL_init_72 (pc1 := 73) A_n d_PL_init_73) d_PL_init_76)
    (S_sq (pc1 := 90) (S_FR f_PL_49 ho hn (fun _ => ⟨rfl, rfl⟩) (pc1 := 80) (pc2 := 87) (E_aln d_PL_init_79 rfl) (E_new rfl n_PL_46 k_PL_48 (v_Slots_init _) ho (rk hR rfl) (by decide) d_PL_init_80 d_PL_init_83 (pc1 := 84) A_n d_PL_init_84) d_PL_init_87)
    (S_sq (pc1 := 101) (S_FR f_PL_56 ho hn (fun _ => ⟨rfl, rfl⟩) (pc1 := 91) (pc2 := 98) (E_aln d_PL_init_90 rfl) (E_new rfl n_PL_53 k_PL_55 (v_Sights_init _) ho (rk hR rfl) (by decide) d_PL_init_91 d_PL_init_94 (pc1 := 95) A_n d_PL_init_95) d_PL_init_98)
    (S_sq (pc1 := 116) (S_FR f_PL_65 ho hn (fun _ => ⟨rfl, rfl⟩) (pc1 := 102) (pc2 := 113) (E_aln d_PL_init_101 rfl) (E_new rfl n_PL_60 k_PL_62 (v_Pack_init _) ho (rk hR rfl) (by decide) d_PL_init_102 d_PL_init_105 (pc1 := 110) (A_c catR (pc1 := 110) (E_fR f_PL_19 ho (pc1 := 107) (E_aln d_PL_init_106 rfl) d_PL_init_107) A_n) d_PL_init_110) d_PL_init_113)
    (S_sq (pc1 := 131) (S_FR f_PL_69 ho hn (fun _ => ⟨rfl, rfl⟩) (pc1 := 117) (pc2 := 128) (E_aln d_PL_init_116 rfl) (E_new rfl n_PL_60 k_PL_62 (v_Pack_init _) ho (rk hR rfl) (by decide) d_PL_init_117 d_PL_init_120 (pc1 := 125) (A_c catR (pc1 := 125) (E_fR f_PL_19 ho (pc1 := 122) (E_aln d_PL_init_121 rfl) d_PL_init_122) A_n) d_PL_init_125) d_PL_init_128)
    (S_sq (pc1 := 146) (S_FR f_PL_75 ho hn (fun _ => ⟨rfl, rfl⟩) (pc1 := 132) (pc2 := 143) (E_aln d_PL_init_131 rfl) (E_new rfl n_PL_72 k_PL_74 (v_Mach_init _) ho (rk hR rfl) (by decide) d_PL_init_132 d_PL_init_135 (pc1 := 140) (A_c catR (pc1 := 140) (E_fR f_PL_19 ho (pc1 := 137) (E_aln d_PL_init_136 rfl) d_PL_init_137) A_n) d_PL_init_140) d_PL_init_143)
    (S_sq (pc1 := 154) (S_FR f_PL_79 ho hn (fun _ => ⟨rfl, rfl⟩) (pc1 := 147) (pc2 := 151) (E_aln d_PL_init_146 rfl) (E_NI rfl w_arrI (pc1 := 149) (E_bi d_PL_init_147 rfl) d_PL_init_149) d_PL_init_151)
    (S_sq (pc1 := 159) (S_FL f_PL_82 ho (pc1 := 155) (pc2 := 156) (E_aln d_PL_init_154 rfl) (E_lc d_PL_init_155 rfl) d_PL_init_156)
    (S_sq (pc1 := 167) (S_X (O_V k_PL_86 (v_PL_restart _) ⟨rfl, rfl⟩ ho (rk hR rfl) (by decide) (T := KT9) (N := 15) rfl (by decide) (pc1 := 160) (pc2 := 164) (E_aln d_PL_init_159 rfl) (A_c catI (pc1 := 162) (E_bi d_PL_init_160 rfl) (A_c catI (pc1 := 163) (E_ic d_PL_init_162 rfl) (A_c catI (pc1 := 164) (E_ic d_PL_init_163 rfl) A_n))) d_PL_init_164))
    (S_sq (pc1 := 179) (S_X (O_V k_PL_90 (v_Pack_choosePacks _) ⟨rfl, rfl⟩ ho (rk hR rfl) (by decide) (T := KT4) (N := 14) rfl (by decide) (pc1 := 171) (pc2 := 176) (E_fR f_PL_65 ho (pc1 := 168) (E_aln d_PL_init_167 rfl) d_PL_init_168) (A_c catR (pc1 := 175) (E_fR f_PL_26 ho (pc1 := 172) (E_aln d_PL_init_171 rfl) d_PL_init_172) (A_c catI (pc1 := 176) (E_ic d_PL_init_175 rfl) A_n)) d_PL_init_176))
    (S_rv hrt d_PL_init_179)))))))))))))))))))
theorem d_Src_append_0 : decode prog_9_method_2_code 0 = .ok (.aload_n 0, 1) := by decide +kernel
theorem d_Src_append_1 : decode prog_9_method_2_code 1 = .ok (.getfield 18, 3) := by decide +kernel
theorem d_Src_append_4 : decode prog_9_method_2_code 4 = .ok (.bipush 80, 2) := by decide +kernel
theorem d_Src_append_6 : decode prog_9_method_2_code 6 = .ok (.if_icmp .lt 6, 3) := by decide +kernel
theorem d_Src_append_9 : decode prog_9_method_2_code 9 = .ok (.bipush (-4), 2) := by decide +kernel
theorem d_Src_append_11 : decode prog_9_method_2_code 11 = .ok (.ireturn, 1) := by decide +kernel
theorem d_Src_append_12 : decode prog_9_method_2_code 12 = .ok (.aload_n 0, 1) := by decide +kernel
theorem d_Src_append_13 : decode prog_9_method_2_code 13 = .ok (.getfield 9, 3) := by decide +kernel
theorem d_Src_append_16 : decode prog_9_method_2_code 16 = .ok (.aload_n 0, 1) := by decide +kernel
theorem d_Src_append_17 : decode prog_9_method_2_code 17 = .ok (.getfield 18, 3) := by decide +kernel
theorem d_Src_append_20 : decode prog_9_method_2_code 20 = .ok (.iload_n 1, 1) := by decide +kernel
theorem d_Src_append_21 : decode prog_9_method_2_code 21 = .ok (.iastore, 1) := by decide +kernel
theorem d_Src_append_22 : decode prog_9_method_2_code 22 = .ok (.aload_n 0, 1) := by decide +kernel
theorem d_Src_append_23 : decode prog_9_method_2_code 23 = .ok (.dup, 1) := by decide +kernel
theorem d_Src_append_24 : decode prog_9_method_2_code 24 = .ok (.getfield 18, 3) := by decide +kernel
theorem d_Src_append_27 : decode prog_9_method_2_code 27 = .ok (.iconst 1, 1) := by decide +kernel
theorem d_Src_append_28 : decode prog_9_method_2_code 28 = .ok (.iadd, 1) := by decide +kernel
theorem d_Src_append_29 : decode prog_9_method_2_code 29 = .ok (.putfield 18, 3) := by decide +kernel
theorem d_Src_append_32 : decode prog_9_method_2_code 32 = .ok (.aload_n 0, 1) := by decide +kernel
theorem d_Src_append_33 : decode prog_9_method_2_code 33 = .ok (.getfield 18, 3) := by decide +kernel
theorem d_Src_append_36 : decode prog_9_method_2_code 36 = .ok (.ireturn, 1) := by decide +kernel
def B_Src_append (_ : Nat × Nat) : PS :=
  (sSq (sIf (e2 (fun x y : Int32 => decide (y ≤ x)) (eFI 7 2 (eR 0)) (eV (80 : Int32))) (sRt .int (eV (-4 : Int32))) sSk)
    (sSq (sAI (eFR 7 0 (eR 0)) (eFI 7 2 (eR 0)) (eI 1))
    (sSq (sFO 7 2 (fun x y : Int32 => x + y) (eR 0) (eV (1 : Int32)))
    (sRt .int (eFI 7 2 (eR 0))))))
def X_Src_append : PM := fun vs h Q => (lx vs).length ≤ 2 ∧ B_Src_append (h.length + 0, hsz h + 0) (fun _ _ => False) (fun _ _ => False) (fun _ _ => False) Q (lini 2 vs) h
theorem v_Src_append (l : Launch) : Ctr l y_Src_append prog_9_method_2_code 2 (some .int) rm_Src_append X_Src_append := by
  refine Ctr_of (own := "PackLanes$Source") (B := B_Src_append) (KR := fun _ Q => Q) (by decide) rfl (fun _ _ _ z => z) (fun _ _ _ _ z => ⟨Or.inl ⟨rfl, rfl⟩, z⟩) (Or.inr (Or.inl rfl)) (fun κ hl ho hR hrt hn0 => ?_)
  subst hl
  unfold B_Src_append
  exact (S_sq (pc1 := 12) (S_if1 (pT := 9) (pF := 12) (J2_ge (pF := 12) (pc1 := 4) (pc2 := 6) (E_fI f_Src_18 ho (pc1 := 1) (E_aln d_Src_append_0 rfl) d_Src_append_1) (E_bi d_Src_append_4 rfl) d_Src_append_6 rfl) (S_ri hrt (pc1 := 11) (E_bi d_Src_append_9 rfl) d_Src_append_11))
    (S_sq (pc1 := 22) (S_AI (pc1 := 16) (pc2 := 20) (pc3 := 21) (E_fR f_Src_9 ho (pc1 := 13) (E_aln d_Src_append_12 rfl) d_Src_append_13) (E_fI f_Src_18 ho (pc1 := 17) (E_aln d_Src_append_16 rfl) d_Src_append_17) (E_iln d_Src_append_20 rfl) d_Src_append_21)
    (S_sq (pc1 := 32) (S_FO f_Src_18 f_Src_18 ho (pc1 := 23) (pc2 := 28) (E_aln d_Src_append_22 rfl) d_Src_append_23 d_Src_append_24 (E_ic d_Src_append_27 rfl) (fun _ _ _ _ _ k => r_iadd d_Src_append_28 k) d_Src_append_29)
    (S_ri hrt (pc1 := 36) (E_fI f_Src_18 ho (pc1 := 33) (E_aln d_Src_append_32 rfl) d_Src_append_33) d_Src_append_36))))
theorem d_PL_write_0 : decode prog_1_method_2_code 0 = .ok (.iload_n 1, 1) := by decide +kernel
theorem d_PL_write_1 : decode prog_1_method_2_code 1 = .ok (.ifCond .lt 10, 3) := by decide +kernel
theorem d_PL_write_4 : decode prog_1_method_2_code 4 = .ok (.iload_n 1, 1) := by decide +kernel
theorem d_PL_write_5 : decode prog_1_method_2_code 5 = .ok (.sipush 255, 3) := by decide +kernel
theorem d_PL_write_8 : decode prog_1_method_2_code 8 = .ok (.if_icmp .le 6, 3) := by decide +kernel
theorem d_PL_write_11 : decode prog_1_method_2_code 11 = .ok (.bipush (-2), 2) := by decide +kernel
theorem d_PL_write_13 : decode prog_1_method_2_code 13 = .ok (.ireturn, 1) := by decide +kernel
theorem d_PL_write_14 : decode prog_1_method_2_code 14 = .ok (.aload_n 0, 1) := by decide +kernel
theorem d_PL_write_15 : decode prog_1_method_2_code 15 = .ok (.getfield 10, 3) := by decide +kernel
theorem d_PL_write_18 : decode prog_1_method_2_code 18 = .ok (.iload_n 1, 1) := by decide +kernel
theorem d_PL_write_19 : decode prog_1_method_2_code 19 = .ok (.invokevirtual 94, 3) := by decide +kernel
theorem d_PL_write_22 : decode prog_1_method_2_code 22 = .ok (.ireturn, 1) := by decide +kernel
def B_PL_write (_ : Nat × Nat) : PS :=
  (sSq (sIf (cO (e1 (fun x : Int32 => decide (x < 0)) (eI 1)) (e2 (fun x y : Int32 => decide (y < x)) (eI 1) (eV (255 : Int32)))) (sRt .int (eV (-2 : Int32))) sSk)
    (sRt .int (eX .int (xV 7 1 X_Src_append (eFR 9 0 (eR 0)) (aC .int (eI 1) aN)))))
def X_PL_write : PM := fun vs h Q => (lx vs).length ≤ 2 ∧ B_PL_write (h.length + 0, hsz h + 0) (fun _ _ => False) (fun _ _ => False) (fun _ _ => False) Q (lini 2 vs) h
theorem v_PL_write (l : Launch) : Ctr l y_PL_write prog_1_method_2_code 2 (some .int) rm_PL_write X_PL_write := by
  refine Ctr_of (own := "PackLanes") (B := B_PL_write) (KR := fun _ Q => Q) (by decide) rfl (fun _ _ _ z => z) (fun _ _ _ _ z => ⟨Or.inl ⟨rfl, rfl⟩, z⟩) (Or.inr (Or.inl rfl)) (fun κ hl ho hR hrt hn0 => ?_)
  subst hl
  unfold B_PL_write
  exact (S_sq (pc1 := 14) (S_if1 (pT := 11) (pF := 14) (C_or (pc1 := 4) (T1_lt (pT := 11) (pc2 := 1) (E_iln d_PL_write_0 rfl) d_PL_write_1 rfl) (J2_gt (pF := 14) (pc1 := 5) (pc2 := 8) (E_iln d_PL_write_4 rfl) (E_si d_PL_write_5 rfl) d_PL_write_8 rfl)) (S_ri hrt (pc1 := 13) (E_bi d_PL_write_11 rfl) d_PL_write_13))
    (S_ri hrt (pc1 := 22) (E_x (O_V k_PL_94 (v_Src_append _) ⟨rfl, rfl⟩ ho (rk hR rfl) (by decide) (T := KT7) (N := 3) rfl (by decide) (pc1 := 18) (pc2 := 19) (E_fR f_PL_10 ho (pc1 := 15) (E_aln d_PL_write_14 rfl) d_PL_write_15) (A_c catI (pc1 := 19) (E_iln d_PL_write_18 rfl) A_n) d_PL_write_19)) d_PL_write_22))
theorem d_Src_clear_0 : decode prog_9_method_3_code 0 = .ok (.aload_n 0, 1) := by decide +kernel
theorem d_Src_clear_1 : decode prog_9_method_3_code 1 = .ok (.getfield 18, 3) := by decide +kernel
theorem d_Src_clear_4 : decode prog_9_method_3_code 4 = .ok (.istore_n 1, 1) := by decide +kernel
theorem d_Src_clear_5 : decode prog_9_method_3_code 5 = .ok (.aload_n 0, 1) := by decide +kernel
theorem d_Src_clear_6 : decode prog_9_method_3_code 6 = .ok (.iconst 0, 1) := by decide +kernel
theorem d_Src_clear_7 : decode prog_9_method_3_code 7 = .ok (.putfield 18, 3) := by decide +kernel
theorem d_Src_clear_10 : decode prog_9_method_3_code 10 = .ok (.iload_n 1, 1) := by decide +kernel
theorem d_Src_clear_11 : decode prog_9_method_3_code 11 = .ok (.ireturn, 1) := by decide +kernel
def B_Src_clear (_ : Nat × Nat) : PS :=
  (sSq (sI 1 (eFI 7 2 (eR 0)))
    (sSq (sF .int 7 2 (eR 0) (eV (0 : Int32)))
    (sRt .int (eI 1))))
def X_Src_clear : PM := fun vs h Q => (lx vs).length ≤ 2 ∧ B_Src_clear (h.length + 0, hsz h + 0) (fun _ _ => False) (fun _ _ => False) (fun _ _ => False) Q (lini 2 vs) h
theorem v_Src_clear (l : Launch) : Ctr l y_Src_clear prog_9_method_3_code 2 (some .int) rm_Src_clear X_Src_clear := by
  refine Ctr_of (own := "PackLanes$Source") (B := B_Src_clear) (KR := fun _ Q => Q) (by decide) rfl (fun _ _ _ z => z) (fun _ _ _ _ z => ⟨Or.inl ⟨rfl, rfl⟩, z⟩) (Or.inr (Or.inl rfl)) (fun κ hl ho hR hrt hn0 => ?_)
  subst hl
  unfold B_Src_clear
  exact (S_sq (pc1 := 5) (S_In (pc1 := 4) (E_fI f_Src_18 ho (pc1 := 1) (E_aln d_Src_clear_0 rfl) d_Src_clear_1) d_Src_clear_4 rfl)
    (S_sq (pc1 := 10) (S_FI f_Src_18 ho (pc1 := 6) (pc2 := 7) (E_aln d_Src_clear_5 rfl) (E_ic d_Src_clear_6 rfl) d_Src_clear_7)
    (S_ri hrt (pc1 := 11) (E_iln d_Src_clear_10 rfl) d_Src_clear_11)))
theorem d_PL_wipe_0 : decode prog_1_method_3_code 0 = .ok (.aload_n 0, 1) := by decide +kernel
theorem d_PL_wipe_1 : decode prog_1_method_3_code 1 = .ok (.getfield 10, 3) := by decide +kernel
theorem d_PL_wipe_4 : decode prog_1_method_3_code 4 = .ok (.invokevirtual 98, 3) := by decide +kernel
theorem d_PL_wipe_7 : decode prog_1_method_3_code 7 = .ok (.ireturn, 1) := by decide +kernel
def B_PL_wipe (_ : Nat × Nat) : PS :=
  (sRt .int (eX .int (xV 7 0 X_Src_clear (eFR 9 0 (eR 0)) aN)))
def X_PL_wipe : PM := fun vs h Q => (lx vs).length ≤ 1 ∧ B_PL_wipe (h.length + 0, hsz h + 0) (fun _ _ => False) (fun _ _ => False) (fun _ _ => False) Q (lini 1 vs) h
theorem v_PL_wipe (l : Launch) : Ctr l y_PL_wipe prog_1_method_3_code 1 (some .int) rm_PL_wipe X_PL_wipe := by
  refine Ctr_of (own := "PackLanes") (B := B_PL_wipe) (KR := fun _ Q => Q) (by decide) rfl (fun _ _ _ z => z) (fun _ _ _ _ z => ⟨Or.inl ⟨rfl, rfl⟩, z⟩) (Or.inr (Or.inl rfl)) (fun κ hl ho hR hrt hn0 => ?_)
  subst hl
  unfold B_PL_wipe
  exact (S_ri hrt (pc1 := 7) (E_x (O_V k_PL_98 (v_Src_clear _) ⟨rfl, rfl⟩ ho (rk hR rfl) (by decide) (T := KT7) (N := 3) rfl (by decide) (pc1 := 4) (pc2 := 4) (E_fR f_PL_10 ho (pc1 := 1) (E_aln d_PL_wipe_0 rfl) d_PL_wipe_1) A_n d_PL_wipe_4)) d_PL_wipe_7)
theorem d_Src_headerAllows_0 : decode prog_9_method_6_code 0 = .ok (.iload_n 0, 1) := by decide +kernel
theorem d_Src_headerAllows_1 : decode prog_9_method_6_code 1 = .ok (.tableswitch 75 0 2 #[27, 39, 57], 27) := by decide +kernel
theorem d_Src_headerAllows_28 : decode prog_9_method_6_code 28 = .ok (.iload_n 1, 1) := by decide +kernel
theorem d_Src_headerAllows_29 : decode prog_9_method_6_code 29 = .ok (.bipush 86, 2) := by decide +kernel
theorem d_Src_headerAllows_31 : decode prog_9_method_6_code 31 = .ok (.if_icmp .ne 7, 3) := by decide +kernel
theorem d_Src_headerAllows_34 : decode prog_9_method_6_code 34 = .ok (.iconst 1, 1) := by decide +kernel
theorem d_Src_headerAllows_35 : decode prog_9_method_6_code 35 = .ok (.goto 4, 3) := by decide +kernel
theorem d_Src_headerAllows_38 : decode prog_9_method_6_code 38 = .ok (.iconst 0, 1) := by decide +kernel
theorem d_Src_headerAllows_39 : decode prog_9_method_6_code 39 = .ok (.ireturn, 1) := by decide +kernel
theorem d_Src_headerAllows_40 : decode prog_9_method_6_code 40 = .ok (.iload_n 1, 1) := by decide +kernel
theorem d_Src_headerAllows_41 : decode prog_9_method_6_code 41 = .ok (.bipush 48, 2) := by decide +kernel
theorem d_Src_headerAllows_43 : decode prog_9_method_6_code 43 = .ok (.if_icmp .lt 13, 3) := by decide +kernel
theorem d_Src_headerAllows_46 : decode prog_9_method_6_code 46 = .ok (.iload_n 1, 1) := by decide +kernel
theorem d_Src_headerAllows_47 : decode prog_9_method_6_code 47 = .ok (.bipush 56, 2) := by decide +kernel
theorem d_Src_headerAllows_49 : decode prog_9_method_6_code 49 = .ok (.if_icmp .gt 7, 3) := by decide +kernel
theorem d_Src_headerAllows_52 : decode prog_9_method_6_code 52 = .ok (.iconst 1, 1) := by decide +kernel
theorem d_Src_headerAllows_53 : decode prog_9_method_6_code 53 = .ok (.goto 4, 3) := by decide +kernel
theorem d_Src_headerAllows_56 : decode prog_9_method_6_code 56 = .ok (.iconst 0, 1) := by decide +kernel
theorem d_Src_headerAllows_57 : decode prog_9_method_6_code 57 = .ok (.ireturn, 1) := by decide +kernel
theorem d_Src_headerAllows_58 : decode prog_9_method_6_code 58 = .ok (.iload_n 1, 1) := by decide +kernel
theorem d_Src_headerAllows_59 : decode prog_9_method_6_code 59 = .ok (.bipush 48, 2) := by decide +kernel
theorem d_Src_headerAllows_61 : decode prog_9_method_6_code 61 = .ok (.if_icmp .eq 9, 3) := by decide +kernel
theorem d_Src_headerAllows_64 : decode prog_9_method_6_code 64 = .ok (.iload_n 1, 1) := by decide +kernel
theorem d_Src_headerAllows_65 : decode prog_9_method_6_code 65 = .ok (.bipush 49, 2) := by decide +kernel
theorem d_Src_headerAllows_67 : decode prog_9_method_6_code 67 = .ok (.if_icmp .ne 7, 3) := by decide +kernel
theorem d_Src_headerAllows_70 : decode prog_9_method_6_code 70 = .ok (.iconst 1, 1) := by decide +kernel
theorem d_Src_headerAllows_71 : decode prog_9_method_6_code 71 = .ok (.goto 4, 3) := by decide +kernel
theorem d_Src_headerAllows_74 : decode prog_9_method_6_code 74 = .ok (.iconst 0, 1) := by decide +kernel
theorem d_Src_headerAllows_75 : decode prog_9_method_6_code 75 = .ok (.ireturn, 1) := by decide +kernel
theorem d_Src_headerAllows_76 : decode prog_9_method_6_code 76 = .ok (.iload_n 1, 1) := by decide +kernel
theorem d_Src_headerAllows_77 : decode prog_9_method_6_code 77 = .ok (.bipush 50, 2) := by decide +kernel
theorem d_Src_headerAllows_79 : decode prog_9_method_6_code 79 = .ok (.if_icmp .eq 9, 3) := by decide +kernel
theorem d_Src_headerAllows_82 : decode prog_9_method_6_code 82 = .ok (.iload_n 1, 1) := by decide +kernel
theorem d_Src_headerAllows_83 : decode prog_9_method_6_code 83 = .ok (.bipush 52, 2) := by decide +kernel
theorem d_Src_headerAllows_85 : decode prog_9_method_6_code 85 = .ok (.if_icmp .ne 7, 3) := by decide +kernel
theorem d_Src_headerAllows_88 : decode prog_9_method_6_code 88 = .ok (.iconst 1, 1) := by decide +kernel
theorem d_Src_headerAllows_89 : decode prog_9_method_6_code 89 = .ok (.goto 4, 3) := by decide +kernel
theorem d_Src_headerAllows_92 : decode prog_9_method_6_code 92 = .ok (.iconst 0, 1) := by decide +kernel
theorem d_Src_headerAllows_93 : decode prog_9_method_6_code 93 = .ok (.ireturn, 1) := by decide +kernel
def B_Src_headerAllows (_ : Nat × Nat) : PS :=
  (sSw 2 (eI 0) [(0, 0), (1, 1), (2, 2)] 3 [(sRz (eC (e2 (fun x y : Int32 => decide (x = y)) (eI 1) (eV (86 : Int32))))),
    (sRz (eC (cA (e2 (fun x y : Int32 => decide (y ≤ x)) (eI 1) (eV (48 : Int32))) (e2 (fun x y : Int32 => decide (x ≤ y)) (eI 1) (eV (56 : Int32)))))),
    (sRz (eC (cO (e2 (fun x y : Int32 => decide (x = y)) (eI 1) (eV (48 : Int32))) (e2 (fun x y : Int32 => decide (x = y)) (eI 1) (eV (49 : Int32)))))),
    (sRz (eC (cO (e2 (fun x y : Int32 => decide (x = y)) (eI 1) (eV (50 : Int32))) (e2 (fun x y : Int32 => decide (x = y)) (eI 1) (eV (52 : Int32))))))])
def X_Src_headerAllows : PM := fun vs h Q => (lx vs).length ≤ 2 ∧ B_Src_headerAllows (h.length + 0, hsz h + 0) (fun _ _ => False) (fun _ _ => False) (fun _ _ => False) Q (lini 2 vs) h
theorem v_Src_headerAllows (l : Launch) : Ctr l y_Src_headerAllows prog_9_method_6_code 2 (some .boolean) rm_Src_headerAllows X_Src_headerAllows := by
  refine Ctr_of (own := "PackLanes$Source") (B := B_Src_headerAllows) (KR := fun _ Q => Q) (by decide) rfl (fun _ _ _ z => z) (fun _ _ _ _ z => ⟨Or.inl ⟨rfl, rfl⟩, z⟩) (Or.inr (Or.inr (Or.inl rfl))) (fun κ hl ho hR hrt hn0 => ?_)
  subst hl
  unfold B_Src_headerAllows
  exact (S_sw (pcs := [28, 40, 58, 76, _]) (pc1 := 1)  (E_iln d_Src_headerAllows_0 rfl) (fun _ _ _ k => r_tsw d_Src_headerAllows_1 (by decide +kernel) k) (And.intro (S_rz hrt (pc1 := 39) (E_C (pT := 34) (pF := 38) (pc2 := 39) (J2_eq (pF := 38) (pc1 := 29) (pc2 := 31) (E_iln d_Src_headerAllows_28 rfl) (E_bi d_Src_headerAllows_29 rfl) d_Src_headerAllows_31 rfl) d_Src_headerAllows_34 d_Src_headerAllows_35 rfl d_Src_headerAllows_38 rfl) d_Src_headerAllows_39)
    (And.intro (S_rz hrt (pc1 := 57) (E_C (pT := 52) (pF := 56) (pc2 := 57) (C_and (pc1 := 46) (J2_ge (pF := 56) (pc1 := 41) (pc2 := 43) (E_iln d_Src_headerAllows_40 rfl) (E_bi d_Src_headerAllows_41 rfl) d_Src_headerAllows_43 rfl) (J2_le (pF := 56) (pc1 := 47) (pc2 := 49) (E_iln d_Src_headerAllows_46 rfl) (E_bi d_Src_headerAllows_47 rfl) d_Src_headerAllows_49 rfl)) d_Src_headerAllows_52 d_Src_headerAllows_53 rfl d_Src_headerAllows_56 rfl) d_Src_headerAllows_57)
    (And.intro (S_rz hrt (pc1 := 75) (E_C (pT := 70) (pF := 74) (pc2 := 75) (C_or (pc1 := 64) (T2_eq (pT := 70) (pc1 := 59) (pc2 := 61) (E_iln d_Src_headerAllows_58 rfl) (E_bi d_Src_headerAllows_59 rfl) d_Src_headerAllows_61 rfl) (J2_eq (pF := 74) (pc1 := 65) (pc2 := 67) (E_iln d_Src_headerAllows_64 rfl) (E_bi d_Src_headerAllows_65 rfl) d_Src_headerAllows_67 rfl)) d_Src_headerAllows_70 d_Src_headerAllows_71 rfl d_Src_headerAllows_74 rfl) d_Src_headerAllows_75)
    (And.intro (S_rz hrt (pc1 := 93) (E_C (pT := 88) (pF := 92) (pc2 := 93) (C_or (pc1 := 82) (T2_eq (pT := 88) (pc1 := 77) (pc2 := 79) (E_iln d_Src_headerAllows_76 rfl) (E_bi d_Src_headerAllows_77 rfl) d_Src_headerAllows_79 rfl) (J2_eq (pF := 92) (pc1 := 83) (pc2 := 85) (E_iln d_Src_headerAllows_82 rfl) (E_bi d_Src_headerAllows_83 rfl) d_Src_headerAllows_85 rfl)) d_Src_headerAllows_88 d_Src_headerAllows_89 rfl d_Src_headerAllows_92 rfl) d_Src_headerAllows_93)
    rfl)))) (by decide))
theorem d_Src_kindOf_0 : decode prog_9_method_7_code 0 = .ok (.iload_n 0, 1) := by decide +kernel
theorem d_Src_kindOf_1 : decode prog_9_method_7_code 1 = .ok (.lookupswitch 82 #[(42, 75), (43, 71), (45, 73), (47, 77), (107, 69), (108, 67), (115, 79)], 67) := by decide +kernel
theorem d_Src_kindOf_68 : decode prog_9_method_7_code 68 = .ok (.iconst 0, 1) := by decide +kernel
theorem d_Src_kindOf_69 : decode prog_9_method_7_code 69 = .ok (.ireturn, 1) := by decide +kernel
theorem d_Src_kindOf_70 : decode prog_9_method_7_code 70 = .ok (.iconst 1, 1) := by decide +kernel
theorem d_Src_kindOf_71 : decode prog_9_method_7_code 71 = .ok (.ireturn, 1) := by decide +kernel
theorem d_Src_kindOf_72 : decode prog_9_method_7_code 72 = .ok (.iconst 2, 1) := by decide +kernel
theorem d_Src_kindOf_73 : decode prog_9_method_7_code 73 = .ok (.ireturn, 1) := by decide +kernel
theorem d_Src_kindOf_74 : decode prog_9_method_7_code 74 = .ok (.iconst 3, 1) := by decide +kernel
theorem d_Src_kindOf_75 : decode prog_9_method_7_code 75 = .ok (.ireturn, 1) := by decide +kernel
theorem d_Src_kindOf_76 : decode prog_9_method_7_code 76 = .ok (.iconst 4, 1) := by decide +kernel
theorem d_Src_kindOf_77 : decode prog_9_method_7_code 77 = .ok (.ireturn, 1) := by decide +kernel
theorem d_Src_kindOf_78 : decode prog_9_method_7_code 78 = .ok (.iconst 5, 1) := by decide +kernel
theorem d_Src_kindOf_79 : decode prog_9_method_7_code 79 = .ok (.ireturn, 1) := by decide +kernel
theorem d_Src_kindOf_80 : decode prog_9_method_7_code 80 = .ok (.bipush 6, 2) := by decide +kernel
theorem d_Src_kindOf_82 : decode prog_9_method_7_code 82 = .ok (.ireturn, 1) := by decide +kernel
theorem d_Src_kindOf_83 : decode prog_9_method_7_code 83 = .ok (.bipush (-9), 2) := by decide +kernel
theorem d_Src_kindOf_85 : decode prog_9_method_7_code 85 = .ok (.ireturn, 1) := by decide +kernel
def B_Src_kindOf (_ : Nat × Nat) : PS :=
  (sSw 1 (eI 0) [(42, 4), (43, 2), (45, 3), (47, 5), (107, 1), (108, 0), (115, 6)] 7 [(sRt .int (eV (0 : Int32))),
    (sRt .int (eV (1 : Int32))),
    (sRt .int (eV (2 : Int32))),
    (sRt .int (eV (3 : Int32))),
    (sRt .int (eV (4 : Int32))),
    (sRt .int (eV (5 : Int32))),
    (sRt .int (eV (6 : Int32))),
    (sRt .int (eV (-9 : Int32)))])
def X_Src_kindOf : PM := fun vs h Q => (lx vs).length ≤ 1 ∧ B_Src_kindOf (h.length + 0, hsz h + 0) (fun _ _ => False) (fun _ _ => False) (fun _ _ => False) Q (lini 1 vs) h
theorem v_Src_kindOf (l : Launch) : Ctr l y_Src_kindOf prog_9_method_7_code 1 (some .int) rm_Src_kindOf X_Src_kindOf := by
  refine Ctr_of (own := "PackLanes$Source") (B := B_Src_kindOf) (KR := fun _ Q => Q) (by decide) rfl (fun _ _ _ z => z) (fun _ _ _ _ z => ⟨Or.inl ⟨rfl, rfl⟩, z⟩) (Or.inr (Or.inl rfl)) (fun κ hl ho hR hrt hn0 => ?_)
  subst hl
  unfold B_Src_kindOf
  exact (S_sw (pcs := [68, 70, 72, 74, 76, 78, 80, 83, _]) (pc1 := 1)  (E_iln d_Src_kindOf_0 rfl) (fun _ _ _ k => r_lsw d_Src_kindOf_1 (by decide +kernel) k) (And.intro (S_ri hrt (pc1 := 69) (E_ic d_Src_kindOf_68 rfl) d_Src_kindOf_69)
    (And.intro (S_ri hrt (pc1 := 71) (E_ic d_Src_kindOf_70 rfl) d_Src_kindOf_71)
    (And.intro (S_ri hrt (pc1 := 73) (E_ic d_Src_kindOf_72 rfl) d_Src_kindOf_73)
    (And.intro (S_ri hrt (pc1 := 75) (E_ic d_Src_kindOf_74 rfl) d_Src_kindOf_75)
    (And.intro (S_ri hrt (pc1 := 77) (E_ic d_Src_kindOf_76 rfl) d_Src_kindOf_77)
    (And.intro (S_ri hrt (pc1 := 79) (E_ic d_Src_kindOf_78 rfl) d_Src_kindOf_79)
    (And.intro (S_ri hrt (pc1 := 82) (E_bi d_Src_kindOf_80 rfl) d_Src_kindOf_82)
    (And.intro (S_ri hrt (pc1 := 85) (E_bi d_Src_kindOf_83 rfl) d_Src_kindOf_85)
    rfl)))))))) (by decide))
theorem d_Src_partsOf_0 : decode prog_9_method_8_code 0 = .ok (.iload_n 0, 1) := by decide +kernel
theorem d_Src_partsOf_1 : decode prog_9_method_8_code 1 = .ok (.iconst 1, 1) := by decide +kernel
theorem d_Src_partsOf_2 : decode prog_9_method_8_code 2 = .ok (.if_icmp .ne 7, 3) := by decide +kernel
theorem d_Src_partsOf_5 : decode prog_9_method_8_code 5 = .ok (.iconst 1, 1) := by decide +kernel
theorem d_Src_partsOf_6 : decode prog_9_method_8_code 6 = .ok (.goto 14, 3) := by decide +kernel
theorem d_Src_partsOf_9 : decode prog_9_method_8_code 9 = .ok (.iload_n 0, 1) := by decide +kernel
theorem d_Src_partsOf_10 : decode prog_9_method_8_code 10 = .ok (.bipush 6, 2) := by decide +kernel
theorem d_Src_partsOf_12 : decode prog_9_method_8_code 12 = .ok (.if_icmp .ne 7, 3) := by decide +kernel
theorem d_Src_partsOf_15 : decode prog_9_method_8_code 15 = .ok (.iconst 3, 1) := by decide +kernel
theorem d_Src_partsOf_16 : decode prog_9_method_8_code 16 = .ok (.goto 4, 3) := by decide +kernel
theorem d_Src_partsOf_19 : decode prog_9_method_8_code 19 = .ok (.iconst 2, 1) := by decide +kernel
theorem d_Src_partsOf_20 : decode prog_9_method_8_code 20 = .ok (.ireturn, 1) := by decide +kernel
def B_Src_partsOf (_ : Nat × Nat) : PS :=
  (sRt .int (eIf (e2 (fun x y : Int32 => decide (x = y)) (eI 0) (eV (1 : Int32))) (eV (1 : Int32)) (eIf (e2 (fun x y : Int32 => decide (x = y)) (eI 0) (eV (6 : Int32))) (eV (3 : Int32)) (eV (2 : Int32)))))
def X_Src_partsOf : PM := fun vs h Q => (lx vs).length ≤ 1 ∧ B_Src_partsOf (h.length + 0, hsz h + 0) (fun _ _ => False) (fun _ _ => False) (fun _ _ => False) Q (lini 1 vs) h
theorem v_Src_partsOf (l : Launch) : Ctr l y_Src_partsOf prog_9_method_8_code 1 (some .int) rm_Src_partsOf X_Src_partsOf := by
  refine Ctr_of (own := "PackLanes$Source") (B := B_Src_partsOf) (KR := fun _ Q => Q) (by decide) rfl (fun _ _ _ z => z) (fun _ _ _ _ z => ⟨Or.inl ⟨rfl, rfl⟩, z⟩) (Or.inr (Or.inl rfl)) (fun κ hl ho hR hrt hn0 => ?_)
  subst hl
  unfold B_Src_partsOf
  exact (S_ri hrt (pc1 := 20) (E_if (pT := 5) (pF := 9) (pc1 := 6) (pc2 := 20) (J2_eq (pF := 9) (pc1 := 1) (pc2 := 2) (E_iln d_Src_partsOf_0 rfl) (E_ic d_Src_partsOf_1 rfl) d_Src_partsOf_2 rfl) (E_ic d_Src_partsOf_5 rfl) d_Src_partsOf_6 rfl (E_if (pT := 15) (pF := 19) (pc1 := 16) (pc2 := 20) (J2_eq (pF := 19) (pc1 := 10) (pc2 := 12) (E_iln d_Src_partsOf_9 rfl) (E_bi d_Src_partsOf_10 rfl) d_Src_partsOf_12 rfl) (E_ic d_Src_partsOf_15 rfl) d_Src_partsOf_16 rfl (E_ic d_Src_partsOf_19 rfl))) d_Src_partsOf_20)
theorem d_Src_digitBelow_0 : decode prog_9_method_10_code 0 = .ok (.iload_n 1, 1) := by decide +kernel
theorem d_Src_digitBelow_1 : decode prog_9_method_10_code 1 = .ok (.bipush 48, 2) := by decide +kernel
theorem d_Src_digitBelow_3 : decode prog_9_method_10_code 3 = .ok (.isub, 1) := by decide +kernel
theorem d_Src_digitBelow_4 : decode prog_9_method_10_code 4 = .ok (.istore_n 2, 1) := by decide +kernel
theorem d_Src_digitBelow_5 : decode prog_9_method_10_code 5 = .ok (.iload_n 2, 1) := by decide +kernel
theorem d_Src_digitBelow_6 : decode prog_9_method_10_code 6 = .ok (.ifCond .lt 12, 3) := by decide +kernel
theorem d_Src_digitBelow_9 : decode prog_9_method_10_code 9 = .ok (.iload_n 2, 1) := by decide +kernel
theorem d_Src_digitBelow_10 : decode prog_9_method_10_code 10 = .ok (.iload_n 0, 1) := by decide +kernel
theorem d_Src_digitBelow_11 : decode prog_9_method_10_code 11 = .ok (.if_icmp .ge 7, 3) := by decide +kernel
theorem d_Src_digitBelow_14 : decode prog_9_method_10_code 14 = .ok (.iload_n 2, 1) := by decide +kernel
theorem d_Src_digitBelow_15 : decode prog_9_method_10_code 15 = .ok (.goto 5, 3) := by decide +kernel
theorem d_Src_digitBelow_18 : decode prog_9_method_10_code 18 = .ok (.bipush (-9), 2) := by decide +kernel
theorem d_Src_digitBelow_20 : decode prog_9_method_10_code 20 = .ok (.ireturn, 1) := by decide +kernel
def B_Src_digitBelow (_ : Nat × Nat) : PS :=
  (sSq (sI 2 (e2 (fun x y : Int32 => x - y) (eI 1) (eV (48 : Int32))))
    (sRt .int (eIf (cA (e1 (fun x : Int32 => decide (0 ≤ x)) (eI 2)) (e2 (fun x y : Int32 => decide (x < y)) (eI 2) (eI 0))) (eI 2) (eV (-9 : Int32)))))
def X_Src_digitBelow : PM := fun vs h Q => (lx vs).length ≤ 3 ∧ B_Src_digitBelow (h.length + 0, hsz h + 0) (fun _ _ => False) (fun _ _ => False) (fun _ _ => False) Q (lini 3 vs) h
theorem v_Src_digitBelow (l : Launch) : Ctr l y_Src_digitBelow prog_9_method_10_code 3 (some .int) rm_Src_digitBelow X_Src_digitBelow := by
  refine Ctr_of (own := "PackLanes$Source") (B := B_Src_digitBelow) (KR := fun _ Q => Q) (by decide) rfl (fun _ _ _ z => z) (fun _ _ _ _ z => ⟨Or.inl ⟨rfl, rfl⟩, z⟩) (Or.inr (Or.inl rfl)) (fun κ hl ho hR hrt hn0 => ?_)
  subst hl
  unfold B_Src_digitBelow
  exact (S_sq (pc1 := 5) (S_In (pc1 := 4) (E_isub (pc1 := 1) (pc2 := 3) (E_iln d_Src_digitBelow_0 rfl) (E_bi d_Src_digitBelow_1 rfl) d_Src_digitBelow_3) d_Src_digitBelow_4 rfl)
    (S_ri hrt (pc1 := 20) (E_if (pT := 14) (pF := 18) (pc1 := 15) (pc2 := 20) (C_and (pc1 := 9) (J1_ge (pF := 18) (pc2 := 6) (E_iln d_Src_digitBelow_5 rfl) d_Src_digitBelow_6 rfl) (J2_lt (pF := 18) (pc1 := 10) (pc2 := 11) (E_iln d_Src_digitBelow_9 rfl) (E_iln d_Src_digitBelow_10 rfl) d_Src_digitBelow_11 rfl)) (E_iln d_Src_digitBelow_14 rfl) d_Src_digitBelow_15 rfl (E_bi d_Src_digitBelow_18 rfl)) d_Src_digitBelow_20))
theorem d_Code_has_0 : decode prog_3_method_3_code 0 = .ok (.iload_n 1, 1) := by decide +kernel
theorem d_Code_has_1 : decode prog_3_method_3_code 1 = .ok (.ifCond .lt 15, 3) := by decide +kernel
theorem d_Code_has_4 : decode prog_3_method_3_code 4 = .ok (.iload_n 1, 1) := by decide +kernel
theorem d_Code_has_5 : decode prog_3_method_3_code 5 = .ok (.aload_n 0, 1) := by decide +kernel
theorem d_Code_has_6 : decode prog_3_method_3_code 6 = .ok (.getfield 30, 3) := by decide +kernel
theorem d_Code_has_9 : decode prog_3_method_3_code 9 = .ok (.if_icmp .ge 7, 3) := by decide +kernel
theorem d_Code_has_12 : decode prog_3_method_3_code 12 = .ok (.iconst 1, 1) := by decide +kernel
theorem d_Code_has_13 : decode prog_3_method_3_code 13 = .ok (.goto 4, 3) := by decide +kernel
theorem d_Code_has_16 : decode prog_3_method_3_code 16 = .ok (.iconst 0, 1) := by decide +kernel
theorem d_Code_has_17 : decode prog_3_method_3_code 17 = .ok (.ireturn, 1) := by decide +kernel
def B_Code_has (_ : Nat × Nat) : PS :=
  (sRz (eC (cA (e1 (fun x : Int32 => decide (0 ≤ x)) (eI 1)) (e2 (fun x y : Int32 => decide (x < y)) (eI 1) (eFI 1 6 (eR 0))))))
def X_Code_has : PM := fun vs h Q => (lx vs).length ≤ 2 ∧ B_Code_has (h.length + 0, hsz h + 0) (fun _ _ => False) (fun _ _ => False) (fun _ _ => False) Q (lini 2 vs) h
theorem v_Code_has (l : Launch) : Ctr l y_Code_has prog_3_method_3_code 2 (some .boolean) rm_Code_has X_Code_has := by
  refine Ctr_of (own := "PackLanes$Code") (B := B_Code_has) (KR := fun _ Q => Q) (by decide) rfl (fun _ _ _ z => z) (fun _ _ _ _ z => ⟨Or.inl ⟨rfl, rfl⟩, z⟩) (Or.inr (Or.inr (Or.inl rfl))) (fun κ hl ho hR hrt hn0 => ?_)
  subst hl
  unfold B_Code_has
  exact (S_rz hrt (pc1 := 17) (E_C (pT := 12) (pF := 16) (pc2 := 17) (C_and (pc1 := 4) (J1_ge (pF := 16) (pc2 := 1) (E_iln d_Code_has_0 rfl) d_Code_has_1 rfl) (J2_lt (pF := 16) (pc1 := 5) (pc2 := 9) (E_iln d_Code_has_4 rfl) (E_fI f_Code_30 ho (pc1 := 6) (E_aln d_Code_has_5 rfl) d_Code_has_6) d_Code_has_9 rfl)) d_Code_has_12 d_Code_has_13 rfl d_Code_has_16 rfl) d_Code_has_17)
theorem d_Code_operandNamed_0 : decode prog_3_method_5_code 0 = .ok (.iload_n 1, 1) := by decide +kernel
theorem d_Code_operandNamed_1 : decode prog_3_method_5_code 1 = .ok (.bipush 97, 2) := by decide +kernel
theorem d_Code_operandNamed_3 : decode prog_3_method_5_code 3 = .ok (.isub, 1) := by decide +kernel
theorem d_Code_operandNamed_4 : decode prog_3_method_5_code 4 = .ok (.istore_n 2, 1) := by decide +kernel
theorem d_Code_operandNamed_5 : decode prog_3_method_5_code 5 = .ok (.aload_n 0, 1) := by decide +kernel
theorem d_Code_operandNamed_6 : decode prog_3_method_5_code 6 = .ok (.iload_n 2, 1) := by decide +kernel
theorem d_Code_operandNamed_7 : decode prog_3_method_5_code 7 = .ok (.invokevirtual 44, 3) := by decide +kernel
theorem d_Code_operandNamed_10 : decode prog_3_method_5_code 10 = .ok (.ifCond .eq 18, 3) := by decide +kernel
theorem d_Code_operandNamed_13 : decode prog_3_method_5_code 13 = .ok (.aload_n 0, 1) := by decide +kernel
theorem d_Code_operandNamed_14 : decode prog_3_method_5_code 14 = .ok (.getfield 9, 3) := by decide +kernel
theorem d_Code_operandNamed_17 : decode prog_3_method_5_code 17 = .ok (.iload_n 2, 1) := by decide +kernel
theorem d_Code_operandNamed_18 : decode prog_3_method_5_code 18 = .ok (.iaload, 1) := by decide +kernel
theorem d_Code_operandNamed_19 : decode prog_3_method_5_code 19 = .ok (.bipush 6, 2) := by decide +kernel
theorem d_Code_operandNamed_21 : decode prog_3_method_5_code 21 = .ok (.if_icmp .eq 7, 3) := by decide +kernel
theorem d_Code_operandNamed_24 : decode prog_3_method_5_code 24 = .ok (.iload_n 2, 1) := by decide +kernel
theorem d_Code_operandNamed_25 : decode prog_3_method_5_code 25 = .ok (.goto 5, 3) := by decide +kernel
theorem d_Code_operandNamed_28 : decode prog_3_method_5_code 28 = .ok (.bipush (-9), 2) := by decide +kernel
theorem d_Code_operandNamed_30 : decode prog_3_method_5_code 30 = .ok (.ireturn, 1) := by decide +kernel
def B_Code_operandNamed (_ : Nat × Nat) : PS :=
  (sSq (sI 2 (e2 (fun x y : Int32 => x - y) (eI 1) (eV (97 : Int32))))
    (sRt .int (eIf (cA (e1 (fun x : Int32 => decide (¬ x = 0)) (eX .int (xV 1 1 X_Code_has (eR 0) (aC .int (eI 2) aN)))) (e2 (fun x y : Int32 => decide (¬ x = y)) (eAI (eFR 1 0 (eR 0)) (eI 2)) (eV (6 : Int32)))) (eI 2) (eV (-9 : Int32)))))
def X_Code_operandNamed : PM := fun vs h Q => (lx vs).length ≤ 3 ∧ B_Code_operandNamed (h.length + 0, hsz h + 0) (fun _ _ => False) (fun _ _ => False) (fun _ _ => False) Q (lini 3 vs) h
theorem v_Code_operandNamed (l : Launch) : Ctr l y_Code_operandNamed prog_3_method_5_code 3 (some .int) rm_Code_operandNamed X_Code_operandNamed := by
  refine Ctr_of (own := "PackLanes$Code") (B := B_Code_operandNamed) (KR := fun _ Q => Q) (by decide) rfl (fun _ _ _ z => z) (fun _ _ _ _ z => ⟨Or.inl ⟨rfl, rfl⟩, z⟩) (Or.inr (Or.inl rfl)) (fun κ hl ho hR hrt hn0 => ?_)
  subst hl
  unfold B_Code_operandNamed
  exact (S_sq (pc1 := 5) (S_In (pc1 := 4) (E_isub (pc1 := 1) (pc2 := 3) (E_iln d_Code_operandNamed_0 rfl) (E_bi d_Code_operandNamed_1 rfl) d_Code_operandNamed_3) d_Code_operandNamed_4 rfl)
    (S_ri hrt (pc1 := 30) (E_if (pT := 24) (pF := 28) (pc1 := 25) (pc2 := 30) (C_and (pc1 := 13) (J1_ne (pF := 28) (pc2 := 10) (E_x (O_V k_Code_44 (v_Code_has _) ⟨rfl, rfl⟩ ho (rk hR rfl) (by decide) (T := KT1) (N := 7) rfl (by decide) (pc1 := 6) (pc2 := 7) (E_aln d_Code_operandNamed_5 rfl) (A_c catI (pc1 := 7) (E_iln d_Code_operandNamed_6 rfl) A_n) d_Code_operandNamed_7)) d_Code_operandNamed_10 rfl) (J2_ne (pF := 28) (pc1 := 19) (pc2 := 21) (E_aI (pc1 := 17) (pc2 := 18) (E_fR f_Code_9 ho (pc1 := 14) (E_aln d_Code_operandNamed_13 rfl) d_Code_operandNamed_14) (E_iln d_Code_operandNamed_17 rfl) d_Code_operandNamed_18) (E_bi d_Code_operandNamed_19 rfl) d_Code_operandNamed_21 rfl)) (E_iln d_Code_operandNamed_24 rfl) d_Code_operandNamed_25 rfl (E_bi d_Code_operandNamed_28 rfl)) d_Code_operandNamed_30))
theorem d_Src_partOf_0 : decode prog_9_method_9_code 0 = .ok (.iload_n 0, 1) := by decide +kernel
theorem d_Src_partOf_1 : decode prog_9_method_9_code 1 = .ok (.iconst 1, 1) := by decide +kernel
theorem d_Src_partOf_2 : decode prog_9_method_9_code 2 = .ok (.if_icmp .ne 10, 3) := by decide +kernel
theorem d_Src_partOf_5 : decode prog_9_method_9_code 5 = .ok (.bipush 10, 2) := by decide +kernel
theorem d_Src_partOf_7 : decode prog_9_method_9_code 7 = .ok (.iload_n 2, 1) := by decide +kernel
theorem d_Src_partOf_8 : decode prog_9_method_9_code 8 = .ok (.invokestatic 50, 3) := by decide +kernel
theorem d_Src_partOf_11 : decode prog_9_method_9_code 11 = .ok (.ireturn, 1) := by decide +kernel
theorem d_Src_partOf_12 : decode prog_9_method_9_code 12 = .ok (.iload_n 0, 1) := by decide +kernel
theorem d_Src_partOf_13 : decode prog_9_method_9_code 13 = .ok (.ifCond .eq 9, 3) := by decide +kernel
theorem d_Src_partOf_16 : decode prog_9_method_9_code 16 = .ok (.iload_n 0, 1) := by decide +kernel
theorem d_Src_partOf_17 : decode prog_9_method_9_code 17 = .ok (.bipush 6, 2) := by decide +kernel
theorem d_Src_partOf_19 : decode prog_9_method_9_code 19 = .ok (.if_icmp .ne 31, 3) := by decide +kernel
theorem d_Src_partOf_22 : decode prog_9_method_9_code 22 = .ok (.iload_n 1, 1) := by decide +kernel
theorem d_Src_partOf_23 : decode prog_9_method_9_code 23 = .ok (.iconst 1, 1) := by decide +kernel
theorem d_Src_partOf_24 : decode prog_9_method_9_code 24 = .ok (.if_icmp .ne 26, 3) := by decide +kernel
theorem d_Src_partOf_27 : decode prog_9_method_9_code 27 = .ok (.iload_n 2, 1) := by decide +kernel
theorem d_Src_partOf_28 : decode prog_9_method_9_code 28 = .ok (.bipush 65, 2) := by decide +kernel
theorem d_Src_partOf_30 : decode prog_9_method_9_code 30 = .ok (.if_icmp .ne 7, 3) := by decide +kernel
theorem d_Src_partOf_33 : decode prog_9_method_9_code 33 = .ok (.iconst 0, 1) := by decide +kernel
theorem d_Src_partOf_34 : decode prog_9_method_9_code 34 = .ok (.goto 15, 3) := by decide +kernel
theorem d_Src_partOf_37 : decode prog_9_method_9_code 37 = .ok (.iload_n 2, 1) := by decide +kernel
theorem d_Src_partOf_38 : decode prog_9_method_9_code 38 = .ok (.bipush 66, 2) := by decide +kernel
theorem d_Src_partOf_40 : decode prog_9_method_9_code 40 = .ok (.if_icmp .ne 7, 3) := by decide +kernel
theorem d_Src_partOf_43 : decode prog_9_method_9_code 43 = .ok (.iconst 1, 1) := by decide +kernel
theorem d_Src_partOf_44 : decode prog_9_method_9_code 44 = .ok (.goto 5, 3) := by decide +kernel
theorem d_Src_partOf_47 : decode prog_9_method_9_code 47 = .ok (.bipush (-9), 2) := by decide +kernel
theorem d_Src_partOf_49 : decode prog_9_method_9_code 49 = .ok (.ireturn, 1) := by decide +kernel
theorem d_Src_partOf_50 : decode prog_9_method_9_code 50 = .ok (.iload_n 0, 1) := by decide +kernel
theorem d_Src_partOf_51 : decode prog_9_method_9_code 51 = .ok (.ifCond .eq 9, 3) := by decide +kernel
theorem d_Src_partOf_54 : decode prog_9_method_9_code 54 = .ok (.iload_n 0, 1) := by decide +kernel
theorem d_Src_partOf_55 : decode prog_9_method_9_code 55 = .ok (.bipush 6, 2) := by decide +kernel
theorem d_Src_partOf_57 : decode prog_9_method_9_code 57 = .ok (.if_icmp .ne 15, 3) := by decide +kernel
theorem d_Src_partOf_60 : decode prog_9_method_9_code 60 = .ok (.iload_n 1, 1) := by decide +kernel
theorem d_Src_partOf_61 : decode prog_9_method_9_code 61 = .ok (.iconst 2, 1) := by decide +kernel
theorem d_Src_partOf_62 : decode prog_9_method_9_code 62 = .ok (.if_icmp .ne 10, 3) := by decide +kernel
theorem d_Src_partOf_65 : decode prog_9_method_9_code 65 = .ok (.bipush 8, 2) := by decide +kernel
theorem d_Src_partOf_67 : decode prog_9_method_9_code 67 = .ok (.iload_n 2, 1) := by decide +kernel
theorem d_Src_partOf_68 : decode prog_9_method_9_code 68 = .ok (.invokestatic 50, 3) := by decide +kernel
theorem d_Src_partOf_71 : decode prog_9_method_9_code 71 = .ok (.ireturn, 1) := by decide +kernel
theorem d_Src_partOf_72 : decode prog_9_method_9_code 72 = .ok (.aload_n 3, 1) := by decide +kernel
theorem d_Src_partOf_73 : decode prog_9_method_9_code 73 = .ok (.iload_n 2, 1) := by decide +kernel
theorem d_Src_partOf_74 : decode prog_9_method_9_code 74 = .ok (.invokevirtual 54, 3) := by decide +kernel
theorem d_Src_partOf_77 : decode prog_9_method_9_code 77 = .ok (.ireturn, 1) := by decide +kernel
def B_Src_partOf (_ : Nat × Nat) : PS :=
  (sSq (sIf (e2 (fun x y : Int32 => decide (x = y)) (eI 0) (eV (1 : Int32))) (sRt .int (eX .int (xS 2 X_Src_digitBelow (aC .int (eV (10 : Int32)) (aC .int (eI 2) aN))))) sSk)
    (sSq (sIf (cA (cO (e1 (fun x : Int32 => decide (x = 0)) (eI 0)) (e2 (fun x y : Int32 => decide (x = y)) (eI 0) (eV (6 : Int32)))) (e2 (fun x y : Int32 => decide (x = y)) (eI 1) (eV (1 : Int32)))) (sRt .int (eIf (e2 (fun x y : Int32 => decide (x = y)) (eI 2) (eV (65 : Int32))) (eV (0 : Int32)) (eIf (e2 (fun x y : Int32 => decide (x = y)) (eI 2) (eV (66 : Int32))) (eV (1 : Int32)) (eV (-9 : Int32))))) sSk)
    (sSq (sIf (cA (cO (e1 (fun x : Int32 => decide (x = 0)) (eI 0)) (e2 (fun x y : Int32 => decide (x = y)) (eI 0) (eV (6 : Int32)))) (e2 (fun x y : Int32 => decide (x = y)) (eI 1) (eV (2 : Int32)))) (sRt .int (eX .int (xS 2 X_Src_digitBelow (aC .int (eV (8 : Int32)) (aC .int (eI 2) aN))))) sSk)
    (sRt .int (eX .int (xV 1 1 X_Code_operandNamed (eR 3) (aC .int (eI 2) aN)))))))
def X_Src_partOf : PM := fun vs h Q => (lx vs).length ≤ 4 ∧ B_Src_partOf (h.length + 0, hsz h + 0) (fun _ _ => False) (fun _ _ => False) (fun _ _ => False) Q (lini 4 vs) h
theorem v_Src_partOf (l : Launch) : Ctr l y_Src_partOf prog_9_method_9_code 4 (some .int) rm_Src_partOf X_Src_partOf := by
  refine Ctr_of (own := "PackLanes$Source") (B := B_Src_partOf) (KR := fun _ Q => Q) (by decide) rfl (fun _ _ _ z => z) (fun _ _ _ _ z => ⟨Or.inl ⟨rfl, rfl⟩, z⟩) (Or.inr (Or.inl rfl)) (fun κ hl ho hR hrt hn0 => ?_)
  subst hl
  unfold B_Src_partOf
  exact (S_sq (pc1 := 12) (S_if1 (pT := 5) (pF := 12) (J2_eq (pF := 12) (pc1 := 1) (pc2 := 2) (E_iln d_Src_partOf_0 rfl) (E_ic d_Src_partOf_1 rfl) d_Src_partOf_2 rfl) (S_ri hrt (pc1 := 11) (E_x (O_S k_Src_50 (v_Src_digitBelow _) ⟨rfl, rfl⟩ ho (rk hR rfl) (by decide) (pc2 := 8) (A_c catI (pc1 := 7) (E_bi d_Src_partOf_5 rfl) (A_c catI (pc1 := 8) (E_iln d_Src_partOf_7 rfl) A_n)) d_Src_partOf_8)) d_Src_partOf_11))
    (S_sq (pc1 := 50) (S_if1 (pT := 27) (pF := 50) (C_and (pc1 := 22) (C_or (pc1 := 16) (T1_eq (pT := 22) (pc2 := 13) (E_iln d_Src_partOf_12 rfl) d_Src_partOf_13 rfl) (J2_eq (pF := 50) (pc1 := 17) (pc2 := 19) (E_iln d_Src_partOf_16 rfl) (E_bi d_Src_partOf_17 rfl) d_Src_partOf_19 rfl)) (J2_eq (pF := 50) (pc1 := 23) (pc2 := 24) (E_iln d_Src_partOf_22 rfl) (E_ic d_Src_partOf_23 rfl) d_Src_partOf_24 rfl)) (S_ri hrt (pc1 := 49) (E_if (pT := 33) (pF := 37) (pc1 := 34) (pc2 := 49) (J2_eq (pF := 37) (pc1 := 28) (pc2 := 30) (E_iln d_Src_partOf_27 rfl) (E_bi d_Src_partOf_28 rfl) d_Src_partOf_30 rfl) (E_ic d_Src_partOf_33 rfl) d_Src_partOf_34 rfl (E_if (pT := 43) (pF := 47) (pc1 := 44) (pc2 := 49) (J2_eq (pF := 47) (pc1 := 38) (pc2 := 40) (E_iln d_Src_partOf_37 rfl) (E_bi d_Src_partOf_38 rfl) d_Src_partOf_40 rfl) (E_ic d_Src_partOf_43 rfl) d_Src_partOf_44 rfl (E_bi d_Src_partOf_47 rfl))) d_Src_partOf_49))
    (S_sq (pc1 := 72) (S_if1 (pT := 65) (pF := 72) (C_and (pc1 := 60) (C_or (pc1 := 54) (T1_eq (pT := 60) (pc2 := 51) (E_iln d_Src_partOf_50 rfl) d_Src_partOf_51 rfl) (J2_eq (pF := 72) (pc1 := 55) (pc2 := 57) (E_iln d_Src_partOf_54 rfl) (E_bi d_Src_partOf_55 rfl) d_Src_partOf_57 rfl)) (J2_eq (pF := 72) (pc1 := 61) (pc2 := 62) (E_iln d_Src_partOf_60 rfl) (E_ic d_Src_partOf_61 rfl) d_Src_partOf_62 rfl)) (S_ri hrt (pc1 := 71) (E_x (O_S k_Src_50 (v_Src_digitBelow _) ⟨rfl, rfl⟩ ho (rk hR rfl) (by decide) (pc2 := 68) (A_c catI (pc1 := 67) (E_bi d_Src_partOf_65 rfl) (A_c catI (pc1 := 68) (E_iln d_Src_partOf_67 rfl) A_n)) d_Src_partOf_68)) d_Src_partOf_71))
    (S_ri hrt (pc1 := 77) (E_x (O_V k_Src_54 (v_Code_operandNamed _) ⟨rfl, rfl⟩ ho (rk hR rfl) (by decide) (T := KT1) (N := 7) rfl (by decide) (pc1 := 73) (pc2 := 74) (E_aln d_Src_partOf_72 rfl) (A_c catI (pc1 := 74) (E_iln d_Src_partOf_73 rfl) A_n) d_Src_partOf_74)) d_Src_partOf_77))))
